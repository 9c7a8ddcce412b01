section
-- ===== PART A: goes FIRST, ahead of the names: the tables' words, and 'selects' of the private methods out of them =====
/-- a private method of a class that the tables say can be made, by its rows of tables_1 -/
def lw_okq (q : MethodName × Nat) : Prop := (q.1.cls ≠ "java/lang/invoke/MethodHandle" ∧ q.1.cls ≠ "java/lang/invoke/VarHandle") ∧ Cond.instantiable q.1.cls q.2 ∈ tables_1 ∧ Cond.privateMethod q.1 ∈ tables_1 ∧ Cond.instanceMethod q.1 ∈ tables_1
theorem lw_p0 : lw_okq (⟨"PulledJersey", "tellOfStitch", "(III)Z"⟩, 8) := ⟨⟨by decide +kernel, by decide +kernel⟩, List.mem_of_getElem? (i := 21) (by decide +kernel), List.mem_of_getElem? (i := 375) (by decide +kernel), List.mem_of_getElem? (i := 376) (by decide +kernel)⟩
theorem lw_p1 : lw_okq (⟨"PulledJersey$Puller", "comesUndone", "(LPulledJersey$Fabric;I)Z"⟩, 5) := ⟨⟨by decide +kernel, by decide +kernel⟩, List.mem_of_getElem? (i := 272) (by decide +kernel), List.mem_of_getElem? (i := 452) (by decide +kernel), List.mem_of_getElem? (i := 453) (by decide +kernel)⟩
theorem lw_p2 : lw_okq (⟨"PulledJersey$Law", "pop", "()I"⟩, 5) := ⟨⟨by decide +kernel, by decide +kernel⟩, List.mem_of_getElem? (i := 87) (by decide +kernel), List.mem_of_getElem? (i := 510) (by decide +kernel), List.mem_of_getElem? (i := 511) (by decide +kernel)⟩
theorem lw_p3 : lw_okq (⟨"PulledJersey$Law", "reckon", "(ILPulledJersey$Fabric;II)V"⟩, 5) := ⟨⟨by decide +kernel, by decide +kernel⟩, List.mem_of_getElem? (i := 87) (by decide +kernel), List.mem_of_getElem? (i := 521) (by decide +kernel), List.mem_of_getElem? (i := 522) (by decide +kernel)⟩
theorem lw_p4 : lw_okq (⟨"PulledJersey$Law", "push", "(I)V"⟩, 5) := ⟨⟨by decide +kernel, by decide +kernel⟩, List.mem_of_getElem? (i := 87) (by decide +kernel), List.mem_of_getElem? (i := 525) (by decide +kernel), List.mem_of_getElem? (i := 526) (by decide +kernel)⟩
theorem lw_p5 : lw_okq (⟨"PulledJersey$Whole", "draw", "(I)I"⟩, 6) := ⟨⟨by decide +kernel, by decide +kernel⟩, List.mem_of_getElem? (i := 29) (by decide +kernel), List.mem_of_getElem? (i := 554) (by decide +kernel), List.mem_of_getElem? (i := 555) (by decide +kernel)⟩
theorem lw_p6 : lw_okq (⟨"PulledJersey$LawReader", "scan", "(LPulledJersey$Tape;)V"⟩, 10) := ⟨⟨by decide +kernel, by decide +kernel⟩, List.mem_of_getElem? (i := 233) (by decide +kernel), List.mem_of_getElem? (i := 585) (by decide +kernel), List.mem_of_getElem? (i := 586) (by decide +kernel)⟩
theorem lw_p7 : lw_okq (⟨"PulledJersey$LawReader", "token", "()I"⟩, 10) := ⟨⟨by decide +kernel, by decide +kernel⟩, List.mem_of_getElem? (i := 233) (by decide +kernel), List.mem_of_getElem? (i := 687) (by decide +kernel), List.mem_of_getElem? (i := 688) (by decide +kernel)⟩
theorem lw_p8 : lw_okq (⟨"PulledJersey$LawReader", "readLine", "()Z"⟩, 10) := ⟨⟨by decide +kernel, by decide +kernel⟩, List.mem_of_getElem? (i := 233) (by decide +kernel), List.mem_of_getElem? (i := 691) (by decide +kernel), List.mem_of_getElem? (i := 692) (by decide +kernel)⟩
theorem lw_p9 : lw_okq (⟨"PulledJersey$LawReader", "fails", "(I)Z"⟩, 10) := ⟨⟨by decide +kernel, by decide +kernel⟩, List.mem_of_getElem? (i := 233) (by decide +kernel), List.mem_of_getElem? (i := 695) (by decide +kernel), List.mem_of_getElem? (i := 696) (by decide +kernel)⟩
theorem lw_p10 : lw_okq (⟨"PulledJersey$LawReader", "readSum", "()Z"⟩, 10) := ⟨⟨by decide +kernel, by decide +kernel⟩, List.mem_of_getElem? (i := 233) (by decide +kernel), List.mem_of_getElem? (i := 699) (by decide +kernel), List.mem_of_getElem? (i := 700) (by decide +kernel)⟩
theorem lw_p11 : lw_okq (⟨"PulledJersey$LawReader", "readUnit", "()Z"⟩, 10) := ⟨⟨by decide +kernel, by decide +kernel⟩, List.mem_of_getElem? (i := 233) (by decide +kernel), List.mem_of_getElem? (i := 703) (by decide +kernel), List.mem_of_getElem? (i := 704) (by decide +kernel)⟩
theorem lw_p12 : lw_okq (⟨"PulledJersey$LawReader", "value", "()I"⟩, 10) := ⟨⟨by decide +kernel, by decide +kernel⟩, List.mem_of_getElem? (i := 233) (by decide +kernel), List.mem_of_getElem? (i := 707) (by decide +kernel), List.mem_of_getElem? (i := 708) (by decide +kernel)⟩
theorem lw_p13 : lw_okq (⟨"PulledJersey$LawReader", "emit", "(I)V"⟩, 10) := ⟨⟨by decide +kernel, by decide +kernel⟩, List.mem_of_getElem? (i := 233) (by decide +kernel), List.mem_of_getElem? (i := 711) (by decide +kernel), List.mem_of_getElem? (i := 712) (by decide +kernel)⟩
theorem lw_p14 : lw_okq (⟨"PulledJersey$LawReader", "readDivisor", "()Z"⟩, 10) := ⟨⟨by decide +kernel, by decide +kernel⟩, List.mem_of_getElem? (i := 233) (by decide +kernel), List.mem_of_getElem? (i := 715) (by decide +kernel), List.mem_of_getElem? (i := 716) (by decide +kernel)⟩
theorem lw_p15 : lw_okq (⟨"PulledJersey$LawReader", "readCondition", "(I)Z"⟩, 10) := ⟨⟨by decide +kernel, by decide +kernel⟩, List.mem_of_getElem? (i := 233) (by decide +kernel), List.mem_of_getElem? (i := 719) (by decide +kernel), List.mem_of_getElem? (i := 720) (by decide +kernel)⟩
def lw_privs_1 : List (MethodName × Nat) := [(⟨"PulledJersey", "tellOfStitch", "(III)Z"⟩, 8), (⟨"PulledJersey$Puller", "comesUndone", "(LPulledJersey$Fabric;I)Z"⟩, 5), (⟨"PulledJersey$Law", "pop", "()I"⟩, 5), (⟨"PulledJersey$Law", "reckon", "(ILPulledJersey$Fabric;II)V"⟩, 5), (⟨"PulledJersey$Law", "push", "(I)V"⟩, 5), (⟨"PulledJersey$Whole", "draw", "(I)I"⟩, 6), (⟨"PulledJersey$LawReader", "scan", "(LPulledJersey$Tape;)V"⟩, 10), (⟨"PulledJersey$LawReader", "token", "()I"⟩, 10), (⟨"PulledJersey$LawReader", "readLine", "()Z"⟩, 10), (⟨"PulledJersey$LawReader", "fails", "(I)Z"⟩, 10), (⟨"PulledJersey$LawReader", "readSum", "()Z"⟩, 10), (⟨"PulledJersey$LawReader", "readUnit", "()Z"⟩, 10), (⟨"PulledJersey$LawReader", "value", "()I"⟩, 10), (⟨"PulledJersey$LawReader", "emit", "(I)V"⟩, 10), (⟨"PulledJersey$LawReader", "readDivisor", "()Z"⟩, 10), (⟨"PulledJersey$LawReader", "readCondition", "(I)Z"⟩, 10)]
theorem lw_r1 : ∀ q ∈ lw_privs_1, lw_okq q := List.forall_mem_cons.mpr ⟨lw_p0, List.forall_mem_cons.mpr ⟨lw_p1, List.forall_mem_cons.mpr ⟨lw_p2, List.forall_mem_cons.mpr ⟨lw_p3, List.forall_mem_cons.mpr ⟨lw_p4, List.forall_mem_cons.mpr ⟨lw_p5, List.forall_mem_cons.mpr ⟨lw_p6, List.forall_mem_cons.mpr ⟨lw_p7, List.forall_mem_cons.mpr ⟨lw_p8, List.forall_mem_cons.mpr ⟨lw_p9, List.forall_mem_cons.mpr ⟨lw_p10, List.forall_mem_cons.mpr ⟨lw_p11, List.forall_mem_cons.mpr ⟨lw_p12, List.forall_mem_cons.mpr ⟨lw_p13, List.forall_mem_cons.mpr ⟨lw_p14, List.forall_mem_cons.mpr ⟨lw_p15, fun _ h => absurd h List.not_mem_nil⟩⟩⟩⟩⟩⟩⟩⟩⟩⟩⟩⟩⟩⟩⟩⟩
theorem lw_p16 : lw_okq (⟨"PulledJersey$LawReader", "readClause", "(I)Z"⟩, 10) := ⟨⟨by decide +kernel, by decide +kernel⟩, List.mem_of_getElem? (i := 233) (by decide +kernel), List.mem_of_getElem? (i := 723) (by decide +kernel), List.mem_of_getElem? (i := 724) (by decide +kernel)⟩
theorem lw_p17 : lw_okq (⟨"PulledJersey$LawReader", "readSign", "(I)Z"⟩, 10) := ⟨⟨by decide +kernel, by decide +kernel⟩, List.mem_of_getElem? (i := 233) (by decide +kernel), List.mem_of_getElem? (i := 727) (by decide +kernel), List.mem_of_getElem? (i := 728) (by decide +kernel)⟩
theorem lw_p18 : lw_okq (⟨"PulledJersey$Saver", "choose", "(LPulledJersey$Fabric;JIJJ)V"⟩, 2) := ⟨⟨by decide +kernel, by decide +kernel⟩, List.mem_of_getElem? (i := 300) (by decide +kernel), List.mem_of_getElem? (i := 805) (by decide +kernel), List.mem_of_getElem? (i := 806) (by decide +kernel)⟩
theorem lw_p19 : lw_okq (⟨"PulledJersey", "undoesAll", "(II)Z"⟩, 8) := ⟨⟨by decide +kernel, by decide +kernel⟩, List.mem_of_getElem? (i := 21) (by decide +kernel), List.mem_of_getElem? (i := 817) (by decide +kernel), List.mem_of_getElem? (i := 818) (by decide +kernel)⟩
theorem lw_p20 : lw_okq (⟨"PulledJersey$Wool", "longestBut", "(I)I"⟩, 2) := ⟨⟨by decide +kernel, by decide +kernel⟩, List.mem_of_getElem? (i := 136) (by decide +kernel), List.mem_of_getElem? (i := 840) (by decide +kernel), List.mem_of_getElem? (i := 841) (by decide +kernel)⟩
theorem lw_p21 : lw_okq (⟨"PulledJerseyModel", "begins", "(II)V"⟩, 33) := ⟨⟨by decide +kernel, by decide +kernel⟩, List.mem_of_getElem? (i := 902) (by decide +kernel), List.mem_of_getElem? (i := 908) (by decide +kernel), List.mem_of_getElem? (i := 909) (by decide +kernel)⟩
theorem lw_p22 : lw_okq (⟨"PulledJerseyModel", "isStitch", "(I)Z"⟩, 33) := ⟨⟨by decide +kernel, by decide +kernel⟩, List.mem_of_getElem? (i := 902) (by decide +kernel), List.mem_of_getElem? (i := 912) (by decide +kernel), List.mem_of_getElem? (i := 913) (by decide +kernel)⟩
theorem lw_p23 : lw_okq (⟨"PulledJerseyModel", "comesBack", "(I)V"⟩, 33) := ⟨⟨by decide +kernel, by decide +kernel⟩, List.mem_of_getElem? (i := 902) (by decide +kernel), List.mem_of_getElem? (i := 1031) (by decide +kernel), List.mem_of_getElem? (i := 1032) (by decide +kernel)⟩
theorem lw_p24 : lw_okq (⟨"PulledJerseyModel", "next0", "()V"⟩, 33) := ⟨⟨by decide +kernel, by decide +kernel⟩, List.mem_of_getElem? (i := 902) (by decide +kernel), List.mem_of_getElem? (i := 1047) (by decide +kernel), List.mem_of_getElem? (i := 1048) (by decide +kernel)⟩
theorem lw_p25 : lw_okq (⟨"PulledJerseyModel", "see", "(I)I"⟩, 33) := ⟨⟨by decide +kernel, by decide +kernel⟩, List.mem_of_getElem? (i := 902) (by decide +kernel), List.mem_of_getElem? (i := 1051) (by decide +kernel), List.mem_of_getElem? (i := 1052) (by decide +kernel)⟩
theorem lw_p26 : lw_okq (⟨"PulledJerseyModel", "word", "()I"⟩, 33) := ⟨⟨by decide +kernel, by decide +kernel⟩, List.mem_of_getElem? (i := 902) (by decide +kernel), List.mem_of_getElem? (i := 1058) (by decide +kernel), List.mem_of_getElem? (i := 1059) (by decide +kernel)⟩
theorem lw_p27 : lw_okq (⟨"PulledJerseyModel", "is", "(Ljava/lang/String;)Z"⟩, 33) := ⟨⟨by decide +kernel, by decide +kernel⟩, List.mem_of_getElem? (i := 902) (by decide +kernel), List.mem_of_getElem? (i := 1063) (by decide +kernel), List.mem_of_getElem? (i := 1064) (by decide +kernel)⟩
theorem lw_p28 : lw_okq (⟨"PulledJerseyModel", "nameWord", "()I"⟩, 33) := ⟨⟨by decide +kernel, by decide +kernel⟩, List.mem_of_getElem? (i := 902) (by decide +kernel), List.mem_of_getElem? (i := 1073) (by decide +kernel), List.mem_of_getElem? (i := 1074) (by decide +kernel)⟩
theorem lw_p29 : lw_okq (⟨"PulledJerseyModel", "aLine", "()Z"⟩, 33) := ⟨⟨by decide +kernel, by decide +kernel⟩, List.mem_of_getElem? (i := 902) (by decide +kernel), List.mem_of_getElem? (i := 1087) (by decide +kernel), List.mem_of_getElem? (i := 1088) (by decide +kernel)⟩
theorem lw_p30 : lw_okq (⟨"PulledJerseyModel", "bad", "(I)Z"⟩, 33) := ⟨⟨by decide +kernel, by decide +kernel⟩, List.mem_of_getElem? (i := 902) (by decide +kernel), List.mem_of_getElem? (i := 1091) (by decide +kernel), List.mem_of_getElem? (i := 1092) (by decide +kernel)⟩
theorem lw_p31 : lw_okq (⟨"PulledJerseyModel", "sumUp", "()Z"⟩, 33) := ⟨⟨by decide +kernel, by decide +kernel⟩, List.mem_of_getElem? (i := 902) (by decide +kernel), List.mem_of_getElem? (i := 1095) (by decide +kernel), List.mem_of_getElem? (i := 1096) (by decide +kernel)⟩
def lw_privs_2 : List (MethodName × Nat) := [(⟨"PulledJersey$LawReader", "readClause", "(I)Z"⟩, 10), (⟨"PulledJersey$LawReader", "readSign", "(I)Z"⟩, 10), (⟨"PulledJersey$Saver", "choose", "(LPulledJersey$Fabric;JIJJ)V"⟩, 2), (⟨"PulledJersey", "undoesAll", "(II)Z"⟩, 8), (⟨"PulledJersey$Wool", "longestBut", "(I)I"⟩, 2), (⟨"PulledJerseyModel", "begins", "(II)V"⟩, 33), (⟨"PulledJerseyModel", "isStitch", "(I)Z"⟩, 33), (⟨"PulledJerseyModel", "comesBack", "(I)V"⟩, 33), (⟨"PulledJerseyModel", "next0", "()V"⟩, 33), (⟨"PulledJerseyModel", "see", "(I)I"⟩, 33), (⟨"PulledJerseyModel", "word", "()I"⟩, 33), (⟨"PulledJerseyModel", "is", "(Ljava/lang/String;)Z"⟩, 33), (⟨"PulledJerseyModel", "nameWord", "()I"⟩, 33), (⟨"PulledJerseyModel", "aLine", "()Z"⟩, 33), (⟨"PulledJerseyModel", "bad", "(I)Z"⟩, 33), (⟨"PulledJerseyModel", "sumUp", "()Z"⟩, 33)]
theorem lw_r2 : ∀ q ∈ lw_privs_2, lw_okq q := List.forall_mem_cons.mpr ⟨lw_p16, List.forall_mem_cons.mpr ⟨lw_p17, List.forall_mem_cons.mpr ⟨lw_p18, List.forall_mem_cons.mpr ⟨lw_p19, List.forall_mem_cons.mpr ⟨lw_p20, List.forall_mem_cons.mpr ⟨lw_p21, List.forall_mem_cons.mpr ⟨lw_p22, List.forall_mem_cons.mpr ⟨lw_p23, List.forall_mem_cons.mpr ⟨lw_p24, List.forall_mem_cons.mpr ⟨lw_p25, List.forall_mem_cons.mpr ⟨lw_p26, List.forall_mem_cons.mpr ⟨lw_p27, List.forall_mem_cons.mpr ⟨lw_p28, List.forall_mem_cons.mpr ⟨lw_p29, List.forall_mem_cons.mpr ⟨lw_p30, List.forall_mem_cons.mpr ⟨lw_p31, fun _ h => absurd h List.not_mem_nil⟩⟩⟩⟩⟩⟩⟩⟩⟩⟩⟩⟩⟩⟩⟩⟩
theorem lw_p32 : lw_okq (⟨"PulledJerseyModel", "product", "()Z"⟩, 33) := ⟨⟨by decide +kernel, by decide +kernel⟩, List.mem_of_getElem? (i := 902) (by decide +kernel), List.mem_of_getElem? (i := 1099) (by decide +kernel), List.mem_of_getElem? (i := 1100) (by decide +kernel)⟩
theorem lw_p33 : lw_okq (⟨"PulledJerseyModel", "unit", "()Z"⟩, 33) := ⟨⟨by decide +kernel, by decide +kernel⟩, List.mem_of_getElem? (i := 902) (by decide +kernel), List.mem_of_getElem? (i := 1103) (by decide +kernel), List.mem_of_getElem? (i := 1104) (by decide +kernel)⟩
theorem lw_p34 : lw_okq (⟨"PulledJerseyModel", "lay", "(II)V"⟩, 33) := ⟨⟨by decide +kernel, by decide +kernel⟩, List.mem_of_getElem? (i := 902) (by decide +kernel), List.mem_of_getElem? (i := 1107) (by decide +kernel), List.mem_of_getElem? (i := 1108) (by decide +kernel)⟩
theorem lw_p35 : lw_okq (⟨"PulledJerseyModel", "any", "()Z"⟩, 33) := ⟨⟨by decide +kernel, by decide +kernel⟩, List.mem_of_getElem? (i := 902) (by decide +kernel), List.mem_of_getElem? (i := 1111) (by decide +kernel), List.mem_of_getElem? (i := 1112) (by decide +kernel)⟩
theorem lw_p36 : lw_okq (⟨"PulledJerseyModel", "every", "()Z"⟩, 33) := ⟨⟨by decide +kernel, by decide +kernel⟩, List.mem_of_getElem? (i := 902) (by decide +kernel), List.mem_of_getElem? (i := 1115) (by decide +kernel), List.mem_of_getElem? (i := 1116) (by decide +kernel)⟩
theorem lw_p37 : lw_okq (⟨"PulledJerseyModel", "oneTest", "()Z"⟩, 33) := ⟨⟨by decide +kernel, by decide +kernel⟩, List.mem_of_getElem? (i := 902) (by decide +kernel), List.mem_of_getElem? (i := 1119) (by decide +kernel), List.mem_of_getElem? (i := 1120) (by decide +kernel)⟩
theorem lw_p38 : lw_okq (⟨"PulledJerseyModel", "opens", "()Z"⟩, 33) := ⟨⟨by decide +kernel, by decide +kernel⟩, List.mem_of_getElem? (i := 902) (by decide +kernel), List.mem_of_getElem? (i := 1123) (by decide +kernel), List.mem_of_getElem? (i := 1124) (by decide +kernel)⟩
theorem lw_p39 : lw_okq (⟨"PulledJerseyModel", "need", "(I)Z"⟩, 33) := ⟨⟨by decide +kernel, by decide +kernel⟩, List.mem_of_getElem? (i := 902) (by decide +kernel), List.mem_of_getElem? (i := 1127) (by decide +kernel), List.mem_of_getElem? (i := 1128) (by decide +kernel)⟩
theorem lw_p40 : lw_okq (⟨"PulledJerseyModel", "keeps", "()V"⟩, 33) := ⟨⟨by decide +kernel, by decide +kernel⟩, List.mem_of_getElem? (i := 902) (by decide +kernel), List.mem_of_getElem? (i := 1143) (by decide +kernel), List.mem_of_getElem? (i := 1144) (by decide +kernel)⟩
theorem lw_p41 : lw_okq (⟨"PulledJerseyModel", "isGone", "(II)V"⟩, 33) := ⟨⟨by decide +kernel, by decide +kernel⟩, List.mem_of_getElem? (i := 902) (by decide +kernel), List.mem_of_getElem? (i := 1147) (by decide +kernel), List.mem_of_getElem? (i := 1148) (by decide +kernel)⟩
theorem lw_p42 : lw_okq (⟨"PulledJerseyModel", "isEnd", "(II)Z"⟩, 33) := ⟨⟨by decide +kernel, by decide +kernel⟩, List.mem_of_getElem? (i := 902) (by decide +kernel), List.mem_of_getElem? (i := 1159) (by decide +kernel), List.mem_of_getElem? (i := 1160) (by decide +kernel)⟩
theorem lw_p43 : lw_okq (⟨"PulledJerseyModel", "isPlace", "(I)Z"⟩, 33) := ⟨⟨by decide +kernel, by decide +kernel⟩, List.mem_of_getElem? (i := 902) (by decide +kernel), List.mem_of_getElem? (i := 1163) (by decide +kernel), List.mem_of_getElem? (i := 1164) (by decide +kernel)⟩
theorem lw_p44 : lw_okq (⟨"PulledJerseyModel", "laysNow", "()V"⟩, 33) := ⟨⟨by decide +kernel, by decide +kernel⟩, List.mem_of_getElem? (i := 902) (by decide +kernel), List.mem_of_getElem? (i := 1167) (by decide +kernel), List.mem_of_getElem? (i := 1168) (by decide +kernel)⟩
theorem lw_p45 : lw_okq (⟨"PulledJerseyModel", "laysHolders", "()V"⟩, 33) := ⟨⟨by decide +kernel, by decide +kernel⟩, List.mem_of_getElem? (i := 902) (by decide +kernel), List.mem_of_getElem? (i := 1171) (by decide +kernel), List.mem_of_getElem? (i := 1172) (by decide +kernel)⟩
theorem lw_p46 : lw_okq (⟨"PulledJerseyModel", "holds", "(II)V"⟩, 33) := ⟨⟨by decide +kernel, by decide +kernel⟩, List.mem_of_getElem? (i := 902) (by decide +kernel), List.mem_of_getElem? (i := 1175) (by decide +kernel), List.mem_of_getElem? (i := 1176) (by decide +kernel)⟩
theorem lw_p47 : lw_okq (⟨"PulledJerseyModel", "drawnOne", "(I)I"⟩, 33) := ⟨⟨by decide +kernel, by decide +kernel⟩, List.mem_of_getElem? (i := 902) (by decide +kernel), List.mem_of_getElem? (i := 1179) (by decide +kernel), List.mem_of_getElem? (i := 1180) (by decide +kernel)⟩
def lw_privs_3 : List (MethodName × Nat) := [(⟨"PulledJerseyModel", "product", "()Z"⟩, 33), (⟨"PulledJerseyModel", "unit", "()Z"⟩, 33), (⟨"PulledJerseyModel", "lay", "(II)V"⟩, 33), (⟨"PulledJerseyModel", "any", "()Z"⟩, 33), (⟨"PulledJerseyModel", "every", "()Z"⟩, 33), (⟨"PulledJerseyModel", "oneTest", "()Z"⟩, 33), (⟨"PulledJerseyModel", "opens", "()Z"⟩, 33), (⟨"PulledJerseyModel", "need", "(I)Z"⟩, 33), (⟨"PulledJerseyModel", "keeps", "()V"⟩, 33), (⟨"PulledJerseyModel", "isGone", "(II)V"⟩, 33), (⟨"PulledJerseyModel", "isEnd", "(II)Z"⟩, 33), (⟨"PulledJerseyModel", "isPlace", "(I)Z"⟩, 33), (⟨"PulledJerseyModel", "laysNow", "()V"⟩, 33), (⟨"PulledJerseyModel", "laysHolders", "()V"⟩, 33), (⟨"PulledJerseyModel", "holds", "(II)V"⟩, 33), (⟨"PulledJerseyModel", "drawnOne", "(I)I"⟩, 33)]
theorem lw_r3 : ∀ q ∈ lw_privs_3, lw_okq q := List.forall_mem_cons.mpr ⟨lw_p32, List.forall_mem_cons.mpr ⟨lw_p33, List.forall_mem_cons.mpr ⟨lw_p34, List.forall_mem_cons.mpr ⟨lw_p35, List.forall_mem_cons.mpr ⟨lw_p36, List.forall_mem_cons.mpr ⟨lw_p37, List.forall_mem_cons.mpr ⟨lw_p38, List.forall_mem_cons.mpr ⟨lw_p39, List.forall_mem_cons.mpr ⟨lw_p40, List.forall_mem_cons.mpr ⟨lw_p41, List.forall_mem_cons.mpr ⟨lw_p42, List.forall_mem_cons.mpr ⟨lw_p43, List.forall_mem_cons.mpr ⟨lw_p44, List.forall_mem_cons.mpr ⟨lw_p45, List.forall_mem_cons.mpr ⟨lw_p46, List.forall_mem_cons.mpr ⟨lw_p47, fun _ h => absurd h List.not_mem_nil⟩⟩⟩⟩⟩⟩⟩⟩⟩⟩⟩⟩⟩⟩⟩⟩
theorem lw_p48 : lw_okq (⟨"PulledJerseyModel", "drawnOther", "(I)I"⟩, 33) := ⟨⟨by decide +kernel, by decide +kernel⟩, List.mem_of_getElem? (i := 902) (by decide +kernel), List.mem_of_getElem? (i := 1183) (by decide +kernel), List.mem_of_getElem? (i := 1184) (by decide +kernel)⟩
theorem lw_p49 : lw_okq (⟨"PulledJerseyModel", "pulls", "(IIIZ)V"⟩, 33) := ⟨⟨by decide +kernel, by decide +kernel⟩, List.mem_of_getElem? (i := 902) (by decide +kernel), List.mem_of_getElem? (i := 1187) (by decide +kernel), List.mem_of_getElem? (i := 1188) (by decide +kernel)⟩
theorem lw_p50 : lw_okq (⟨"PulledJerseyModel", "stitchAt", "(I)I"⟩, 33) := ⟨⟨by decide +kernel, by decide +kernel⟩, List.mem_of_getElem? (i := 902) (by decide +kernel), List.mem_of_getElem? (i := 1191) (by decide +kernel), List.mem_of_getElem? (i := 1192) (by decide +kernel)⟩
theorem lw_p51 : lw_okq (⟨"PulledJerseyModel", "isHeld", "(I)Z"⟩, 33) := ⟨⟨by decide +kernel, by decide +kernel⟩, List.mem_of_getElem? (i := 902) (by decide +kernel), List.mem_of_getElem? (i := 1195) (by decide +kernel), List.mem_of_getElem? (i := 1196) (by decide +kernel)⟩
theorem lw_p52 : lw_okq (⟨"PulledJerseyModel", "goes", "(I)V"⟩, 33) := ⟨⟨by decide +kernel, by decide +kernel⟩, List.mem_of_getElem? (i := 902) (by decide +kernel), List.mem_of_getElem? (i := 1199) (by decide +kernel), List.mem_of_getElem? (i := 1200) (by decide +kernel)⟩
theorem lw_p53 : lw_okq (⟨"PulledJerseyModel", "winds", "(II)V"⟩, 33) := ⟨⟨by decide +kernel, by decide +kernel⟩, List.mem_of_getElem? (i := 902) (by decide +kernel), List.mem_of_getElem? (i := 1203) (by decide +kernel), List.mem_of_getElem? (i := 1204) (by decide +kernel)⟩
theorem lw_p54 : lw_okq (⟨"PulledJerseyModel", "anHour", "()I"⟩, 33) := ⟨⟨by decide +kernel, by decide +kernel⟩, List.mem_of_getElem? (i := 902) (by decide +kernel), List.mem_of_getElem? (i := 1214) (by decide +kernel), List.mem_of_getElem? (i := 1215) (by decide +kernel)⟩
theorem lw_p55 : lw_okq (⟨"PulledJerseyModel", "isLoose", "(I)Z"⟩, 33) := ⟨⟨by decide +kernel, by decide +kernel⟩, List.mem_of_getElem? (i := 902) (by decide +kernel), List.mem_of_getElem? (i := 1218) (by decide +kernel), List.mem_of_getElem? (i := 1219) (by decide +kernel)⟩
theorem lw_p56 : lw_okq (⟨"PulledJerseyModel", "oddsOf", "(I)I"⟩, 33) := ⟨⟨by decide +kernel, by decide +kernel⟩, List.mem_of_getElem? (i := 902) (by decide +kernel), List.mem_of_getElem? (i := 1222) (by decide +kernel), List.mem_of_getElem? (i := 1223) (by decide +kernel)⟩
theorem lw_p57 : lw_okq (⟨"PulledJerseyModel", "comesTo", "(II)I"⟩, 33) := ⟨⟨by decide +kernel, by decide +kernel⟩, List.mem_of_getElem? (i := 902) (by decide +kernel), List.mem_of_getElem? (i := 1226) (by decide +kernel), List.mem_of_getElem? (i := 1227) (by decide +kernel)⟩
theorem lw_p58 : lw_okq (⟨"PulledJerseyModel", "draw", "(I)I"⟩, 33) := ⟨⟨by decide +kernel, by decide +kernel⟩, List.mem_of_getElem? (i := 902) (by decide +kernel), List.mem_of_getElem? (i := 1239) (by decide +kernel), List.mem_of_getElem? (i := 1240) (by decide +kernel)⟩
theorem lw_p59 : lw_okq (⟨"PulledJerseyModel", "placeOf", "(I)I"⟩, 33) := ⟨⟨by decide +kernel, by decide +kernel⟩, List.mem_of_getElem? (i := 902) (by decide +kernel), List.mem_of_getElem? (i := 1249) (by decide +kernel), List.mem_of_getElem? (i := 1250) (by decide +kernel)⟩
theorem lw_p60 : lw_okq (⟨"PulledJerseyModel", "allRun", "()I"⟩, 33) := ⟨⟨by decide +kernel, by decide +kernel⟩, List.mem_of_getElem? (i := 902) (by decide +kernel), List.mem_of_getElem? (i := 1269) (by decide +kernel), List.mem_of_getElem? (i := 1270) (by decide +kernel)⟩
theorem lw_p61 : lw_okq (⟨"PulledJerseyModel", "isQueued", "(II)Z"⟩, 33) := ⟨⟨by decide +kernel, by decide +kernel⟩, List.mem_of_getElem? (i := 902) (by decide +kernel), List.mem_of_getElem? (i := 1273) (by decide +kernel), List.mem_of_getElem? (i := 1274) (by decide +kernel)⟩
theorem lw_p62 : lw_okq (⟨"PulledJerseyModel", "canCatch", "(I)Z"⟩, 33) := ⟨⟨by decide +kernel, by decide +kernel⟩, List.mem_of_getElem? (i := 902) (by decide +kernel), List.mem_of_getElem? (i := 1281) (by decide +kernel), List.mem_of_getElem? (i := 1282) (by decide +kernel)⟩
theorem lw_p63 : lw_okq (⟨"PulledJerseyModel", "saves", "(III)V"⟩, 33) := ⟨⟨by decide +kernel, by decide +kernel⟩, List.mem_of_getElem? (i := 902) (by decide +kernel), List.mem_of_getElem? (i := 1285) (by decide +kernel), List.mem_of_getElem? (i := 1286) (by decide +kernel)⟩
def lw_privs_4 : List (MethodName × Nat) := [(⟨"PulledJerseyModel", "drawnOther", "(I)I"⟩, 33), (⟨"PulledJerseyModel", "pulls", "(IIIZ)V"⟩, 33), (⟨"PulledJerseyModel", "stitchAt", "(I)I"⟩, 33), (⟨"PulledJerseyModel", "isHeld", "(I)Z"⟩, 33), (⟨"PulledJerseyModel", "goes", "(I)V"⟩, 33), (⟨"PulledJerseyModel", "winds", "(II)V"⟩, 33), (⟨"PulledJerseyModel", "anHour", "()I"⟩, 33), (⟨"PulledJerseyModel", "isLoose", "(I)Z"⟩, 33), (⟨"PulledJerseyModel", "oddsOf", "(I)I"⟩, 33), (⟨"PulledJerseyModel", "comesTo", "(II)I"⟩, 33), (⟨"PulledJerseyModel", "draw", "(I)I"⟩, 33), (⟨"PulledJerseyModel", "placeOf", "(I)I"⟩, 33), (⟨"PulledJerseyModel", "allRun", "()I"⟩, 33), (⟨"PulledJerseyModel", "isQueued", "(II)Z"⟩, 33), (⟨"PulledJerseyModel", "canCatch", "(I)Z"⟩, 33), (⟨"PulledJerseyModel", "saves", "(III)V"⟩, 33)]
theorem lw_r4 : ∀ q ∈ lw_privs_4, lw_okq q := List.forall_mem_cons.mpr ⟨lw_p48, List.forall_mem_cons.mpr ⟨lw_p49, List.forall_mem_cons.mpr ⟨lw_p50, List.forall_mem_cons.mpr ⟨lw_p51, List.forall_mem_cons.mpr ⟨lw_p52, List.forall_mem_cons.mpr ⟨lw_p53, List.forall_mem_cons.mpr ⟨lw_p54, List.forall_mem_cons.mpr ⟨lw_p55, List.forall_mem_cons.mpr ⟨lw_p56, List.forall_mem_cons.mpr ⟨lw_p57, List.forall_mem_cons.mpr ⟨lw_p58, List.forall_mem_cons.mpr ⟨lw_p59, List.forall_mem_cons.mpr ⟨lw_p60, List.forall_mem_cons.mpr ⟨lw_p61, List.forall_mem_cons.mpr ⟨lw_p62, List.forall_mem_cons.mpr ⟨lw_p63, fun _ h => absurd h List.not_mem_nil⟩⟩⟩⟩⟩⟩⟩⟩⟩⟩⟩⟩⟩⟩⟩⟩
theorem lw_p64 : lw_okq (⟨"PulledJerseyModel", "hereMany", "()I"⟩, 33) := ⟨⟨by decide +kernel, by decide +kernel⟩, List.mem_of_getElem? (i := 902) (by decide +kernel), List.mem_of_getElem? (i := 1297) (by decide +kernel), List.mem_of_getElem? (i := 1298) (by decide +kernel)⟩
theorem lw_p65 : lw_okq (⟨"PulledJerseyModel", "isSoBy", "(I)Z"⟩, 33) := ⟨⟨by decide +kernel, by decide +kernel⟩, List.mem_of_getElem? (i := 902) (by decide +kernel), List.mem_of_getElem? (i := 1322) (by decide +kernel), List.mem_of_getElem? (i := 1323) (by decide +kernel)⟩
theorem lw_p66 : lw_okq (⟨"PulledJerseyModel", "cuts", "()I"⟩, 33) := ⟨⟨by decide +kernel, by decide +kernel⟩, List.mem_of_getElem? (i := 902) (by decide +kernel), List.mem_of_getElem? (i := 1334) (by decide +kernel), List.mem_of_getElem? (i := 1335) (by decide +kernel)⟩
def lw_privs_5 : List (MethodName × Nat) := [(⟨"PulledJerseyModel", "hereMany", "()I"⟩, 33), (⟨"PulledJerseyModel", "isSoBy", "(I)Z"⟩, 33), (⟨"PulledJerseyModel", "cuts", "()I"⟩, 33)]
theorem lw_r5 : ∀ q ∈ lw_privs_5, lw_okq q := List.forall_mem_cons.mpr ⟨lw_p64, List.forall_mem_cons.mpr ⟨lw_p65, List.forall_mem_cons.mpr ⟨lw_p66, fun _ h => absurd h List.not_mem_nil⟩⟩⟩
def lw_privs : List (MethodName × Nat) := lw_privs_1 ++ (lw_privs_2 ++ (lw_privs_3 ++ (lw_privs_4 ++ (lw_privs_5))))
def lw_tbl : List Cond := k2_sels lw_privs ++ tables_1
theorem lw_privs_ok : ∀ q ∈ lw_privs, lw_okq q := by
  show ∀ q ∈ lw_privs_1 ++ (lw_privs_2 ++ (lw_privs_3 ++ (lw_privs_4 ++ (lw_privs_5)))), lw_okq q
  exact List.forall_mem_append.mpr ⟨lw_r1, List.forall_mem_append.mpr ⟨lw_r2, List.forall_mem_append.mpr ⟨lw_r3, List.forall_mem_append.mpr ⟨lw_r4, lw_r5⟩⟩⟩⟩
end
section
/-! ===== BEGIN words of one list among another's, by their places ===== -/
theorem goodIn_r {big : List Cond} (ws : List Cond) (ps : List Nat) (hp : ws = ps.filterMap (fun i => big[i]?)) (h : ws.all goodWord = true) : GoodIn big ws := by
  intro w hw
  have h1 := List.all_eq_true.mp h w hw
  rw [hp] at hw
  obtain ⟨i, -, hi⟩ := List.mem_filterMap.mp hw
  have hm : w ∈ big := by first | exact List.mem_of_getElem? hi | exact List.getElem?_mem hi
  exact ⟨hm, good_of_word h1⟩
theorem goodIn_app {big a b : List Cond} (ha : GoodIn big a) (hb : GoodIn big b) : GoodIn big (a ++ b) := fun w h => (List.mem_append.mp h).elim (ha w) (hb w)
theorem goodIn_ca {big a b : List Cond} {c : Cond} (ha : GoodIn big (c :: a)) (hb : GoodIn big b) : GoodIn big (c :: (a ++ b)) := fun w h => (List.mem_cons.mp h).elim (fun e => ha w (List.mem_cons.mpr (Or.inl e))) (fun h => (List.mem_append.mp h).elim (fun h => ha w (List.mem_cons.mpr (Or.inr h))) (hb w))
theorem goodIn_sub {big ws : List Cond} (hm : ∀ w ∈ ws, w ∈ big) (h : ws.all goodWord = true) : GoodIn big ws := fun w hw => ⟨hm w hw, good_of_word (List.all_eq_true.mp h w hw)⟩
/-! ===== END ===== -/

/-! ===== BEGIN printed: names, fields, word lists, decode rows ===== -/
def RX0 : String := "PulledJersey$Book"
def TX0 : u_T := fun k => match k with
  | 0 => ("PulledJersey$Book", "hours", "[I", true)
  | 1 => ("PulledJersey$Book", "stitches", "[I", true)
  | 2 => ("PulledJersey$Book", "ways", "[I", true)
  | _ => ("PulledJersey$Book", "count", "I", false)
def tyX0 : Nat → FieldType := fun k => match k with
  | 0 => .array .int
  | 1 => .array .int
  | 2 => .array .int
  | _ => .int
abbrev wsX00 : List Cond := u_ws RX0 TX0 4
theorem nmX0 : ∀ a, a < 4 → ∀ b, b < 4 → a ≠ b → (TX0 a).2.1 ≠ (TX0 b).2.1 := by decide +kernel
theorem tyX0_ok : ∀ k, k < 4 → parseFieldDescriptor (TX0 k).2.2.1 = some (tyX0 k) := by decide +kernel
abbrev cX0_init : ByteArray := prog_2_method_1_code
def yX0_init : MethodName := ⟨RX0, "<init>", "()V"⟩
abbrev cX0_copyFrom : ByteArray := prog_2_method_2_code
def yX0_copyFrom : MethodName := ⟨RX0, "copyFrom", "(LPulledJersey$Book;)V"⟩
abbrev cX0_note : ByteArray := prog_2_method_3_code
def yX0_note : MethodName := ⟨RX0, "note", "(III)V"⟩
abbrev cX0_read : ByteArray := prog_2_method_4_code
def yX0_read : MethodName := ⟨RX0, "read", "(II)I"⟩
def RX1 : String := "PulledJersey$Fabric"
def TX1 : u_T := fun k => match k with
  | 0 => ("PulledJersey$Fabric", "w", "I", false)
  | 1 => ("PulledJersey$Fabric", "h", "I", false)
  | 2 => ("PulledJersey$Fabric", "isBound", "Z", false)
  | 3 => ("PulledJersey$Fabric", "whole", "J", false)
  | 4 => ("PulledJersey$Fabric", "kindLow", "J", false)
  | 5 => ("PulledJersey$Fabric", "kindHigh", "J", false)
  | 6 => ("PulledJersey$Fabric", "here", "J", false)
  | 7 => ("PulledJersey$Fabric", "caught", "J", false)
  | 8 => ("PulledJersey$Fabric", "wound", "J", false)
  | _ => ("PulledJersey$Fabric", "cuts", "J", false)
def tyX1 : Nat → FieldType := fun k => match k with
  | 0 => .int
  | 1 => .int
  | 2 => .boolean
  | 3 => .long
  | 4 => .long
  | 5 => .long
  | 6 => .long
  | 7 => .long
  | 8 => .long
  | _ => .long
abbrev wsX10 : List Cond := u_ws RX1 TX1 10
theorem nmX1 : ∀ a, a < 10 → ∀ b, b < 10 → a ≠ b → (TX1 a).2.1 ≠ (TX1 b).2.1 := by decide +kernel
theorem tyX1_ok : ∀ k, k < 10 → parseFieldDescriptor (TX1 k).2.2.1 = some (tyX1 k) := by decide +kernel
abbrev cX1_init : ByteArray := prog_3_method_1_code
def yX1_init : MethodName := ⟨RX1, "<init>", "()V"⟩
abbrev cX1_begin : ByteArray := prog_3_method_2_code
def yX1_begin : MethodName := ⟨RX1, "begin", "(II)V"⟩
abbrev cX1_copyFrom : ByteArray := prog_3_method_3_code
def yX1_copyFrom : MethodName := ⟨RX1, "copyFrom", "(LPulledJersey$Fabric;)V"⟩
abbrev cX1_has : ByteArray := prog_3_method_4_code
def yX1_has : MethodName := ⟨RX1, "has", "(I)Z"⟩
abbrev cX1_isHere : ByteArray := prog_3_method_5_code
def yX1_isHere : MethodName := ⟨RX1, "isHere", "(I)Z"⟩
abbrev cX1_places : ByteArray := prog_3_method_6_code
def yX1_places : MethodName := ⟨RX1, "places", "()I"⟩
abbrev cX1_kindOf : ByteArray := prog_3_method_7_code
def yX1_kindOf : MethodName := ⟨RX1, "kindOf", "(I)I"⟩
abbrev cX1_tellBound : ByteArray := prog_3_method_8_code
def yX1_tellBound : MethodName := ⟨RX1, "tellBound", "(I)Z"⟩
abbrev cX1_tellKind : ByteArray := prog_3_method_9_code
def yX1_tellKind : MethodName := ⟨RX1, "tellKind", "(II)Z"⟩
abbrev cX1_tellCaught : ByteArray := prog_3_method_10_code
def yX1_tellCaught : MethodName := ⟨RX1, "tellCaught", "(II)Z"⟩
abbrev cX1_bringBack : ByteArray := prog_3_method_11_code
def yX1_bringBack : MethodName := ⟨RX1, "bringBack", "(I)V"⟩
abbrev cX1_loopsUnder : ByteArray := prog_3_method_12_code
def yX1_loopsUnder : MethodName := ⟨RX1, "loopsUnder", "(J)J"⟩
abbrev cX1_heldOf : ByteArray := prog_3_method_13_code
def yX1_heldOf : MethodName := ⟨RX1, "heldOf", "(JJ)J"⟩
abbrev cX1_loose : ByteArray := prog_3_method_14_code
def yX1_loose : MethodName := ⟨RX1, "loose", "()J"⟩
abbrev cX1_inTheEnd : ByteArray := prog_3_method_15_code
def yX1_inTheEnd : MethodName := ⟨RX1, "inTheEnd", "(JJ)J"⟩
abbrev cX1_firsts : ByteArray := prog_3_method_16_code
def yX1_firsts : MethodName := ⟨RX1, "firsts", "()J"⟩
abbrev cX1_placeOf : ByteArray := prog_3_method_17_code
def yX1_placeOf : MethodName := ⟨RX1, "placeOf", "(I)I"⟩
abbrev cX1_stitchAt : ByteArray := prog_3_method_18_code
def yX1_stitchAt : MethodName := ⟨RX1, "stitchAt", "(I)I"⟩
abbrev cX1_canCut : ByteArray := prog_3_method_19_code
def yX1_canCut : MethodName := ⟨RX1, "canCut", "(I)Z"⟩
abbrev cX1_isEnd : ByteArray := prog_3_method_20_code
def yX1_isEnd : MethodName := ⟨RX1, "isEnd", "(II)Z"⟩
abbrev cX1_hasThreadBetween : ByteArray := prog_3_method_21_code
def yX1_hasThreadBetween : MethodName := ⟨RX1, "hasThreadBetween", "(II)Z"⟩
abbrev cX1_cutsAround : ByteArray := prog_3_method_22_code
def yX1_cutsAround : MethodName := ⟨RX1, "cutsAround", "(J)I"⟩
abbrev cX1_wind : ByteArray := prog_3_method_23_code
def yX1_wind : MethodName := ⟨RX1, "wind", "(J)I"⟩
abbrev cX1_besideOf : ByteArray := prog_3_method_24_code
def yX1_besideOf : MethodName := ⟨RX1, "besideOf", "(I)I"⟩
abbrev cX1_belowOf : ByteArray := prog_3_method_25_code
def yX1_belowOf : MethodName := ⟨RX1, "belowOf", "(I)I"⟩
abbrev cX1_goneInColumn : ByteArray := prog_3_method_26_code
def yX1_goneInColumn : MethodName := ⟨RX1, "goneInColumn", "(I)I"⟩
def RX2 : String := "PulledJersey$Law"
def TX2 : u_T := fun k => match k with
  | 0 => ("PulledJersey$Law", "code", "[I", true)
  | 1 => ("PulledJersey$Law", "stack", "[I", true)
  | 2 => ("PulledJersey$Law", "length", "I", false)
  | 3 => ("PulledJersey$Law", "lines", "I", false)
  | _ => ("PulledJersey$Law", "height", "I", false)
def tyX2 : Nat → FieldType := fun k => match k with
  | 0 => .array .int
  | 1 => .array .int
  | 2 => .int
  | 3 => .int
  | _ => .int
abbrev wsX20 : List Cond := u_ws RX2 TX2 5
theorem nmX2 : ∀ a, a < 5 → ∀ b, b < 5 → a ≠ b → (TX2 a).2.1 ≠ (TX2 b).2.1 := by decide +kernel
theorem tyX2_ok : ∀ k, k < 5 → parseFieldDescriptor (TX2 k).2.2.1 = some (tyX2 k) := by decide +kernel
abbrev cX2_init : ByteArray := prog_4_method_1_code
def yX2_init : MethodName := ⟨RX2, "<init>", "()V"⟩
abbrev cX2_clear : ByteArray := prog_4_method_2_code
def yX2_clear : MethodName := ⟨RX2, "clear", "()V"⟩
abbrev cX2_take : ByteArray := prog_4_method_3_code
def yX2_take : MethodName := ⟨RX2, "take", "([III)V"⟩
abbrev cX2_oddsOf : ByteArray := prog_4_method_4_code
def yX2_oddsOf : MethodName := ⟨RX2, "oddsOf", "(LPulledJersey$Fabric;II)I"⟩
abbrev cX2_reckon : ByteArray := prog_4_method_5_code
def yX2_reckon : MethodName := ⟨RX2, "reckon", "(ILPulledJersey$Fabric;II)V"⟩
abbrev cX2_traitOf : ByteArray := prog_4_method_6_code
def yX2_traitOf : MethodName := ⟨RX2, "traitOf", "(ILPulledJersey$Fabric;II)I"⟩
abbrev cX2_ofTwo : ByteArray := prog_4_method_7_code
def yX2_ofTwo : MethodName := ⟨RX2, "ofTwo", "(III)I"⟩
abbrev cX2_heldToOdds : ByteArray := prog_4_method_8_code
def yX2_heldToOdds : MethodName := ⟨RX2, "heldToOdds", "(I)I"⟩
abbrev cX2_push : ByteArray := prog_4_method_9_code
def yX2_push : MethodName := ⟨RX2, "push", "(I)V"⟩
abbrev cX2_pop : ByteArray := prog_4_method_10_code
def yX2_pop : MethodName := ⟨RX2, "pop", "()I"⟩
def RX3 : String := "PulledJersey$LawReader"
def TX3 : u_T := fun k => match k with
  | 0 => ("PulledJersey$LawReader", "tokens", "[I", true)
  | 1 => ("PulledJersey$LawReader", "places", "[I", true)
  | 2 => ("PulledJersey$LawReader", "values", "[I", true)
  | 3 => ("PulledJersey$LawReader", "code", "[I", true)
  | 4 => ("PulledJersey$LawReader", "tokenCount", "I", false)
  | 5 => ("PulledJersey$LawReader", "next", "I", false)
  | 6 => ("PulledJersey$LawReader", "codeLength", "I", false)
  | 7 => ("PulledJersey$LawReader", "lines", "I", false)
  | 8 => ("PulledJersey$LawReader", "fault", "I", false)
  | _ => ("PulledJersey$LawReader", "faultPlace", "I", false)
def tyX3 : Nat → FieldType := fun k => match k with
  | 0 => .array .int
  | 1 => .array .int
  | 2 => .array .int
  | 3 => .array .int
  | 4 => .int
  | 5 => .int
  | 6 => .int
  | 7 => .int
  | 8 => .int
  | _ => .int
abbrev wsX30 : List Cond := u_ws RX3 TX3 10
theorem nmX3 : ∀ a, a < 10 → ∀ b, b < 10 → a ≠ b → (TX3 a).2.1 ≠ (TX3 b).2.1 := by decide +kernel
theorem tyX3_ok : ∀ k, k < 10 → parseFieldDescriptor (TX3 k).2.2.1 = some (tyX3 k) := by decide +kernel
abbrev cX3_init : ByteArray := prog_5_method_1_code
def yX3_init : MethodName := ⟨RX3, "<init>", "()V"⟩
abbrev cX3_read : ByteArray := prog_5_method_2_code
def yX3_read : MethodName := ⟨RX3, "read", "(LPulledJersey$Tape;LPulledJersey$Law;)Z"⟩
abbrev cX3_scan : ByteArray := prog_5_method_3_code
def yX3_scan : MethodName := ⟨RX3, "scan", "(LPulledJersey$Tape;)V"⟩
abbrev cX3_tokenOf : ByteArray := prog_5_method_4_code
def yX3_tokenOf : MethodName := ⟨RX3, "tokenOf", "(LPulledJersey$Tape;II)I"⟩
abbrev cX3_wordOf : ByteArray := prog_5_method_5_code
def yX3_wordOf : MethodName := ⟨RX3, "wordOf", "(LPulledJersey$Tape;II)I"⟩
abbrev cX3_traitWordOf : ByteArray := prog_5_method_6_code
def yX3_traitWordOf : MethodName := ⟨RX3, "traitWordOf", "(LPulledJersey$Tape;II)I"⟩
abbrev cX3_token : ByteArray := prog_5_method_7_code
def yX3_token : MethodName := ⟨RX3, "token", "()I"⟩
abbrev cX3_value : ByteArray := prog_5_method_8_code
def yX3_value : MethodName := ⟨RX3, "value", "()I"⟩
abbrev cX3_fails : ByteArray := prog_5_method_9_code
def yX3_fails : MethodName := ⟨RX3, "fails", "(I)Z"⟩
abbrev cX3_emit : ByteArray := prog_5_method_10_code
def yX3_emit : MethodName := ⟨RX3, "emit", "(I)V"⟩
abbrev cX3_readLine : ByteArray := prog_5_method_11_code
def yX3_readLine : MethodName := ⟨RX3, "readLine", "()Z"⟩
abbrev cX3_readSign : ByteArray := prog_5_method_12_code
def yX3_readSign : MethodName := ⟨RX3, "readSign", "(I)Z"⟩
abbrev cX3_readCondition : ByteArray := prog_5_method_13_code
def yX3_readCondition : MethodName := ⟨RX3, "readCondition", "(I)Z"⟩
abbrev cX3_readClause : ByteArray := prog_5_method_14_code
def yX3_readClause : MethodName := ⟨RX3, "readClause", "(I)Z"⟩
abbrev cX3_readSum : ByteArray := prog_5_method_15_code
def yX3_readSum : MethodName := ⟨RX3, "readSum", "()Z"⟩
abbrev cX3_readUnit : ByteArray := prog_5_method_16_code
def yX3_readUnit : MethodName := ⟨RX3, "readUnit", "()Z"⟩
abbrev cX3_readDivisor : ByteArray := prog_5_method_17_code
def yX3_readDivisor : MethodName := ⟨RX3, "readDivisor", "()Z"⟩
def RX4 : String := "PulledJersey$Past"
def TX4 : u_T := fun k => match k with
  | 0 => ("PulledJersey$Past", "here", "[J", true)
  | 1 => ("PulledJersey$Past", "wound", "[J", true)
  | 2 => ("PulledJersey$Past", "cuts", "[J", true)
  | 3 => ("PulledJersey$Past", "hour", "[I", true)
  | 4 => ("PulledJersey$Past", "draws", "[I", true)
  | 5 => ("PulledJersey$Past", "lines", "[I", true)
  | 6 => ("PulledJersey$Past", "lengths", "[I", true)
  | 7 => ("PulledJersey$Past", "count", "I", false)
  | _ => ("PulledJersey$Past", "nextSlot", "I", false)
def tyX4 : Nat → FieldType := fun k => match k with
  | 0 => .array .long
  | 1 => .array .long
  | 2 => .array .long
  | 3 => .array .int
  | 4 => .array .int
  | 5 => .array .int
  | 6 => .array .int
  | 7 => .int
  | _ => .int
abbrev wsX40 : List Cond := u_ws RX4 TX4 9
theorem nmX4 : ∀ a, a < 9 → ∀ b, b < 9 → a ≠ b → (TX4 a).2.1 ≠ (TX4 b).2.1 := by decide +kernel
theorem tyX4_ok : ∀ k, k < 9 → parseFieldDescriptor (TX4 k).2.2.1 = some (tyX4 k) := by decide +kernel
abbrev cX4_init : ByteArray := prog_6_method_1_code
def yX4_init : MethodName := ⟨RX4, "<init>", "()V"⟩
abbrev cX4_forget : ByteArray := prog_6_method_2_code
def yX4_forget : MethodName := ⟨RX4, "forget", "()V"⟩
abbrev cX4_keep : ByteArray := prog_6_method_3_code
def yX4_keep : MethodName := ⟨RX4, "keep", "(LPulledJersey$Whole;)V"⟩
abbrev cX4_goBack : ByteArray := prog_6_method_4_code
def yX4_goBack : MethodName := ⟨RX4, "goBack", "(LPulledJersey$Whole;)Z"⟩
def RX5 : String := "PulledJersey$Puller"
def TX5 : u_T := fun k => match k with
  | 0 => ("PulledJersey$Puller", "order", "[I", true)
  | 1 => ("PulledJersey$Puller", "count", "I", false)
  | 2 => ("PulledJersey$Puller", "stop", "I", false)
  | 3 => ("PulledJersey$Puller", "here", "J", false)
  | _ => ("PulledJersey$Puller", "touched", "J", false)
def tyX5 : Nat → FieldType := fun k => match k with
  | 0 => .array .int
  | 1 => .int
  | 2 => .int
  | 3 => .long
  | _ => .long
abbrev wsX50 : List Cond := u_ws RX5 TX5 5
theorem nmX5 : ∀ a, a < 5 → ∀ b, b < 5 → a ≠ b → (TX5 a).2.1 ≠ (TX5 b).2.1 := by decide +kernel
theorem tyX5_ok : ∀ k, k < 5 → parseFieldDescriptor (TX5 k).2.2.1 = some (tyX5 k) := by decide +kernel
abbrev cX5_init : ByteArray := prog_7_method_1_code
def yX5_init : MethodName := ⟨RX5, "<init>", "()V"⟩
abbrev cX5_walk : ByteArray := prog_7_method_2_code
def yX5_walk : MethodName := ⟨RX5, "walk", "(LPulledJersey$Fabric;III)V"⟩
abbrev cX5_comesUndone : ByteArray := prog_7_method_3_code
def yX5_comesUndone : MethodName := ⟨RX5, "comesUndone", "(LPulledJersey$Fabric;I)Z"⟩
def RX6 : String := "PulledJersey$Saver"
def TX6 : u_T := fun k => match k with
  | 0 => ("PulledJersey$Saver", "fewest", "I", false)
  | _ => ("PulledJersey$Saver", "loops", "J", false)
def tyX6 : Nat → FieldType := fun k => match k with
  | 0 => .int
  | _ => .long
abbrev wsX60 : List Cond := u_ws RX6 TX6 2
theorem nmX6 : ∀ a, a < 2 → ∀ b, b < 2 → a ≠ b → (TX6 a).2.1 ≠ (TX6 b).2.1 := by decide +kernel
theorem tyX6_ok : ∀ k, k < 2 → parseFieldDescriptor (TX6 k).2.2.1 = some (tyX6 k) := by decide +kernel
abbrev cX6_init : ByteArray := prog_8_method_1_code
def yX6_init : MethodName := ⟨RX6, "<init>", "()V"⟩
abbrev cX6_search : ByteArray := prog_8_method_2_code
def yX6_search : MethodName := ⟨RX6, "search", "(LPulledJersey$Fabric;I)V"⟩
abbrev cX6_goingWith : ByteArray := prog_8_method_3_code
def yX6_goingWith : MethodName := ⟨RX6, "goingWith", "(LPulledJersey$Fabric;J)J"⟩
abbrev cX6_choose : ByteArray := prog_8_method_4_code
def yX6_choose : MethodName := ⟨RX6, "choose", "(LPulledJersey$Fabric;JIJJ)V"⟩
def RX7 : String := "PulledJersey$Tape"
def TX7 : u_T := fun k => match k with
  | 0 => ("PulledJersey$Tape", "bytes", "[B", true)
  | _ => ("PulledJersey$Tape", "length", "I", false)
def tyX7 : Nat → FieldType := fun k => match k with
  | 0 => .array .byte
  | _ => .int
abbrev wsX70 : List Cond := u_ws RX7 TX7 2
theorem nmX7 : ∀ a, a < 2 → ∀ b, b < 2 → a ≠ b → (TX7 a).2.1 ≠ (TX7 b).2.1 := by decide +kernel
theorem tyX7_ok : ∀ k, k < 2 → parseFieldDescriptor (TX7 k).2.2.1 = some (tyX7 k) := by decide +kernel
abbrev cX7_init : ByteArray := prog_9_method_1_code
def yX7_init : MethodName := ⟨RX7, "<init>", "()V"⟩
abbrev cX7_hasRoom : ByteArray := prog_9_method_2_code
def yX7_hasRoom : MethodName := ⟨RX7, "hasRoom", "()Z"⟩
abbrev cX7_add : ByteArray := prog_9_method_3_code
def yX7_add : MethodName := ⟨RX7, "add", "(I)V"⟩
abbrev cX7_signAt : ByteArray := prog_9_method_4_code
def yX7_signAt : MethodName := ⟨RX7, "signAt", "(I)I"⟩
abbrev cX7_isLetter : ByteArray := prog_9_method_5_code
def yX7_isLetter : MethodName := ⟨RX7, "isLetter", "(I)Z"⟩
abbrev cX7_isDigit : ByteArray := prog_9_method_6_code
def yX7_isDigit : MethodName := ⟨RX7, "isDigit", "(I)Z"⟩
abbrev cX7_behindBlanks : ByteArray := prog_9_method_7_code
def yX7_behindBlanks : MethodName := ⟨RX7, "behindBlanks", "(I)I"⟩
abbrev cX7_behindToken : ByteArray := prog_9_method_8_code
def yX7_behindToken : MethodName := ⟨RX7, "behindToken", "(I)I"⟩
abbrev cX7_spells : ByteArray := prog_9_method_9_code
def yX7_spells : MethodName := ⟨RX7, "spells", "(Ljava/lang/String;II)Z"⟩
abbrev cX7_numberAt : ByteArray := prog_9_method_10_code
def yX7_numberAt : MethodName := ⟨RX7, "numberAt", "(II)I"⟩
def RX8 : String := "PulledJersey$Whole"
def TX8 : u_T := fun k => match k with
  | 0 => ("PulledJersey$Whole", "fabric", "LPulledJersey$Fabric;", true)
  | 1 => ("PulledJersey$Whole", "law", "LPulledJersey$Law;", true)
  | 2 => ("PulledJersey$Whole", "book", "LPulledJersey$Book;", true)
  | 3 => ("PulledJersey$Whole", "wool", "LPulledJersey$Wool;", true)
  | 4 => ("PulledJersey$Whole", "hour", "I", false)
  | _ => ("PulledJersey$Whole", "draws", "I", false)
def tyX8 : Nat → FieldType := fun k => match k with
  | 0 => .object "PulledJersey$Fabric"
  | 1 => .object "PulledJersey$Law"
  | 2 => .object "PulledJersey$Book"
  | 3 => .object "PulledJersey$Wool"
  | 4 => .int
  | _ => .int
abbrev wsX80 : List Cond := u_ws RX8 TX8 6
theorem nmX8 : ∀ a, a < 6 → ∀ b, b < 6 → a ≠ b → (TX8 a).2.1 ≠ (TX8 b).2.1 := by decide +kernel
theorem tyX8_ok : ∀ k, k < 6 → parseFieldDescriptor (TX8 k).2.2.1 = some (tyX8 k) := by decide +kernel
abbrev cX8_init : ByteArray := prog_10_method_1_code
def yX8_init : MethodName := ⟨RX8, "<init>", "()V"⟩
abbrev cX8_begin : ByteArray := prog_10_method_2_code
def yX8_begin : MethodName := ⟨RX8, "begin", "(II)V"⟩
abbrev cX8_copyFrom : ByteArray := prog_10_method_3_code
def yX8_copyFrom : MethodName := ⟨RX8, "copyFrom", "(LPulledJersey$Whole;)V"⟩
abbrev cX8_letGo : ByteArray := prog_10_method_4_code
def yX8_letGo : MethodName := ⟨RX8, "letGo", "(II)V"⟩
abbrev cX8_windUp : ByteArray := prog_10_method_5_code
def yX8_windUp : MethodName := ⟨RX8, "windUp", "(LPulledJersey$Puller;)V"⟩
abbrev cX8_draw : ByteArray := prog_10_method_6_code
def yX8_draw : MethodName := ⟨RX8, "draw", "(I)I"⟩
abbrev cX8_passHour : ByteArray := prog_10_method_7_code
def yX8_passHour : MethodName := ⟨RX8, "passHour", "()I"⟩
abbrev cX8_likelyQuiet : ByteArray := prog_10_method_8_code
def yX8_likelyQuiet : MethodName := ⟨RX8, "likelyQuiet", "()I"⟩
def RX9 : String := "PulledJersey$Wool"
def TX9 : u_T := fun k => match k with
  | 0 => ("PulledJersey$Wool", "lengths", "[I", true)
  | _ => ("PulledJersey$Wool", "count", "I", false)
def tyX9 : Nat → FieldType := fun k => match k with
  | 0 => .array .int
  | _ => .int
abbrev wsX90 : List Cond := u_ws RX9 TX9 2
theorem nmX9 : ∀ a, a < 2 → ∀ b, b < 2 → a ≠ b → (TX9 a).2.1 ≠ (TX9 b).2.1 := by decide +kernel
theorem tyX9_ok : ∀ k, k < 2 → parseFieldDescriptor (TX9 k).2.2.1 = some (tyX9 k) := by decide +kernel
abbrev cX9_init : ByteArray := prog_11_method_1_code
def yX9_init : MethodName := ⟨RX9, "<init>", "()V"⟩
abbrev cX9_copyFrom : ByteArray := prog_11_method_2_code
def yX9_copyFrom : MethodName := ⟨RX9, "copyFrom", "(LPulledJersey$Wool;)V"⟩
abbrev cX9_note : ByteArray := prog_11_method_3_code
def yX9_note : MethodName := ⟨RX9, "note", "(I)V"⟩
abbrev cX9_lengthOf : ByteArray := prog_11_method_4_code
def yX9_lengthOf : MethodName := ⟨RX9, "lengthOf", "(I)I"⟩
abbrev cX9_total : ByteArray := prog_11_method_5_code
def yX9_total : MethodName := ⟨RX9, "total", "()I"⟩
abbrev cX9_fewestFor : ByteArray := prog_11_method_6_code
def yX9_fewestFor : MethodName := ⟨RX9, "fewestFor", "(I)I"⟩
abbrev cX9_longestBut : ByteArray := prog_11_method_7_code
def yX9_longestBut : MethodName := ⟨RX9, "longestBut", "(I)I"⟩
def RX10 : String := "PulledJersey"
def TX10 : u_T := fun k => match k with
  | 0 => ("PulledJersey", "now", "LPulledJersey$Whole;", true)
  | 1 => ("PulledJersey", "kept", "LPulledJersey$Whole;", true)
  | 2 => ("PulledJersey", "past", "LPulledJersey$Past;", true)
  | 3 => ("PulledJersey", "tape", "LPulledJersey$Tape;", true)
  | 4 => ("PulledJersey", "reader", "LPulledJersey$LawReader;", true)
  | 5 => ("PulledJersey", "puller", "LPulledJersey$Puller;", true)
  | 6 => ("PulledJersey", "saver", "LPulledJersey$Saver;", true)
  | _ => ("PulledJersey", "isImageTaken", "Z", false)
def tyX10 : Nat → FieldType := fun k => match k with
  | 0 => .object "PulledJersey$Whole"
  | 1 => .object "PulledJersey$Whole"
  | 2 => .object "PulledJersey$Past"
  | 3 => .object "PulledJersey$Tape"
  | 4 => .object "PulledJersey$LawReader"
  | 5 => .object "PulledJersey$Puller"
  | 6 => .object "PulledJersey$Saver"
  | _ => .boolean
abbrev wsX100 : List Cond := u_ws RX10 TX10 8
theorem nmX10 : ∀ a, a < 8 → ∀ b, b < 8 → a ≠ b → (TX10 a).2.1 ≠ (TX10 b).2.1 := by decide +kernel
theorem tyX10_ok : ∀ k, k < 8 → parseFieldDescriptor (TX10 k).2.2.1 = some (tyX10 k) := by decide +kernel
abbrev cX10_init : ByteArray := prog_1_method_1_code
def yX10_init : MethodName := ⟨RX10, "<init>", "()V"⟩
abbrev cX10_state : ByteArray := prog_1_method_2_code
def yX10_state : MethodName := ⟨RX10, "state", "(I)I"⟩
abbrev cX10_cloth : ByteArray := prog_1_method_3_code
def yX10_cloth : MethodName := ⟨RX10, "cloth", "(II)Z"⟩
abbrev cX10_set : ByteArray := prog_1_method_4_code
def yX10_set : MethodName := ⟨RX10, "set", "(III)Z"⟩
abbrev cX10_gone : ByteArray := prog_1_method_5_code
def yX10_gone : MethodName := ⟨RX10, "gone", "(I)Z"⟩
abbrev cX10_cut : ByteArray := prog_1_method_6_code
def yX10_cut : MethodName := ⟨RX10, "cut", "(I)Z"⟩
abbrev cX10_pull : ByteArray := prog_1_method_7_code
def yX10_pull : MethodName := ⟨RX10, "pull", "(III)I"⟩
abbrev cX10_hours : ByteArray := prog_1_method_8_code
def yX10_hours : MethodName := ⟨RX10, "hours", "(I)I"⟩
abbrev cX10_feed : ByteArray := prog_1_method_9_code
def yX10_feed : MethodName := ⟨RX10, "feed", "(IIIII)I"⟩
abbrev cX10_end : ByteArray := prog_1_method_10_code
def yX10_end : MethodName := ⟨RX10, "end", "(I)Z"⟩
abbrev cX10_text : ByteArray := prog_1_method_11_code
def yX10_text : MethodName := ⟨RX10, "text", "()I"⟩
abbrev cX10_fault : ByteArray := prog_1_method_12_code
def yX10_fault : MethodName := ⟨RX10, "fault", "(I)I"⟩
abbrev cX10_of : ByteArray := prog_1_method_13_code
def yX10_of : MethodName := ⟨RX10, "of", "(II)I"⟩
abbrev cX10_at : ByteArray := prog_1_method_14_code
def yX10_at : MethodName := ⟨RX10, "at", "(II)I"⟩
abbrev cX10_wound : ByteArray := prog_1_method_15_code
def yX10_wound : MethodName := ⟨RX10, "wound", "(I)I"⟩
abbrev cX10_book : ByteArray := prog_1_method_16_code
def yX10_book : MethodName := ⟨RX10, "book", "(II)I"⟩
abbrev cX10_runs : ByteArray := prog_1_method_17_code
def yX10_runs : MethodName := ⟨RX10, "runs", "(II)I"⟩
abbrev cX10_save : ByteArray := prog_1_method_18_code
def yX10_save : MethodName := ⟨RX10, "save", "(II)I"⟩
abbrev cX10_comes : ByteArray := prog_1_method_19_code
def yX10_comes : MethodName := ⟨RX10, "comes", "(III)I"⟩
abbrev cX10_all : ByteArray := prog_1_method_20_code
def yX10_all : MethodName := ⟨RX10, "all", "(I)I"⟩
abbrev cX10_part : ByteArray := prog_1_method_21_code
def yX10_part : MethodName := ⟨RX10, "part", "(IIII)I"⟩
abbrev cX10_join : ByteArray := prog_1_method_22_code
def yX10_join : MethodName := ⟨RX10, "join", "(I)I"⟩
abbrev cX10_quiet : ByteArray := prog_1_method_23_code
def yX10_quiet : MethodName := ⟨RX10, "quiet", "()I"⟩
abbrev cX10_first : ByteArray := prog_1_method_24_code
def yX10_first : MethodName := ⟨RX10, "first", "(I)I"⟩
abbrev cX10_undo : ByteArray := prog_1_method_25_code
def yX10_undo : MethodName := ⟨RX10, "undo", "()Z"⟩
abbrev cX10_image : ByteArray := prog_1_method_26_code
def yX10_image : MethodName := ⟨RX10, "image", "(Z)Z"⟩
abbrev cX10_look : ByteArray := prog_1_method_27_code
def yX10_look : MethodName := ⟨RX10, "look", "(I)I"⟩
abbrev cX10_tellOfStitch : ByteArray := prog_1_method_28_code
def yX10_tellOfStitch : MethodName := ⟨RX10, "tellOfStitch", "(III)Z"⟩
abbrev cX10_undoesAll : ByteArray := prog_1_method_29_code
def yX10_undoesAll : MethodName := ⟨RX10, "undoesAll", "(II)Z"⟩
abbrev cX10_bitOf : ByteArray := prog_1_method_30_code
def yX10_bitOf : MethodName := ⟨RX10, "bitOf", "(JI)I"⟩
abbrev cX10_numberIn : ByteArray := prog_1_method_31_code
def yX10_numberIn : MethodName := ⟨RX10, "numberIn", "(JI)I"⟩
abbrev cX10_rectangle : ByteArray := prog_1_method_32_code
def yX10_rectangle : MethodName := ⟨RX10, "rectangle", "(IIII)J"⟩
def RX11 : String := "PulledJerseyModel"
def TX11 : u_T := fun k => match k with
  | 0 => ("PulledJerseyModel", "w", "[I", true)
  | 1 => ("PulledJerseyModel", "kept", "[I", true)
  | 2 => ("PulledJerseyModel", "back", "[I", true)
  | 3 => ("PulledJerseyModel", "backMany", "I", false)
  | 4 => ("PulledJerseyModel", "hasImage", "Z", false)
  | 5 => ("PulledJerseyModel", "freshLine", "[I", true)
  | 6 => ("PulledJerseyModel", "freshStep", "[I", true)
  | 7 => ("PulledJerseyModel", "tape", "[I", true)
  | 8 => ("PulledJerseyModel", "pile", "[I", true)
  | 9 => ("PulledJerseyModel", "facts", "[I", true)
  | 10 => ("PulledJerseyModel", "lines", "I", false)
  | 11 => ("PulledJerseyModel", "steps", "I", false)
  | 12 => ("PulledJerseyModel", "taped", "I", false)
  | 13 => ("PulledJerseyModel", "at", "I", false)
  | 14 => ("PulledJerseyModel", "token", "I", false)
  | 15 => ("PulledJerseyModel", "tokenAt", "I", false)
  | 16 => ("PulledJerseyModel", "value", "I", false)
  | 17 => ("PulledJerseyModel", "wrong", "I", false)
  | 18 => ("PulledJerseyModel", "wrongAt", "I", false)
  | 19 => ("PulledJerseyModel", "faultKind", "I", false)
  | 20 => ("PulledJerseyModel", "depth", "I", false)
  | 21 => ("PulledJerseyModel", "faultPlace", "I", false)
  | 22 => ("PulledJerseyModel", "here", "[I", true)
  | 23 => ("PulledJerseyModel", "caught", "[I", true)
  | 24 => ("PulledJerseyModel", "holders", "[I", true)
  | 25 => ("PulledJerseyModel", "queue", "[I", true)
  | 26 => ("PulledJerseyModel", "pulled", "I", false)
  | 27 => ("PulledJerseyModel", "passed", "I", false)
  | 28 => ("PulledJerseyModel", "stopped", "I", false)
  | 29 => ("PulledJerseyModel", "ran", "[I", true)
  | 30 => ("PulledJerseyModel", "saving", "[I", true)
  | 31 => ("PulledJerseyModel", "saved", "[I", true)
  | _ => ("PulledJerseyModel", "fewest", "I", false)
def tyX11 : Nat → FieldType := fun k => match k with
  | 0 => .array .int
  | 1 => .array .int
  | 2 => .array .int
  | 3 => .int
  | 4 => .boolean
  | 5 => .array .int
  | 6 => .array .int
  | 7 => .array .int
  | 8 => .array .int
  | 9 => .array .int
  | 10 => .int
  | 11 => .int
  | 12 => .int
  | 13 => .int
  | 14 => .int
  | 15 => .int
  | 16 => .int
  | 17 => .int
  | 18 => .int
  | 19 => .int
  | 20 => .int
  | 21 => .int
  | 22 => .array .int
  | 23 => .array .int
  | 24 => .array .int
  | 25 => .array .int
  | 26 => .int
  | 27 => .int
  | 28 => .int
  | 29 => .array .int
  | 30 => .array .int
  | 31 => .array .int
  | _ => .int
abbrev wsX110 : List Cond := u_ws RX11 TX11 33
theorem nmX11 : ∀ a, a < 33 → ∀ b, b < 33 → a ≠ b → (TX11 a).2.1 ≠ (TX11 b).2.1 := by decide +kernel
theorem tyX11_ok : ∀ k, k < 33 → parseFieldDescriptor (TX11 k).2.2.1 = some (tyX11 k) := by decide +kernel
abbrev cX11_init : ByteArray := prog_13_method_1_code
def yX11_init : MethodName := ⟨RX11, "<init>", "()V"⟩
abbrev cX11_begins : ByteArray := prog_13_method_2_code
def yX11_begins : MethodName := ⟨RX11, "begins", "(II)V"⟩
abbrev cX11_isIn : ByteArray := prog_13_method_3_code
def yX11_isIn : MethodName := ⟨RX11, "isIn", "(III)Z"⟩
abbrev cX11_least : ByteArray := prog_13_method_4_code
def yX11_least : MethodName := ⟨RX11, "least", "(II)I"⟩
abbrev cX11_most : ByteArray := prog_13_method_5_code
def yX11_most : MethodName := ⟨RX11, "most", "(II)I"⟩
abbrev cX11_isStitch : ByteArray := prog_13_method_6_code
def yX11_isStitch : MethodName := ⟨RX11, "isStitch", "(I)Z"⟩
abbrev cX11_isPlace : ByteArray := prog_13_method_7_code
def yX11_isPlace : MethodName := ⟨RX11, "isPlace", "(I)Z"⟩
abbrev cX11_placeOf : ByteArray := prog_13_method_8_code
def yX11_placeOf : MethodName := ⟨RX11, "placeOf", "(I)I"⟩
abbrev cX11_stitchAt : ByteArray := prog_13_method_9_code
def yX11_stitchAt : MethodName := ⟨RX11, "stitchAt", "(I)I"⟩
abbrev cX11_state : ByteArray := prog_13_method_10_code
def yX11_state : MethodName := ⟨RX11, "state", "(I)I"⟩
abbrev cX11_draw : ByteArray := prog_13_method_11_code
def yX11_draw : MethodName := ⟨RX11, "draw", "(I)I"⟩
abbrev cX11_cloth : ByteArray := prog_13_method_12_code
def yX11_cloth : MethodName := ⟨RX11, "cloth", "(II)Z"⟩
abbrev cX11_set : ByteArray := prog_13_method_13_code
def yX11_set : MethodName := ⟨RX11, "set", "(III)Z"⟩
abbrev cX11_comesBack : ByteArray := prog_13_method_14_code
def yX11_comesBack : MethodName := ⟨RX11, "comesBack", "(I)V"⟩
abbrev cX11_feed : ByteArray := prog_13_method_15_code
def yX11_feed : MethodName := ⟨RX11, "feed", "(IIIII)I"⟩
abbrev cX11_end : ByteArray := prog_13_method_16_code
def yX11_end : MethodName := ⟨RX11, "end", "(I)Z"⟩
abbrev cX11_see : ByteArray := prog_13_method_17_code
def yX11_see : MethodName := ⟨RX11, "see", "(I)I"⟩
abbrev cX11_isLetter : ByteArray := prog_13_method_18_code
def yX11_isLetter : MethodName := ⟨RX11, "isLetter", "(I)Z"⟩
abbrev cX11_isDigit : ByteArray := prog_13_method_19_code
def yX11_isDigit : MethodName := ⟨RX11, "isDigit", "(I)Z"⟩
abbrev cX11_is : ByteArray := prog_13_method_20_code
def yX11_is : MethodName := ⟨RX11, "is", "(Ljava/lang/String;)Z"⟩
abbrev cX11_nameWord : ByteArray := prog_13_method_21_code
def yX11_nameWord : MethodName := ⟨RX11, "nameWord", "()I"⟩
abbrev cX11_word : ByteArray := prog_13_method_22_code
def yX11_word : MethodName := ⟨RX11, "word", "()I"⟩
abbrev cX11_next0 : ByteArray := prog_13_method_23_code
def yX11_next0 : MethodName := ⟨RX11, "next0", "()V"⟩
abbrev cX11_bad : ByteArray := prog_13_method_24_code
def yX11_bad : MethodName := ⟨RX11, "bad", "(I)Z"⟩
abbrev cX11_need : ByteArray := prog_13_method_25_code
def yX11_need : MethodName := ⟨RX11, "need", "(I)Z"⟩
abbrev cX11_lay : ByteArray := prog_13_method_26_code
def yX11_lay : MethodName := ⟨RX11, "lay", "(II)V"⟩
abbrev cX11_opens : ByteArray := prog_13_method_27_code
def yX11_opens : MethodName := ⟨RX11, "opens", "()Z"⟩
abbrev cX11_sumUp : ByteArray := prog_13_method_28_code
def yX11_sumUp : MethodName := ⟨RX11, "sumUp", "()Z"⟩
abbrev cX11_product : ByteArray := prog_13_method_29_code
def yX11_product : MethodName := ⟨RX11, "product", "()Z"⟩
abbrev cX11_unit : ByteArray := prog_13_method_30_code
def yX11_unit : MethodName := ⟨RX11, "unit", "()Z"⟩
abbrev cX11_any : ByteArray := prog_13_method_31_code
def yX11_any : MethodName := ⟨RX11, "any", "()Z"⟩
abbrev cX11_every : ByteArray := prog_13_method_32_code
def yX11_every : MethodName := ⟨RX11, "every", "()Z"⟩
abbrev cX11_oneTest : ByteArray := prog_13_method_33_code
def yX11_oneTest : MethodName := ⟨RX11, "oneTest", "()Z"⟩
abbrev cX11_aLine : ByteArray := prog_13_method_34_code
def yX11_aLine : MethodName := ⟨RX11, "aLine", "()Z"⟩
abbrev cX11_text : ByteArray := prog_13_method_35_code
def yX11_text : MethodName := ⟨RX11, "text", "()I"⟩
abbrev cX11_fault : ByteArray := prog_13_method_36_code
def yX11_fault : MethodName := ⟨RX11, "fault", "(I)I"⟩
abbrev cX11_both : ByteArray := prog_13_method_37_code
def yX11_both : MethodName := ⟨RX11, "both", "(III)I"⟩
abbrev cX11_comesTo : ByteArray := prog_13_method_38_code
def yX11_comesTo : MethodName := ⟨RX11, "comesTo", "(II)I"⟩
abbrev cX11_laysNow : ByteArray := prog_13_method_39_code
def yX11_laysNow : MethodName := ⟨RX11, "laysNow", "()V"⟩
abbrev cX11_drawnOne : ByteArray := prog_13_method_40_code
def yX11_drawnOne : MethodName := ⟨RX11, "drawnOne", "(I)I"⟩
abbrev cX11_drawnOther : ByteArray := prog_13_method_41_code
def yX11_drawnOther : MethodName := ⟨RX11, "drawnOther", "(I)I"⟩
abbrev cX11_holds : ByteArray := prog_13_method_42_code
def yX11_holds : MethodName := ⟨RX11, "holds", "(II)V"⟩
abbrev cX11_laysHolders : ByteArray := prog_13_method_43_code
def yX11_laysHolders : MethodName := ⟨RX11, "laysHolders", "()V"⟩
abbrev cX11_isHeld : ByteArray := prog_13_method_44_code
def yX11_isHeld : MethodName := ⟨RX11, "isHeld", "(I)Z"⟩
abbrev cX11_isLoose : ByteArray := prog_13_method_45_code
def yX11_isLoose : MethodName := ⟨RX11, "isLoose", "(I)Z"⟩
abbrev cX11_goes : ByteArray := prog_13_method_46_code
def yX11_goes : MethodName := ⟨RX11, "goes", "(I)V"⟩
abbrev cX11_allRun : ByteArray := prog_13_method_47_code
def yX11_allRun : MethodName := ⟨RX11, "allRun", "()I"⟩
abbrev cX11_isQueued : ByteArray := prog_13_method_48_code
def yX11_isQueued : MethodName := ⟨RX11, "isQueued", "(II)Z"⟩
abbrev cX11_oddsOf : ByteArray := prog_13_method_49_code
def yX11_oddsOf : MethodName := ⟨RX11, "oddsOf", "(I)I"⟩
abbrev cX11_keeps : ByteArray := prog_13_method_50_code
def yX11_keeps : MethodName := ⟨RX11, "keeps", "()V"⟩
abbrev cX11_undo : ByteArray := prog_13_method_51_code
def yX11_undo : MethodName := ⟨RX11, "undo", "()Z"⟩
abbrev cX11_isGone : ByteArray := prog_13_method_52_code
def yX11_isGone : MethodName := ⟨RX11, "isGone", "(II)V"⟩
abbrev cX11_gone : ByteArray := prog_13_method_53_code
def yX11_gone : MethodName := ⟨RX11, "gone", "(I)Z"⟩
abbrev cX11_cut : ByteArray := prog_13_method_54_code
def yX11_cut : MethodName := ⟨RX11, "cut", "(I)Z"⟩
abbrev cX11_isEnd : ByteArray := prog_13_method_55_code
def yX11_isEnd : MethodName := ⟨RX11, "isEnd", "(II)Z"⟩
abbrev cX11_lengthOf : ByteArray := prog_13_method_56_code
def yX11_lengthOf : MethodName := ⟨RX11, "lengthOf", "(I)I"⟩
abbrev cX11_pulls : ByteArray := prog_13_method_57_code
def yX11_pulls : MethodName := ⟨RX11, "pulls", "(IIIZ)V"⟩
abbrev cX11_winds : ByteArray := prog_13_method_58_code
def yX11_winds : MethodName := ⟨RX11, "winds", "(II)V"⟩
abbrev cX11_pull : ByteArray := prog_13_method_59_code
def yX11_pull : MethodName := ⟨RX11, "pull", "(III)I"⟩
abbrev cX11_anHour : ByteArray := prog_13_method_60_code
def yX11_anHour : MethodName := ⟨RX11, "anHour", "()I"⟩
abbrev cX11_hours : ByteArray := prog_13_method_61_code
def yX11_hours : MethodName := ⟨RX11, "hours", "(I)I"⟩
abbrev cX11_of : ByteArray := prog_13_method_62_code
def yX11_of : MethodName := ⟨RX11, "of", "(II)I"⟩
abbrev cX11_at : ByteArray := prog_13_method_63_code
def yX11_at : MethodName := ⟨RX11, "at", "(II)I"⟩
abbrev cX11_wound : ByteArray := prog_13_method_64_code
def yX11_wound : MethodName := ⟨RX11, "wound", "(I)I"⟩
abbrev cX11_book : ByteArray := prog_13_method_65_code
def yX11_book : MethodName := ⟨RX11, "book", "(II)I"⟩
abbrev cX11_runs : ByteArray := prog_13_method_66_code
def yX11_runs : MethodName := ⟨RX11, "runs", "(II)I"⟩
abbrev cX11_canCatch : ByteArray := prog_13_method_67_code
def yX11_canCatch : MethodName := ⟨RX11, "canCatch", "(I)Z"⟩
abbrev cX11_saves : ByteArray := prog_13_method_68_code
def yX11_saves : MethodName := ⟨RX11, "saves", "(III)V"⟩
abbrev cX11_hereMany : ByteArray := prog_13_method_69_code
def yX11_hereMany : MethodName := ⟨RX11, "hereMany", "()I"⟩
abbrev cX11_save : ByteArray := prog_13_method_70_code
def yX11_save : MethodName := ⟨RX11, "save", "(II)I"⟩
abbrev cX11_comes : ByteArray := prog_13_method_71_code
def yX11_comes : MethodName := ⟨RX11, "comes", "(III)I"⟩
abbrev cX11_all : ByteArray := prog_13_method_72_code
def yX11_all : MethodName := ⟨RX11, "all", "(I)I"⟩
abbrev cX11_isInside : ByteArray := prog_13_method_73_code
def yX11_isInside : MethodName := ⟨RX11, "isInside", "(IIIII)Z"⟩
abbrev cX11_part : ByteArray := prog_13_method_74_code
def yX11_part : MethodName := ⟨RX11, "part", "(IIII)I"⟩
abbrev cX11_join : ByteArray := prog_13_method_75_code
def yX11_join : MethodName := ⟨RX11, "join", "(I)I"⟩
abbrev cX11_quiet : ByteArray := prog_13_method_76_code
def yX11_quiet : MethodName := ⟨RX11, "quiet", "()I"⟩
abbrev cX11_isSoBy : ByteArray := prog_13_method_77_code
def yX11_isSoBy : MethodName := ⟨RX11, "isSoBy", "(I)Z"⟩
abbrev cX11_first : ByteArray := prog_13_method_78_code
def yX11_first : MethodName := ⟨RX11, "first", "(I)I"⟩
abbrev cX11_image : ByteArray := prog_13_method_79_code
def yX11_image : MethodName := ⟨RX11, "image", "(Z)Z"⟩
abbrev cX11_cuts : ByteArray := prog_13_method_80_code
def yX11_cuts : MethodName := ⟨RX11, "cuts", "()I"⟩
abbrev cX11_look : ByteArray := prog_13_method_81_code
def yX11_look : MethodName := ⟨RX11, "look", "(I)I"⟩
def RJ13 : String := "java/lang/Long"
def TJ13 : u_T := fun k => match k with
  | _ => ("", "", "", false)
def tyJ13 : Nat → FieldType := fun k => match k with
  | _ => .int
abbrev wsJ130 : List Cond := u_ws RJ13 TJ13 0
theorem nmJ13 : ∀ a, a < 0 → ∀ b, b < 0 → a ≠ b → (TJ13 a).2.1 ≠ (TJ13 b).2.1 := by decide +kernel
theorem tyJ13_ok : ∀ k, k < 0 → parseFieldDescriptor (TJ13 k).2.2.1 = some (tyJ13 k) := by decide +kernel
abbrev cJ13_bitCount_95d88 : ByteArray := prog_14_method_50_code
def yJ13_bitCount_95d88 : MethodName := ⟨RJ13, "bitCount", "(J)I"⟩
def RJ9 : String := "java/lang/Math"
def TJ9 : u_T := fun k => match k with
  | _ => ("", "", "", false)
def tyJ9 : Nat → FieldType := fun k => match k with
  | _ => .int
abbrev wsJ90 : List Cond := u_ws RJ9 TJ9 0
theorem nmJ9 : ∀ a, a < 0 → ∀ b, b < 0 → a ≠ b → (TJ9 a).2.1 ≠ (TJ9 b).2.1 := by decide +kernel
theorem tyJ9_ok : ∀ k, k < 0 → parseFieldDescriptor (TJ9 k).2.2.1 = some (tyJ9 k) := by decide +kernel
abbrev cJ9_max_7cf53 : ByteArray := prog_15_method_65_code
def yJ9_max_7cf53 : MethodName := ⟨RJ9, "max", "(II)I"⟩
abbrev cJ9_min_7cf53 : ByteArray := prog_15_method_69_code
def yJ9_min_7cf53 : MethodName := ⟨RJ9, "min", "(II)I"⟩
def RJ0 : String := "java/lang/String"
def TJ0 : u_T := fun k => match k with
  | _ => ("", "", "", false)
def tyJ0 : Nat → FieldType := fun k => match k with
  | _ => .int
abbrev wsJ00 : List Cond := u_ws RJ0 TJ0 0
theorem nmJ0 : ∀ a, a < 0 → ∀ b, b < 0 → a ≠ b → (TJ0 a).2.1 ≠ (TJ0 b).2.1 := by decide +kernel
theorem tyJ0_ok : ∀ k, k < 0 → parseFieldDescriptor (TJ0 k).2.2.1 = some (tyJ0 k) := by decide +kernel
abbrev cJ0_length_8abf5 : ByteArray := prog_16_method_54_code
def yJ0_length_8abf5 : MethodName := ⟨RJ0, "length", "()I"⟩
abbrev cJ0_charAt_5068e : ByteArray := prog_16_method_56_code
def yJ0_charAt_5068e : MethodName := ⟨RJ0, "charAt", "(I)C"⟩
abbrev cJ0_coder_7d493 : ByteArray := prog_16_method_152_code
def yJ0_coder_7d493 : MethodName := ⟨RJ0, "coder", "()B"⟩
abbrev cJ0_isLatin1_aae02 : ByteArray := prog_16_method_154_code
def yJ0_isLatin1_aae02 : MethodName := ⟨RJ0, "isLatin1", "()Z"⟩
abbrev cJ0_checkIndex_df160 : ByteArray := prog_16_method_155_code
def yJ0_checkIndex_df160 : MethodName := ⟨RJ0, "checkIndex", "(II)V"⟩
def RJ1 : String := "java/lang/StringLatin1"
def TJ1 : u_T := fun k => match k with
  | _ => ("", "", "", false)
def tyJ1 : Nat → FieldType := fun k => match k with
  | _ => .int
abbrev wsJ10 : List Cond := u_ws RJ1 TJ1 0
theorem nmJ1 : ∀ a, a < 0 → ∀ b, b < 0 → a ≠ b → (TJ1 a).2.1 ≠ (TJ1 b).2.1 := by decide +kernel
theorem tyJ1_ok : ∀ k, k < 0 → parseFieldDescriptor (TJ1 k).2.2.1 = some (tyJ1 k) := by decide +kernel
abbrev cJ1_charAt_3b067 : ByteArray := prog_17_method_2_code
def yJ1_charAt_3b067 : MethodName := ⟨RJ1, "charAt", "([BI)C"⟩
def RJ2 : String := "java/lang/StringUTF16"
def TJ2 : u_T := fun k => match k with
  | _ => ("", "", "", false)
def tyJ2 : Nat → FieldType := fun k => match k with
  | _ => .int
abbrev wsJ20 : List Cond := u_ws RJ2 TJ2 0
theorem nmJ2 : ∀ a, a < 0 → ∀ b, b < 0 → a ≠ b → (TJ2 a).2.1 ≠ (TJ2 b).2.1 := by decide +kernel
theorem tyJ2_ok : ∀ k, k < 0 → parseFieldDescriptor (TJ2 k).2.2.1 = some (tyJ2 k) := by decide +kernel
abbrev cJ2_getChar_3b067 : ByteArray := prog_18_method_5_code
def yJ2_getChar_3b067 : MethodName := ⟨RJ2, "getChar", "([BI)C"⟩
abbrev cJ2_length_9d52b : ByteArray := prog_18_method_6_code
def yJ2_length_9d52b : MethodName := ⟨RJ2, "length", "([B)I"⟩
abbrev cJ2_charAt_3b067 : ByteArray := prog_18_method_83_code
def yJ2_charAt_3b067 : MethodName := ⟨RJ2, "charAt", "([BI)C"⟩
abbrev cJ2_checkIndex_2214a : ByteArray := prog_18_method_91_code
def yJ2_checkIndex_2214a : MethodName := ⟨RJ2, "checkIndex", "(I[B)V"⟩
def RJ10 : String := "java/lang/System"
def TJ10 : u_T := fun k => match k with
  | _ => ("", "", "", false)
def tyJ10 : Nat → FieldType := fun k => match k with
  | _ => .int
abbrev wsJ100 : List Cond := u_ws RJ10 TJ10 0
theorem nmJ10 : ∀ a, a < 0 → ∀ b, b < 0 → a ≠ b → (TJ10 a).2.1 ≠ (TJ10 b).2.1 := by decide +kernel
theorem tyJ10_ok : ∀ k, k < 0 → parseFieldDescriptor (TJ10 k).2.2.1 = some (tyJ10 k) := by decide +kernel
def RJ3 : String := "jdk/internal/util/Preconditions"
def TJ3 : u_T := fun k => match k with
  | _ => ("", "", "", false)
def tyJ3 : Nat → FieldType := fun k => match k with
  | _ => .int
abbrev wsJ30 : List Cond := u_ws RJ3 TJ3 0
theorem nmJ3 : ∀ a, a < 0 → ∀ b, b < 0 → a ≠ b → (TJ3 a).2.1 ≠ (TJ3 b).2.1 := by decide +kernel
theorem tyJ3_ok : ∀ k, k < 0 → parseFieldDescriptor (TJ3 k).2.2.1 = some (tyJ3 k) := by decide +kernel
abbrev cJ3_checkIndex_8e157 : ByteArray := prog_20_method_11_code
def yJ3_checkIndex_8e157 : MethodName := ⟨RJ3, "checkIndex", "(IILjava/util/function/BiFunction;)I"⟩
def RL : String := "PulledJerseyLaw"
abbrev cL_law : ByteArray := code
def yL_law : MethodName := ⟨RL, "law", "([I)Z"⟩
abbrev vwCl : List vw_C := [(RX0, TX0, 4), (RX1, TX1, 10), (RX2, TX2, 5), (RX3, TX3, 10), (RX4, TX4, 9), (RX5, TX5, 5), (RX6, TX6, 2), (RX7, TX7, 2), (RX8, TX8, 6), (RX9, TX9, 2), (RX10, TX10, 8), (RX11, TX11, 33)]
theorem inX0 : ∀ w ∈ wsX00, w ∈ lw_tbl := by decide +kernel
theorem inX1 : ∀ w ∈ wsX10, w ∈ lw_tbl := by decide +kernel
theorem inX2 : ∀ w ∈ wsX20, w ∈ lw_tbl := by decide +kernel
theorem inX3 : ∀ w ∈ wsX30, w ∈ lw_tbl := by decide +kernel
theorem inX4 : ∀ w ∈ wsX40, w ∈ lw_tbl := by decide +kernel
theorem inX5 : ∀ w ∈ wsX50, w ∈ lw_tbl := by decide +kernel
theorem inX6 : ∀ w ∈ wsX60, w ∈ lw_tbl := by decide +kernel
theorem inX7 : ∀ w ∈ wsX70, w ∈ lw_tbl := by decide +kernel
theorem inX8 : ∀ w ∈ wsX80, w ∈ lw_tbl := by decide +kernel
theorem inX9 : ∀ w ∈ wsX90, w ∈ lw_tbl := by decide +kernel
theorem inX10 : ∀ w ∈ wsX100, w ∈ lw_tbl := by decide +kernel
theorem inX11 : ∀ w ∈ wsX110, w ∈ lw_tbl := by decide +kernel
theorem inJ13 : ∀ w ∈ wsJ130, w ∈ lw_tbl := by decide +kernel
theorem inJ9 : ∀ w ∈ wsJ90, w ∈ lw_tbl := by decide +kernel
theorem inJ0 : ∀ w ∈ wsJ00, w ∈ lw_tbl := by decide +kernel
theorem inJ1 : ∀ w ∈ wsJ10, w ∈ lw_tbl := by decide +kernel
theorem inJ2 : ∀ w ∈ wsJ20, w ∈ lw_tbl := by decide +kernel
theorem inJ10 : ∀ w ∈ wsJ100, w ∈ lw_tbl := by decide +kernel
theorem inJ3 : ∀ w ∈ wsJ30, w ∈ lw_tbl := by decide +kernel
end
section
/-! THE BASE. A world is a list of cells by their numbers: objects whose fields are ints, longs or fixed references, rows of ints, longs, bytes. Its state: pj_S: of cell k the int (the long) at field or place j. -/
abbrev pj_S : Type := (Nat → Nat → Int32) × (Nat → Nat → Int64)
def pj_sI (z : pj_S) (k j : Nat) (v : Int32) : pj_S := (fun a => if a = k then upd (z.1 a) j v else z.1 a, z.2)
def pj_sJ (z : pj_S) (k j : Nat) (v : Int64) : pj_S := (z.1, fun a => if a = k then vp_updL (z.2 a) j v else z.2 a)
/-- a row of ints copied into another -/
def pj_sC (z : pj_S) (k0 k1 : Nat) (sp dp n : Nat) : pj_S := (fun a => if a = k1 then va_cpy (z.1 k0) (z.1 k1) sp dp n else z.1 a, z.2)
/-- a cell's form: an object (number of its class; its fields: 0 int, 1 long, 2 a reference to cell k), or a row (length; 0 int, 1 long, 2 byte) -/
abbrev pj_Y : Type := (Nat × List (Nat × Nat)) ⊕ (Nat × Nat)
/-- tables, addresses, array classes, forms, and addresses of what is static -/
abbrev pj_B : Type := va_G × (Nat → Nat) × (ClassId × ClassId × ClassId) × List pj_Y × Nat × (Nat → Nat) × (Nat → Nat)
def pj_fv (ad : Nat → Nat) (z : pj_S) (k j : Nat) (d : Nat × Nat) : Value := if d.1 = 0 then .int (z.1 k j) else if d.1 = 1 then .long (z.2 k j) else .ref (ad d.2)
def pj_e (ad : Nat → Nat) (cs : ClassId × ClassId × ClassId) (z : pj_S) (k : Nat) (y : pj_Y) : va_E := match y with
  | .inl o => .inr (o.1, o.2.mapIdx (fun j d => pj_fv ad z k j d))
  | .inr a => if a.2 = 0 then .inl (cs.1, a.1, .inl (z.1 k)) else if a.2 = 1 then .inl (cs.2.1, a.1, .inr (.inl (z.2 k))) else .inl (cs.2.2, a.1, .inl (z.1 k))
def pj_w (B : pj_B) (z : pj_S) : va_W := B.2.2.2.1.mapIdx (fun k y => (B.2.1 k, pj_e B.2.1 B.2.2.1 z k y))
def pj_ar (B : pj_B) (sz : Nat) : Nat → Prop := fun q => (∃ k, k < B.2.2.2.1.length ∧ q = B.2.1 k) ∨ sz ≤ q
def pj_apart (B : pj_B) : Prop := ∀ i j, i < B.2.2.2.1.length → j < B.2.2.2.1.length → B.2.1 i = B.2.1 j → i = j
theorem pj_wg {B : pj_B} {z : pj_S} {k : Nat} {y : pj_Y} (h : B.2.2.2.1[k]? = some y) : (pj_w B z)[k]? = some (B.2.1 k, pj_e B.2.1 B.2.2.1 z k y) := by
  simp [pj_w, List.getElem?_mapIdx, h]
theorem pj_wi {B : pj_B} {z : pj_S} {k : Nat} {q : Nat × va_E} (h : (pj_w B z)[k]? = some q) : k < B.2.2.2.1.length ∧ q.1 = B.2.1 k := by
  have h1 := (List.getElem?_eq_some_iff.mp h).1
  simp only [pj_w, List.length_mapIdx] at h1
  refine ⟨h1, ?_⟩
  simp only [pj_w, List.getElem?_mapIdx, Option.map_eq_some_iff] at h
  obtain ⟨y, -, rfl⟩ := h
  rfl
theorem pj_wD {B : pj_B} {A : Nat → Prop} (h : pj_apart B) (hA : ∀ k, k < B.2.2.2.1.length → A (B.2.1 k)) (z : pj_S) : va_D A (pj_w B z) := by
  refine ⟨fun i j p q hi hj e => ?_, fun k q hk => ?_⟩
  · obtain ⟨i1, i2⟩ := pj_wi hi
    obtain ⟨j1, j2⟩ := pj_wi hj
    exact h i j i1 j1 (by rw [← i2, ← j2, e])
  · obtain ⟨k1, k2⟩ := pj_wi hk
    rw [k2]
    exact hA k k1
theorem pj_ws_ {B : pj_B} {z z' : pj_S} {k : Nat} {y : pj_Y} (h : B.2.2.2.1[k]? = some y) (h1 : ∀ a, a ≠ k → z'.1 a = z.1 a) (h2 : ∀ a, a ≠ k → z'.2 a = z.2 a) : (pj_w B z).set k (B.2.1 k, pj_e B.2.1 B.2.2.1 z' k y) = pj_w B z' := by
  apply List.ext_getElem?
  intro i
  have hl := (List.getElem?_eq_some_iff.mp h).1
  by_cases hi : i = k
  · subst hi
    rw [List.getElem?_set_self (by simp [pj_w, hl]), pj_wg h]
  · rw [List.getElem?_set_ne (Ne.symm hi)]
    cases hy : B.2.2.2.1[i]? with
    | none => simp [pj_w, List.getElem?_mapIdx, hy]
    | some y2 =>
      rw [pj_wg hy, pj_wg hy]
      have e1 := h1 i hi
      have e2 := h2 i hi
      congr 2
      cases y2 with
      | inl o => simp [pj_e, pj_fv, e1, e2]
      | inr a => simp [pj_e, e1, e2]
theorem pj_fsI {ad : Nat → Nat} {z : pj_S} {k j : Nat} {v : Int32} {l : List (Nat × Nat)} {n : Nat} (h : l[j]? = some (0, n)) : (l.mapIdx (fun i d => pj_fv ad z k i d)).set j (.int v) = l.mapIdx (fun i d => pj_fv ad (pj_sI z k j v) k i d) := by
  apply List.ext_getElem?
  intro i
  have hl := (List.getElem?_eq_some_iff.mp h).1
  by_cases hi : i = j
  · subst hi
    rw [List.getElem?_set_self (by simp [hl])]
    simp [List.getElem?_mapIdx, h, pj_fv, pj_sI, upd]
  · rw [List.getElem?_set_ne (Ne.symm hi)]
    simp [List.getElem?_mapIdx, pj_fv, pj_sI, upd, hi]
theorem pj_fsJ {ad : Nat → Nat} {z : pj_S} {k j : Nat} {v : Int64} {l : List (Nat × Nat)} {n : Nat} (h : l[j]? = some (1, n)) : (l.mapIdx (fun i d => pj_fv ad z k i d)).set j (.long v) = l.mapIdx (fun i d => pj_fv ad (pj_sJ z k j v) k i d) := by
  apply List.ext_getElem?
  intro i
  have hl := (List.getElem?_eq_some_iff.mp h).1
  by_cases hi : i = j
  · subst hi
    rw [List.getElem?_set_self (by simp [hl])]
    simp [List.getElem?_mapIdx, h, pj_fv, pj_sJ, vp_updL]
  · rw [List.getElem?_set_ne (Ne.symm hi)]
    simp [List.getElem?_mapIdx, pj_fv, pj_sJ, vp_updL, hi]
/-! what is static: array classes, nest mates' links, a constant row, Strings -/
def pj_tbl : List Cond := lw_tbl.filter goodWord
def pj_lenS : List Nat := [3, 4, 2, 3, 3, 4, 3, 6, 6, 5, 4, 4]
def pj_bytS : List (List Int32) := [[114, 117, 110], [119, 104, 101, 110], [111, 114], [97, 110, 100], [110, 111, 116], [107, 105, 110, 100], [114, 111, 119], [99, 111, 108, 117, 109, 110], [98, 101, 115, 105, 100, 101], [98, 101, 108, 111, 119], [104, 111, 117, 114], [103, 111, 110, 101]]
def pj_nl : List (String × Nat × MethodName) := [("PulledJersey", 9, ⟨"PulledJersey$Whole", "<init>", "()V"⟩), ("PulledJersey$Whole", 11, ⟨"PulledJersey$Fabric", "<init>", "()V"⟩), ("PulledJersey$Whole", 20, ⟨"PulledJersey$Law", "<init>", "()V"⟩), ("PulledJersey$Whole", 27, ⟨"PulledJersey$Book", "<init>", "()V"⟩), ("PulledJersey$Whole", 34, ⟨"PulledJersey$Wool", "<init>", "()V"⟩), ("PulledJersey", 21, ⟨"PulledJersey$Past", "<init>", "()V"⟩), ("PulledJersey", 28, ⟨"PulledJersey$Tape", "<init>", "()V"⟩), ("PulledJersey", 35, ⟨"PulledJersey$LawReader", "<init>", "()V"⟩), ("PulledJersey", 42, ⟨"PulledJersey$Puller", "<init>", "()V"⟩), ("PulledJersey", 49, ⟨"PulledJersey$Saver", "<init>", "()V"⟩), ("PulledJersey$Fabric", 22, ⟨"PulledJersey", "rectangle", "(IIII)J"⟩), ("PulledJersey$Fabric", 48, ⟨"PulledJersey", "bitOf", "(JI)I"⟩), ("PulledJersey$Puller", 44, ⟨"PulledJersey", "bitOf", "(JI)I"⟩), ("PulledJersey$Whole", 116, ⟨"PulledJersey", "bitOf", "(JI)I"⟩)]
def pj_sl : List (String × Nat × String × Nat) := [("PulledJersey$LawReader", 91, "run", 0), ("PulledJersey$LawReader", 97, "when", 1), ("PulledJersey$LawReader", 99, "or", 2), ("PulledJersey$LawReader", 101, "and", 3), ("PulledJersey$LawReader", 103, "not", 4), ("PulledJersey$LawReader", 108, "kind", 5), ("PulledJersey$LawReader", 110, "row", 6), ("PulledJersey$LawReader", 112, "column", 7), ("PulledJersey$LawReader", 114, "beside", 8), ("PulledJersey$LawReader", 116, "below", 9), ("PulledJersey$LawReader", 118, "hour", 10), ("PulledJersey$LawReader", 120, "gone", 11), ("PulledJerseyModel", 117, "when", 1), ("PulledJerseyModel", 119, "or", 2), ("PulledJerseyModel", 121, "and", 3), ("PulledJerseyModel", 123, "not", 4), ("PulledJerseyModel", 125, "run", 0), ("PulledJerseyModel", 99, "kind", 5), ("PulledJerseyModel", 105, "row", 6), ("PulledJerseyModel", 107, "column", 7), ("PulledJerseyModel", 109, "beside", 8), ("PulledJerseyModel", 111, "below", 9), ("PulledJerseyModel", 113, "hour", 10), ("PulledJerseyModel", 115, "gone", 11)]
def pj_lk : List Int32 := [3, 4, 2, 5]
def pj_stat (B : pj_B) (A : Nat → Prop) (U : State) (H : Heap) : Prop :=
  (∀ q ∈ pj_nl, va_Nw (.methodLinkNest q.1 q.2.1 q.2.2 "PulledJersey") U) ∧ va_Nw (.fieldLinkNest "PulledJersey$Fabric" 91 "PulledJersey" "LENGTH_OF_KIND" "[I" "PulledJersey") U ∧
  va_Z "PulledJersey" "LENGTH_OF_KIND" "[I" (.ref B.2.2.2.2.1) A U H ∧ va_T .int B.2.2.2.2.1 4 (fun j => .int (pj_lk.getD j 0)) A U H ∧
  va_Z "java/lang/String" "COMPACT_STRINGS" "Z" (.int 1) A U H ∧ va_Zq "jdk/internal/util/Preconditions" "SIOOBE_FORMATTER" "Ljava/util/function/BiFunction;" A U H ∧
  (∀ q ∈ pj_sl, vk_R q.1 q.2.1 q.2.2.1 (B.2.2.2.2.2.1 q.2.2.2) U) ∧ vk_S 12 pj_lenS pj_bytS B.2.2.2.2.2.1 B.2.2.2.2.2.2 A U H
theorem pj_stat.to {B : pj_B} {A A' : Nat → Prop} {s U : State} {H : Heap} {lo : List Loc} (h : pj_stat B A s s.heap) (hW : s.WarmedH U.vm) (hS : va_S A s.heap H lo) (hA : ∀ q, A' q → A q) : pj_stat B A' U H := by
  obtain ⟨h1, h2, h3, h4, h5, h6, h7, h8⟩ := h
  exact ⟨fun q hq => va_Nw.warmM hW (h1 q hq), va_Nw.warmF hW h2, ((va_Z.moved hW.alike h3).kept hS.2.1).narrow hA, ((va_T.moved hW.alike h4).kept hS.2.1).narrow hA, ((va_Z.moved hW.alike h5).kept hS.2.1).narrow hA,
    ((va_Zq.moved hW.alike h6).kept hS.2.1).narrow hA, fun q hq => vk_R.warm hW (h7 q hq), ((vk_S.moved hW.alike h8).kept hS.2.1).narrow hA⟩
theorem pj_stat.same {B : pj_B} {A : Nat → Prop} {u U : State} {H : Heap} (h : pj_stat B A u H) (hv : U.vm = u.vm) : pj_stat B A U H := by
  obtain ⟨h1, h2, h3, h4, h5, h6, h7, h8⟩ := h
  have ha : u.vm.Alike U.vm := by rw [hv]; exact Vm.Alike.refl u.vm
  exact ⟨fun q hq => va_Nw.same rfl hv.symm (h1 q hq), va_Nw.same rfl hv.symm h2, va_Z.moved ha h3, va_T.moved ha h4, va_Z.moved ha h5, va_Zq.moved ha h6, fun q hq => vk_R.same hv (h7 q hq), vk_S.moved ha h8⟩
abbrev pj_ty (B : pj_B) : List (ClassId × FieldType) := [(B.2.2.1.1, .int), (B.2.2.1.2.1, .long), (B.2.2.1.2.2, .byte)]
def pj_T (B : pj_B) (A : Nat → Prop) (U : State) : Prop := va_K B.1 vwCl (pj_ty B) U ∧ pj_stat B A U U.heap
/-! the machine at a method, as one tuple; what is fixed in it; what holds of the heap -/
abbrev pj_K : Type := Program × Launch × Env × Room × State × MethodId × Array Value × List Frame × Method × Code × Nat × Nat × (State → Prop)
def pj_W (K : pj_K) (H : Heap) (lo : List Loc) (pc : Nat) (ls : Array Slot) (st : List Value) : Prop := W K.1 K.2.1 K.2.2.1 K.2.2.2.1 K.2.2.2.2.1 K.2.2.2.2.2.1 K.2.2.2.2.2.2.1 K.2.2.2.2.2.2.2.1 K.2.2.2.2.2.2.2.2.1 K.2.2.2.2.2.2.2.2.2.1 H lo K.2.2.2.2.2.2.2.2.2.2.1 K.2.2.2.2.2.2.2.2.2.2.2.1 K.2.2.2.2.2.2.2.2.2.2.2.2 (F0 K.2.2.2.2.2.1 pc ls st)
def pj_C (B : pj_B) (A : Nat → Prop) (K : pj_K) (cc : ByteArray) (nL : Nat) (own : String) (lv : Nat) : Prop :=
  K.1.tables.exec = Jvm.exec ∧ K.2.2.2.2.2.2.2.2.2.1.code = cc ∧ K.2.2.2.2.2.2.2.2.2.1.maxLocals = nL ∧ K.2.2.2.2.1.vm.findClass own = some K.2.2.2.2.2.1.cls ∧ (∀ w ∈ pj_tbl, w.before K.2.2.2.2.2.2.1 K.2.2.2.2.1 = true) ∧ pj_T B A K.2.2.2.2.1 ∧ pj_apart B ∧
  (∀ k, k < B.2.2.2.1.length → A (B.2.1 k)) ∧ (∀ q, K.2.2.2.2.1.heap.size ≤ q → A q) ∧ (K.2.2.2.2.2.2.2.2.2.2.1 ≤ K.2.2.2.1.cells ∧ K.2.2.2.2.2.2.2.2.2.2.2.1 ≤ K.2.2.2.1.slots) ∧ lv ≤ K.2.2.2.1.frames ∧ 64 * lv ≤ K.2.2.2.1.locals
def pj_P (B : pj_B) (A : Nat → Prop) (K : pj_K) (z : pj_S) (H : Heap) (lo : List Loc) : Prop := va_P B.1 vwCl (pj_w B z) H ∧ va_S A K.2.2.2.2.1.heap H lo
theorem pj_C.D {B : pj_B} {A : Nat → Prop} {K : pj_K} {cc : ByteArray} {nL : Nat} {own : String} {lvl : Nat} (C : pj_C B A K cc nL own lvl) (z : pj_S) : va_D A (pj_w B z) := pj_wD C.2.2.2.2.2.2.1 C.2.2.2.2.2.2.2.1 z
/-- an instruction, its length, what stands behind it -/
def pj_d (cc : ByteArray) (pc : Nat) (i : Instr) (n q : Nat) : Prop := decode cc pc = .ok (i, n) ∧ pc + n = q
def pj_dj (cc : ByteArray) (pc : Nat) (i : Instr) (off : Int) (q t : Nat) : Prop := decode cc pc = .ok (i, 3) ∧ pc + 3 = q ∧ (pc : Int) + off = (t : Int)
/-! words of functions: a value that is named, a guard, a call, loops with their fuel -/
def pj_b {α β : Type} (a : α) (f : α → β) : β := f a
theorem pj_bE {α β : Type} {a x : α} {f : α → Option β} {r : β} (h : pj_b a f = some r) (e : x = a) : f x = some r := by subst e; exact h
def pj_g {β : Type} (c : Bool) (x : Option β) : Option β := if c = true then x else none
theorem pj_gE {β : Type} {c : Bool} {x : Option β} {r : β} (h : pj_g c x = some r) : c = true ∧ x = some r := by
  unfold pj_g at h
  by_cases hc : c = true
  · rw [if_pos hc] at h; exact ⟨hc, h⟩
  · rw [if_neg hc] at h; cases h
def pj_c {α β : Type} (x : Option (α × pj_S)) (f : α → pj_S → Option β) : Option β := match x with
  | none => none
  | some (a, z) => f a z
theorem pj_cE {α β : Type} {x : Option (α × pj_S)} {f : α → pj_S → Option β} {r : β} (h : pj_c x f = some r) : ∃ a z, x = some (a, z) ∧ f a z = some r := by
  match x, h with
  | some (a, z), h => exact ⟨a, z, rfl, h⟩
theorem pj_it {α : Type} {c : Prop} {d : Decidable c} {x y r : α} (hc : c) (h : @ite α c d x y = r) : x = r := by rw [if_pos hc] at h; exact h
theorem pj_if {α : Type} {c : Prop} {d : Decidable c} {x y r : α} (hc : ¬ c) (h : @ite α c d x y = r) : y = r := by rw [if_neg hc] at h; exact h
theorem pj_in_ {α : Type} {c : Prop} {d : Decidable (¬ c)} {x y r : α} (hc : c) (h : @ite α (¬ c) d x y = r) : y = r := by rw [if_neg (fun z => z hc)] at h; exact h
def pj_in (i : Int32) (n : Nat) : Bool := decide (¬ (i < 0 ∨ n ≤ i.toNatClampNeg))
theorem pj_inE {i : Int32} {n : Nat} (h : pj_in i n = true) : vp_in i n := of_decide_eq_true (p := ¬ (i < 0 ∨ n ≤ i.toNatClampNeg)) h
def pj_nz (i : Int32) : Bool := decide (¬ i = 0)
theorem pj_nzE {i : Int32} (h : pj_nz i = true) : ¬ i = 0 := of_decide_eq_true h
def pj_bo (i : Int32) : Bool := decide (i = 0 ∨ i = 1)
theorem pj_boE {i : Int32} (h : pj_bo i = true) : i = 0 ∨ i = 1 := of_decide_eq_true h
theorem pj_boN {i : Int32} (h : pj_bo i = true) : narrow .boolean (.int i) = .int i := by
  rcases pj_boE h with rfl | rfl <;> rfl
theorem pj_boF {i : Int32} (h : pj_bo i = true) : fits .boolean (.int i) = true := by
  rcases pj_boE h with rfl | rfl <;> rfl
def pj_ushr (x y : Int32) : Int32 := (x.toUInt32 >>> (y.toUInt32 &&& Int32.toUInt32 31)).toInt32
def pj_ushrL (x : Int64) (y : Int32) : Int64 := (x.toUInt64 >>> (y.toInt64.toUInt64 &&& Int64.toUInt64 63)).toInt64
def pj_shlL (x : Int64) (y : Int32) : Int64 := x <<< (y.toInt64 &&& 63)
def pj_rem (x y : Int32) : Int32 := x - x / y * y
def pj_min (x y : Int32) : Int32 := if y < x then y else x
def pj_max (x y : Int32) : Int32 := if x < y then y else x
def pj_rm (n : Nat) : Room := { frames := n, cells := 0, slots := 0, locals := 64 * n }
abbrev pj_ws (y : MethodName) (c : ByteArray) (n : Nat) (r : Option FieldType) : List Cond := Cond.code y c n r :: pj_tbl
def pj_lp0 {ρ : Type} (F : (pj_S → Option ρ) → pj_S → Option ρ) : Nat → pj_S → Option ρ
  | 0, _ => none
  | n + 1, z => F (pj_lp0 F n)  z
def pj_lp1 {α0 ρ : Type} (F : (α0 → pj_S → Option ρ) → α0 → pj_S → Option ρ) : Nat → α0 → pj_S → Option ρ
  | 0, _, _ => none
  | n + 1, a0, z => F (pj_lp1 F n) a0 z
def pj_lp2 {α0 α1 ρ : Type} (F : (α0 → α1 → pj_S → Option ρ) → α0 → α1 → pj_S → Option ρ) : Nat → α0 → α1 → pj_S → Option ρ
  | 0, _, _, _ => none
  | n + 1, a0, a1, z => F (pj_lp2 F n) a0 a1 z
def pj_lp3 {α0 α1 α2 ρ : Type} (F : (α0 → α1 → α2 → pj_S → Option ρ) → α0 → α1 → α2 → pj_S → Option ρ) : Nat → α0 → α1 → α2 → pj_S → Option ρ
  | 0, _, _, _, _ => none
  | n + 1, a0, a1, a2, z => F (pj_lp3 F n) a0 a1 a2 z
def pj_lp4 {α0 α1 α2 α3 ρ : Type} (F : (α0 → α1 → α2 → α3 → pj_S → Option ρ) → α0 → α1 → α2 → α3 → pj_S → Option ρ) : Nat → α0 → α1 → α2 → α3 → pj_S → Option ρ
  | 0, _, _, _, _, _ => none
  | n + 1, a0, a1, a2, a3, z => F (pj_lp4 F n) a0 a1 a2 a3 z
def pj_lp5 {α0 α1 α2 α3 α4 ρ : Type} (F : (α0 → α1 → α2 → α3 → α4 → pj_S → Option ρ) → α0 → α1 → α2 → α3 → α4 → pj_S → Option ρ) : Nat → α0 → α1 → α2 → α3 → α4 → pj_S → Option ρ
  | 0, _, _, _, _, _, _ => none
  | n + 1, a0, a1, a2, a3, a4, z => F (pj_lp5 F n) a0 a1 a2 a3 a4 z
def pj_lp6 {α0 α1 α2 α3 α4 α5 ρ : Type} (F : (α0 → α1 → α2 → α3 → α4 → α5 → pj_S → Option ρ) → α0 → α1 → α2 → α3 → α4 → α5 → pj_S → Option ρ) : Nat → α0 → α1 → α2 → α3 → α4 → α5 → pj_S → Option ρ
  | 0, _, _, _, _, _, _, _ => none
  | n + 1, a0, a1, a2, a3, a4, a5, z => F (pj_lp6 F n) a0 a1 a2 a3 a4 a5 z
def pj_lp7 {α0 α1 α2 α3 α4 α5 α6 ρ : Type} (F : (α0 → α1 → α2 → α3 → α4 → α5 → α6 → pj_S → Option ρ) → α0 → α1 → α2 → α3 → α4 → α5 → α6 → pj_S → Option ρ) : Nat → α0 → α1 → α2 → α3 → α4 → α5 → α6 → pj_S → Option ρ
  | 0, _, _, _, _, _, _, _, _ => none
  | n + 1, a0, a1, a2, a3, a4, a5, a6, z => F (pj_lp7 F n) a0 a1 a2 a3 a4 a5 a6 z
def pj_lp8 {α0 α1 α2 α3 α4 α5 α6 α7 ρ : Type} (F : (α0 → α1 → α2 → α3 → α4 → α5 → α6 → α7 → pj_S → Option ρ) → α0 → α1 → α2 → α3 → α4 → α5 → α6 → α7 → pj_S → Option ρ) : Nat → α0 → α1 → α2 → α3 → α4 → α5 → α6 → α7 → pj_S → Option ρ
  | 0, _, _, _, _, _, _, _, _, _ => none
  | n + 1, a0, a1, a2, a3, a4, a5, a6, a7, z => F (pj_lp8 F n) a0 a1 a2 a3 a4 a5 a6 a7 z
def pj_lp9 {α0 α1 α2 α3 α4 α5 α6 α7 α8 ρ : Type} (F : (α0 → α1 → α2 → α3 → α4 → α5 → α6 → α7 → α8 → pj_S → Option ρ) → α0 → α1 → α2 → α3 → α4 → α5 → α6 → α7 → α8 → pj_S → Option ρ) : Nat → α0 → α1 → α2 → α3 → α4 → α5 → α6 → α7 → α8 → pj_S → Option ρ
  | 0, _, _, _, _, _, _, _, _, _, _ => none
  | n + 1, a0, a1, a2, a3, a4, a5, a6, a7, a8, z => F (pj_lp9 F n) a0 a1 a2 a3 a4 a5 a6 a7 a8 z
def pj_lp10 {α0 α1 α2 α3 α4 α5 α6 α7 α8 α9 ρ : Type} (F : (α0 → α1 → α2 → α3 → α4 → α5 → α6 → α7 → α8 → α9 → pj_S → Option ρ) → α0 → α1 → α2 → α3 → α4 → α5 → α6 → α7 → α8 → α9 → pj_S → Option ρ) : Nat → α0 → α1 → α2 → α3 → α4 → α5 → α6 → α7 → α8 → α9 → pj_S → Option ρ
  | 0, _, _, _, _, _, _, _, _, _, _, _ => none
  | n + 1, a0, a1, a2, a3, a4, a5, a6, a7, a8, a9, z => F (pj_lp10 F n) a0 a1 a2 a3 a4 a5 a6 a7 a8 a9 z
def pj_lp11 {α0 α1 α2 α3 α4 α5 α6 α7 α8 α9 α10 ρ : Type} (F : (α0 → α1 → α2 → α3 → α4 → α5 → α6 → α7 → α8 → α9 → α10 → pj_S → Option ρ) → α0 → α1 → α2 → α3 → α4 → α5 → α6 → α7 → α8 → α9 → α10 → pj_S → Option ρ) : Nat → α0 → α1 → α2 → α3 → α4 → α5 → α6 → α7 → α8 → α9 → α10 → pj_S → Option ρ
  | 0, _, _, _, _, _, _, _, _, _, _, _, _ => none
  | n + 1, a0, a1, a2, a3, a4, a5, a6, a7, a8, a9, a10, z => F (pj_lp11 F n) a0 a1 a2 a3 a4 a5 a6 a7 a8 a9 a10 z
def pj_lp12 {α0 α1 α2 α3 α4 α5 α6 α7 α8 α9 α10 α11 ρ : Type} (F : (α0 → α1 → α2 → α3 → α4 → α5 → α6 → α7 → α8 → α9 → α10 → α11 → pj_S → Option ρ) → α0 → α1 → α2 → α3 → α4 → α5 → α6 → α7 → α8 → α9 → α10 → α11 → pj_S → Option ρ) : Nat → α0 → α1 → α2 → α3 → α4 → α5 → α6 → α7 → α8 → α9 → α10 → α11 → pj_S → Option ρ
  | 0, _, _, _, _, _, _, _, _, _, _, _, _, _ => none
  | n + 1, a0, a1, a2, a3, a4, a5, a6, a7, a8, a9, a10, a11, z => F (pj_lp12 F n) a0 a1 a2 a3 a4 a5 a6 a7 a8 a9 a10 a11 z
end
section
theorem pj_iconst {B : pj_B} {A : Nat → Prop} {K : pj_K} {cc : ByteArray} {nL : Nat} {own : String} {lvl : Nat} {H : Heap} {lo : List Loc} {ls : Array Slot} {st : List Value} {pc q : Nat} {n : Int} {v : Int32} (C : pj_C B A K cc nL own lvl) (d : pj_d cc pc (.iconst n) 1 q) (hv : Int32.ofInt n = v) (k : pj_W K H lo q ls (.int v :: st)) : pj_W K H lo pc ls (st) := by
  obtain ⟨d, rfl⟩ := d
  exact lv_iconst C.1 C.2.1 d hv k
theorem pj_bipush {B : pj_B} {A : Nat → Prop} {K : pj_K} {cc : ByteArray} {nL : Nat} {own : String} {lvl : Nat} {H : Heap} {lo : List Loc} {ls : Array Slot} {st : List Value} {pc q : Nat} {n : Int} {v : Int32} (C : pj_C B A K cc nL own lvl) (d : pj_d cc pc (.bipush n) 2 q) (hv : (Int8.ofInt n).toInt32 = v) (k : pj_W K H lo q ls (.int v :: st)) : pj_W K H lo pc ls (st) := by
  obtain ⟨d, rfl⟩ := d
  exact lv_bipush C.1 C.2.1 d hv k
theorem pj_sipush {B : pj_B} {A : Nat → Prop} {K : pj_K} {cc : ByteArray} {nL : Nat} {own : String} {lvl : Nat} {H : Heap} {lo : List Loc} {ls : Array Slot} {st : List Value} {pc q : Nat} {n : Int} {v : Int32} (C : pj_C B A K cc nL own lvl) (d : pj_d cc pc (.sipush n) 3 q) (hv : (Int16.ofInt n).toInt32 = v) (k : pj_W K H lo q ls (.int v :: st)) : pj_W K H lo pc ls (st) := by
  obtain ⟨d, rfl⟩ := d
  exact lv_sipush C.1 C.2.1 d hv k
theorem pj_lconst {B : pj_B} {A : Nat → Prop} {K : pj_K} {cc : ByteArray} {nL : Nat} {own : String} {lvl : Nat} {H : Heap} {lo : List Loc} {ls : Array Slot} {st : List Value} {pc q : Nat} {n : Fin 2} {v : Int64} (C : pj_C B A K cc nL own lvl) (d : pj_d cc pc (.lconst n) 1 q) (hv : Int64.ofNat (n : Nat) = v) (k : pj_W K H lo q ls (.long v :: st)) : pj_W K H lo pc ls (st) := by
  obtain ⟨d, rfl⟩ := d
  exact lv_lconst C.1 C.2.1 d hv k
theorem pj_iload_n {B : pj_B} {A : Nat → Prop} {K : pj_K} {cc : ByteArray} {nL : Nat} {own : String} {lvl : Nat} {H : Heap} {lo : List Loc} {ls : Array Slot} {st : List Value} {pc q : Nat} {k0 : Fin 4} {i : Nat} {x : Int32} {lv : List (Nat × Value)} (C : pj_C B A K cc nL own lvl) (d : pj_d cc pc (.iload_n k0) 1 q) (hi : (k0 : Nat) = i) (hl : lv_has ls nL lv) (j : Nat) (hj : lv[j]? = some (i, .int x)) (k : pj_W K H lo q ls (.int x :: st)) : pj_W K H lo pc ls (st) := by
  obtain ⟨d, rfl⟩ := d
  exact lv_iload_n C.1 C.2.1 d hi (lv_at hl j hj) k
theorem pj_iload {B : pj_B} {A : Nat → Prop} {K : pj_K} {cc : ByteArray} {nL : Nat} {own : String} {lvl : Nat} {H : Heap} {lo : List Loc} {ls : Array Slot} {st : List Value} {pc q : Nat} {i : Nat} {x : Int32} {lv : List (Nat × Value)} (C : pj_C B A K cc nL own lvl) (d : pj_d cc pc (.iload i) 2 q) (hl : lv_has ls nL lv) (j : Nat) (hj : lv[j]? = some (i, .int x)) (k : pj_W K H lo q ls (.int x :: st)) : pj_W K H lo pc ls (st) := by
  obtain ⟨d, rfl⟩ := d
  exact lv_iload C.1 C.2.1 d (lv_at hl j hj) k
theorem pj_istore_n {B : pj_B} {A : Nat → Prop} {K : pj_K} {cc : ByteArray} {nL : Nat} {own : String} {lvl : Nat} {H : Heap} {lo : List Loc} {ls : Array Slot} {st : List Value} {pc q : Nat} {k0 : Fin 4} {i : Nat} {x : Int32} {lv : List (Nat × Value)} (lv2 : List (Nat × Value)) (C : pj_C B A K cc nL own lvl) (d : pj_d cc pc (.istore_n k0) 1 q) (hi : (k0 : Nat) = i) (hl : lv_has ls nL lv) (hn : i < nL) (hl2 : (i, Value.int x) :: lv.filter (fun q => !(q.1 == i) && !(q.1 + 1 == i && q.2.category == 2)) = lv2) (k : ∀ ls2 : Array Slot, lv_has ls2 nL lv2 → pj_W K H lo q ls2 st) : pj_W K H lo pc ls (.int x :: st) := by
  obtain ⟨d, rfl⟩ := d
  exact lv_istore_n C.1 C.2.1 d hi hl hn hl2 k
theorem pj_istb_n {B : pj_B} {A : Nat → Prop} {K : pj_K} {cc : ByteArray} {nL : Nat} {own : String} {lvl : Nat} {H : Heap} {lo : List Loc} {ls : Array Slot} {st : List Value} {pc q : Nat} {ρ : Type} {r : ρ} {k0 : Fin 4} {i : Nat} {x : Int32} {f : Int32 → Option ρ} {lv : List (Nat × Value)} (lv2 : List (Nat × Value)) (C : pj_C B A K cc nL own lvl) (h : pj_b x f = some r) (d : pj_d cc pc (.istore_n k0) 1 q) (hi : (k0 : Nat) = i) (hl : lv_has ls nL lv) (hn : i < nL) (hl2 : lv.filter (fun q => !(q.1 == i) && !(q.1 + 1 == i && q.2.category == 2)) = lv2) (k : ∀ (y : Int32) (ls2 : Array Slot), f y = some r → lv_has ls2 nL ((i, Value.int y) :: lv2) → pj_W K H lo q ls2 st) : pj_W K H lo pc ls (.int x :: st) := pj_istore_n _ C d hi hl hn (by rw [hl2]) (fun ls2 hl3 => k x ls2 h hl3)
theorem pj_istore {B : pj_B} {A : Nat → Prop} {K : pj_K} {cc : ByteArray} {nL : Nat} {own : String} {lvl : Nat} {H : Heap} {lo : List Loc} {ls : Array Slot} {st : List Value} {pc q : Nat} {i : Nat} {x : Int32} {lv : List (Nat × Value)} (lv2 : List (Nat × Value)) (C : pj_C B A K cc nL own lvl) (d : pj_d cc pc (.istore i) 2 q) (hl : lv_has ls nL lv) (hn : i < nL) (hl2 : (i, Value.int x) :: lv.filter (fun q => !(q.1 == i) && !(q.1 + 1 == i && q.2.category == 2)) = lv2) (k : ∀ ls2 : Array Slot, lv_has ls2 nL lv2 → pj_W K H lo q ls2 st) : pj_W K H lo pc ls (.int x :: st) := by
  obtain ⟨d, rfl⟩ := d
  exact lv_istore C.1 C.2.1 d hl hn hl2 k
theorem pj_istb {B : pj_B} {A : Nat → Prop} {K : pj_K} {cc : ByteArray} {nL : Nat} {own : String} {lvl : Nat} {H : Heap} {lo : List Loc} {ls : Array Slot} {st : List Value} {pc q : Nat} {ρ : Type} {r : ρ} {i : Nat} {x : Int32} {f : Int32 → Option ρ} {lv : List (Nat × Value)} (lv2 : List (Nat × Value)) (C : pj_C B A K cc nL own lvl) (h : pj_b x f = some r) (d : pj_d cc pc (.istore i) 2 q) (hl : lv_has ls nL lv) (hn : i < nL) (hl2 : lv.filter (fun q => !(q.1 == i) && !(q.1 + 1 == i && q.2.category == 2)) = lv2) (k : ∀ (y : Int32) (ls2 : Array Slot), f y = some r → lv_has ls2 nL ((i, Value.int y) :: lv2) → pj_W K H lo q ls2 st) : pj_W K H lo pc ls (.int x :: st) := pj_istore _ C d hl hn (by rw [hl2]) (fun ls2 hl3 => k x ls2 h hl3)
theorem pj_lload_n {B : pj_B} {A : Nat → Prop} {K : pj_K} {cc : ByteArray} {nL : Nat} {own : String} {lvl : Nat} {H : Heap} {lo : List Loc} {ls : Array Slot} {st : List Value} {pc q : Nat} {k0 : Fin 4} {i : Nat} {x : Int64} {lv : List (Nat × Value)} (C : pj_C B A K cc nL own lvl) (d : pj_d cc pc (.lload_n k0) 1 q) (hi : (k0 : Nat) = i) (hl : lv_has ls nL lv) (j : Nat) (hj : lv[j]? = some (i, .long x)) (k : pj_W K H lo q ls (.long x :: st)) : pj_W K H lo pc ls (st) := by
  obtain ⟨d, rfl⟩ := d
  exact lv_lload_n C.1 C.2.1 d hi (lv_at hl j hj) k
theorem pj_lload {B : pj_B} {A : Nat → Prop} {K : pj_K} {cc : ByteArray} {nL : Nat} {own : String} {lvl : Nat} {H : Heap} {lo : List Loc} {ls : Array Slot} {st : List Value} {pc q : Nat} {i : Nat} {x : Int64} {lv : List (Nat × Value)} (C : pj_C B A K cc nL own lvl) (d : pj_d cc pc (.lload i) 2 q) (hl : lv_has ls nL lv) (j : Nat) (hj : lv[j]? = some (i, .long x)) (k : pj_W K H lo q ls (.long x :: st)) : pj_W K H lo pc ls (st) := by
  obtain ⟨d, rfl⟩ := d
  exact lv_lload C.1 C.2.1 d (lv_at hl j hj) k
theorem pj_lstore_n {B : pj_B} {A : Nat → Prop} {K : pj_K} {cc : ByteArray} {nL : Nat} {own : String} {lvl : Nat} {H : Heap} {lo : List Loc} {ls : Array Slot} {st : List Value} {pc q : Nat} {k0 : Fin 4} {i : Nat} {x : Int64} {lv : List (Nat × Value)} (lv2 : List (Nat × Value)) (C : pj_C B A K cc nL own lvl) (d : pj_d cc pc (.lstore_n k0) 1 q) (hi : (k0 : Nat) = i) (hl : lv_has ls nL lv) (hn : i + 1 < nL) (hl2 : (i, Value.long x) :: lv.filter (fun q => !(q.1 == i) && (!(q.1 == i + 1) && !(q.1 + 1 == i && q.2.category == 2))) = lv2) (k : ∀ ls2 : Array Slot, lv_has ls2 nL lv2 → pj_W K H lo q ls2 st) : pj_W K H lo pc ls (.long x :: st) := by
  obtain ⟨d, rfl⟩ := d
  exact lv_lstore_n C.1 C.2.1 d hi hl hn hl2 k
theorem pj_lstb_n {B : pj_B} {A : Nat → Prop} {K : pj_K} {cc : ByteArray} {nL : Nat} {own : String} {lvl : Nat} {H : Heap} {lo : List Loc} {ls : Array Slot} {st : List Value} {pc q : Nat} {ρ : Type} {r : ρ} {k0 : Fin 4} {i : Nat} {x : Int64} {f : Int64 → Option ρ} {lv : List (Nat × Value)} (lv2 : List (Nat × Value)) (C : pj_C B A K cc nL own lvl) (h : pj_b x f = some r) (d : pj_d cc pc (.lstore_n k0) 1 q) (hi : (k0 : Nat) = i) (hl : lv_has ls nL lv) (hn : i + 1 < nL) (hl2 : lv.filter (fun q => !(q.1 == i) && (!(q.1 == i + 1) && !(q.1 + 1 == i && q.2.category == 2))) = lv2) (k : ∀ (y : Int64) (ls2 : Array Slot), f y = some r → lv_has ls2 nL ((i, Value.long y) :: lv2) → pj_W K H lo q ls2 st) : pj_W K H lo pc ls (.long x :: st) := pj_lstore_n _ C d hi hl hn (by rw [hl2]) (fun ls2 hl3 => k x ls2 h hl3)
theorem pj_lstore {B : pj_B} {A : Nat → Prop} {K : pj_K} {cc : ByteArray} {nL : Nat} {own : String} {lvl : Nat} {H : Heap} {lo : List Loc} {ls : Array Slot} {st : List Value} {pc q : Nat} {i : Nat} {x : Int64} {lv : List (Nat × Value)} (lv2 : List (Nat × Value)) (C : pj_C B A K cc nL own lvl) (d : pj_d cc pc (.lstore i) 2 q) (hl : lv_has ls nL lv) (hn : i + 1 < nL) (hl2 : (i, Value.long x) :: lv.filter (fun q => !(q.1 == i) && (!(q.1 == i + 1) && !(q.1 + 1 == i && q.2.category == 2))) = lv2) (k : ∀ ls2 : Array Slot, lv_has ls2 nL lv2 → pj_W K H lo q ls2 st) : pj_W K H lo pc ls (.long x :: st) := by
  obtain ⟨d, rfl⟩ := d
  exact lv_lstore C.1 C.2.1 d hl hn hl2 k
theorem pj_lstb {B : pj_B} {A : Nat → Prop} {K : pj_K} {cc : ByteArray} {nL : Nat} {own : String} {lvl : Nat} {H : Heap} {lo : List Loc} {ls : Array Slot} {st : List Value} {pc q : Nat} {ρ : Type} {r : ρ} {i : Nat} {x : Int64} {f : Int64 → Option ρ} {lv : List (Nat × Value)} (lv2 : List (Nat × Value)) (C : pj_C B A K cc nL own lvl) (h : pj_b x f = some r) (d : pj_d cc pc (.lstore i) 2 q) (hl : lv_has ls nL lv) (hn : i + 1 < nL) (hl2 : lv.filter (fun q => !(q.1 == i) && (!(q.1 == i + 1) && !(q.1 + 1 == i && q.2.category == 2))) = lv2) (k : ∀ (y : Int64) (ls2 : Array Slot), f y = some r → lv_has ls2 nL ((i, Value.long y) :: lv2) → pj_W K H lo q ls2 st) : pj_W K H lo pc ls (.long x :: st) := pj_lstore _ C d hl hn (by rw [hl2]) (fun ls2 hl3 => k x ls2 h hl3)
theorem pj_aload_n {B : pj_B} {A : Nat → Prop} {K : pj_K} {cc : ByteArray} {nL : Nat} {own : String} {lvl : Nat} {H : Heap} {lo : List Loc} {ls : Array Slot} {st : List Value} {pc q : Nat} {k0 : Fin 4} {i : Nat} {x : Nat} {lv : List (Nat × Value)} (C : pj_C B A K cc nL own lvl) (d : pj_d cc pc (.aload_n k0) 1 q) (hi : (k0 : Nat) = i) (hl : lv_has ls nL lv) (j : Nat) (hj : lv[j]? = some (i, .ref x)) (k : pj_W K H lo q ls (.ref x :: st)) : pj_W K H lo pc ls (st) := by
  obtain ⟨d, rfl⟩ := d
  exact lv_aload_n C.1 C.2.1 d hi (lv_at hl j hj) k
theorem pj_aload {B : pj_B} {A : Nat → Prop} {K : pj_K} {cc : ByteArray} {nL : Nat} {own : String} {lvl : Nat} {H : Heap} {lo : List Loc} {ls : Array Slot} {st : List Value} {pc q : Nat} {i : Nat} {x : Nat} {lv : List (Nat × Value)} (C : pj_C B A K cc nL own lvl) (d : pj_d cc pc (.aload i) 2 q) (hl : lv_has ls nL lv) (j : Nat) (hj : lv[j]? = some (i, .ref x)) (k : pj_W K H lo q ls (.ref x :: st)) : pj_W K H lo pc ls (st) := by
  obtain ⟨d, rfl⟩ := d
  exact lv_aload C.1 C.2.1 d (lv_at hl j hj) k
theorem pj_astore_n {B : pj_B} {A : Nat → Prop} {K : pj_K} {cc : ByteArray} {nL : Nat} {own : String} {lvl : Nat} {H : Heap} {lo : List Loc} {ls : Array Slot} {st : List Value} {pc q : Nat} {k0 : Fin 4} {i : Nat} {x : Nat} {lv : List (Nat × Value)} (lv2 : List (Nat × Value)) (C : pj_C B A K cc nL own lvl) (d : pj_d cc pc (.astore_n k0) 1 q) (hi : (k0 : Nat) = i) (hl : lv_has ls nL lv) (hn : i < nL) (hl2 : (i, Value.ref x) :: lv.filter (fun q => !(q.1 == i) && !(q.1 + 1 == i && q.2.category == 2)) = lv2) (k : ∀ ls2 : Array Slot, lv_has ls2 nL lv2 → pj_W K H lo q ls2 st) : pj_W K H lo pc ls (.ref x :: st) := by
  obtain ⟨d, rfl⟩ := d
  exact lv_astore_n C.1 C.2.1 d hi hl hn hl2 k
theorem pj_astore {B : pj_B} {A : Nat → Prop} {K : pj_K} {cc : ByteArray} {nL : Nat} {own : String} {lvl : Nat} {H : Heap} {lo : List Loc} {ls : Array Slot} {st : List Value} {pc q : Nat} {i : Nat} {x : Nat} {lv : List (Nat × Value)} (lv2 : List (Nat × Value)) (C : pj_C B A K cc nL own lvl) (d : pj_d cc pc (.astore i) 2 q) (hl : lv_has ls nL lv) (hn : i < nL) (hl2 : (i, Value.ref x) :: lv.filter (fun q => !(q.1 == i) && !(q.1 + 1 == i && q.2.category == 2)) = lv2) (k : ∀ ls2 : Array Slot, lv_has ls2 nL lv2 → pj_W K H lo q ls2 st) : pj_W K H lo pc ls (.ref x :: st) := by
  obtain ⟨d, rfl⟩ := d
  exact lv_astore C.1 C.2.1 d hl hn hl2 k
theorem pj_iinc {B : pj_B} {A : Nat → Prop} {K : pj_K} {cc : ByteArray} {nL : Nat} {own : String} {lvl : Nat} {H : Heap} {lo : List Loc} {ls : Array Slot} {st : List Value} {pc q : Nat} {ρ : Type} {r : ρ} {i : Nat} {n : Int} {x v : Int32} {f : Int32 → Option ρ} {lv : List (Nat × Value)} (lv2 : List (Nat × Value)) (C : pj_C B A K cc nL own lvl) (h : pj_b (x + v) f = some r) (hv : Int32.ofInt n = v) (d : pj_d cc pc (.iinc i n) 3 q) (hl : lv_has ls nL lv) (j : Nat) (hj : lv[j]? = some (i, .int x)) (hn : i < nL) (hl2 : lv.filter (fun q => !(q.1 == i) && !(q.1 + 1 == i && q.2.category == 2)) = lv2) (k : ∀ (y : Int32) (ls2 : Array Slot), f y = some r → lv_has ls2 nL ((i, Value.int y) :: lv2) → pj_W K H lo q ls2 st) : pj_W K H lo pc ls st := by
  obtain ⟨d, rfl⟩ := d
  subst hv
  exact lv_iinc C.1 C.2.1 d hl hj rfl hn rfl (fun ls2 hl3 => k _ ls2 h (by rw [← hl2]; exact hl3))
theorem pj_iadd {B : pj_B} {A : Nat → Prop} {K : pj_K} {cc : ByteArray} {nL : Nat} {own : String} {lvl : Nat} {H : Heap} {lo : List Loc} {ls : Array Slot} {st : List Value} {pc q : Nat} {x y : Int32} (C : pj_C B A K cc nL own lvl) (d : pj_d cc pc (.iadd) 1 q) (k : pj_W K H lo q ls (.int (x + y) :: st)) : pj_W K H lo pc ls (.int y :: .int x :: st) := by
  obtain ⟨d, rfl⟩ := d
  exact lv_iadd C.1 C.2.1 d k
theorem pj_isub {B : pj_B} {A : Nat → Prop} {K : pj_K} {cc : ByteArray} {nL : Nat} {own : String} {lvl : Nat} {H : Heap} {lo : List Loc} {ls : Array Slot} {st : List Value} {pc q : Nat} {x y : Int32} (C : pj_C B A K cc nL own lvl) (d : pj_d cc pc (.isub) 1 q) (k : pj_W K H lo q ls (.int (x - y) :: st)) : pj_W K H lo pc ls (.int y :: .int x :: st) := by
  obtain ⟨d, rfl⟩ := d
  exact lv_isub C.1 C.2.1 d k
theorem pj_imul {B : pj_B} {A : Nat → Prop} {K : pj_K} {cc : ByteArray} {nL : Nat} {own : String} {lvl : Nat} {H : Heap} {lo : List Loc} {ls : Array Slot} {st : List Value} {pc q : Nat} {x y : Int32} (C : pj_C B A K cc nL own lvl) (d : pj_d cc pc (.imul) 1 q) (k : pj_W K H lo q ls (.int (x * y) :: st)) : pj_W K H lo pc ls (.int y :: .int x :: st) := by
  obtain ⟨d, rfl⟩ := d
  exact lv_imul C.1 C.2.1 d k
theorem pj_iand {B : pj_B} {A : Nat → Prop} {K : pj_K} {cc : ByteArray} {nL : Nat} {own : String} {lvl : Nat} {H : Heap} {lo : List Loc} {ls : Array Slot} {st : List Value} {pc q : Nat} {x y : Int32} (C : pj_C B A K cc nL own lvl) (d : pj_d cc pc (.iand) 1 q) (k : pj_W K H lo q ls (.int (x &&& y) :: st)) : pj_W K H lo pc ls (.int y :: .int x :: st) := by
  obtain ⟨d, rfl⟩ := d
  exact lv_iand C.1 C.2.1 d k
theorem pj_ior {B : pj_B} {A : Nat → Prop} {K : pj_K} {cc : ByteArray} {nL : Nat} {own : String} {lvl : Nat} {H : Heap} {lo : List Loc} {ls : Array Slot} {st : List Value} {pc q : Nat} {x y : Int32} (C : pj_C B A K cc nL own lvl) (d : pj_d cc pc (.ior) 1 q) (k : pj_W K H lo q ls (.int (x ||| y) :: st)) : pj_W K H lo pc ls (.int y :: .int x :: st) := by
  obtain ⟨d, rfl⟩ := d
  exact lv_ior C.1 C.2.1 d k
theorem pj_ixor {B : pj_B} {A : Nat → Prop} {K : pj_K} {cc : ByteArray} {nL : Nat} {own : String} {lvl : Nat} {H : Heap} {lo : List Loc} {ls : Array Slot} {st : List Value} {pc q : Nat} {x y : Int32} (C : pj_C B A K cc nL own lvl) (d : pj_d cc pc (.ixor) 1 q) (k : pj_W K H lo q ls (.int (x ^^^ y) :: st)) : pj_W K H lo pc ls (.int y :: .int x :: st) := by
  obtain ⟨d, rfl⟩ := d
  exact lv_ixor C.1 C.2.1 d k
theorem pj_ishl {B : pj_B} {A : Nat → Prop} {K : pj_K} {cc : ByteArray} {nL : Nat} {own : String} {lvl : Nat} {H : Heap} {lo : List Loc} {ls : Array Slot} {st : List Value} {pc q : Nat} {x y : Int32} (C : pj_C B A K cc nL own lvl) (d : pj_d cc pc (.ishl) 1 q) (k : pj_W K H lo q ls (.int (x <<< (y &&& 31)) :: st)) : pj_W K H lo pc ls (.int y :: .int x :: st) := by
  obtain ⟨d, rfl⟩ := d
  exact lv_ishl C.1 C.2.1 d k
theorem pj_ishr {B : pj_B} {A : Nat → Prop} {K : pj_K} {cc : ByteArray} {nL : Nat} {own : String} {lvl : Nat} {H : Heap} {lo : List Loc} {ls : Array Slot} {st : List Value} {pc q : Nat} {x y : Int32} (C : pj_C B A K cc nL own lvl) (d : pj_d cc pc (.ishr) 1 q) (k : pj_W K H lo q ls (.int (x >>> (y &&& 31)) :: st)) : pj_W K H lo pc ls (.int y :: .int x :: st) := by
  obtain ⟨d, rfl⟩ := d
  exact lv_ishr C.1 C.2.1 d k
theorem pj_iushr {B : pj_B} {A : Nat → Prop} {K : pj_K} {cc : ByteArray} {nL : Nat} {own : String} {lvl : Nat} {H : Heap} {lo : List Loc} {ls : Array Slot} {st : List Value} {pc q : Nat} {x y : Int32} (C : pj_C B A K cc nL own lvl) (d : pj_d cc pc (.iushr) 1 q) (k : pj_W K H lo q ls (.int (pj_ushr x y) :: st)) : pj_W K H lo pc ls (.int y :: .int x :: st) := by
  obtain ⟨d, rfl⟩ := d
  exact lv_iushr C.1 C.2.1 d rfl k
theorem pj_idiv {B : pj_B} {A : Nat → Prop} {K : pj_K} {cc : ByteArray} {nL : Nat} {own : String} {lvl : Nat} {H : Heap} {lo : List Loc} {ls : Array Slot} {st : List Value} {pc q : Nat} {ρ : Type} {r : ρ} {x y : Int32} {X : Option ρ} (C : pj_C B A K cc nL own lvl) (h : pj_g (pj_nz y) X = some r) (d : pj_d cc pc .idiv 1 q) (k : X = some r → pj_W K H lo q ls (.int (x / y) :: st)) : pj_W K H lo pc ls (.int y :: .int x :: st) := by
  obtain ⟨d, rfl⟩ := d
  obtain ⟨g, h⟩ := pj_gE h
  exact lv_idiv C.1 C.2.1 d (pj_nzE g) (k h)
theorem pj_irem {B : pj_B} {A : Nat → Prop} {K : pj_K} {cc : ByteArray} {nL : Nat} {own : String} {lvl : Nat} {H : Heap} {lo : List Loc} {ls : Array Slot} {st : List Value} {pc q : Nat} {ρ : Type} {r : ρ} {x y : Int32} {X : Option ρ} (C : pj_C B A K cc nL own lvl) (h : pj_g (pj_nz y) X = some r) (d : pj_d cc pc .irem 1 q) (k : X = some r → pj_W K H lo q ls (.int (pj_rem x y) :: st)) : pj_W K H lo pc ls (.int y :: .int x :: st) := by
  obtain ⟨d, rfl⟩ := d
  obtain ⟨g, h⟩ := pj_gE h
  exact lv_irem C.1 C.2.1 d (pj_nzE g) (k h)
theorem pj_ladd {B : pj_B} {A : Nat → Prop} {K : pj_K} {cc : ByteArray} {nL : Nat} {own : String} {lvl : Nat} {H : Heap} {lo : List Loc} {ls : Array Slot} {st : List Value} {pc q : Nat} {x y : Int64} (C : pj_C B A K cc nL own lvl) (d : pj_d cc pc (.ladd) 1 q) (k : pj_W K H lo q ls (.long (x + y) :: st)) : pj_W K H lo pc ls (.long y :: .long x :: st) := by
  obtain ⟨d, rfl⟩ := d
  exact lv_ladd C.1 C.2.1 d k
theorem pj_lsub {B : pj_B} {A : Nat → Prop} {K : pj_K} {cc : ByteArray} {nL : Nat} {own : String} {lvl : Nat} {H : Heap} {lo : List Loc} {ls : Array Slot} {st : List Value} {pc q : Nat} {x y : Int64} (C : pj_C B A K cc nL own lvl) (d : pj_d cc pc (.lsub) 1 q) (k : pj_W K H lo q ls (.long (x - y) :: st)) : pj_W K H lo pc ls (.long y :: .long x :: st) := by
  obtain ⟨d, rfl⟩ := d
  exact lv_lsub C.1 C.2.1 d k
theorem pj_land {B : pj_B} {A : Nat → Prop} {K : pj_K} {cc : ByteArray} {nL : Nat} {own : String} {lvl : Nat} {H : Heap} {lo : List Loc} {ls : Array Slot} {st : List Value} {pc q : Nat} {x y : Int64} (C : pj_C B A K cc nL own lvl) (d : pj_d cc pc (.land) 1 q) (k : pj_W K H lo q ls (.long (x &&& y) :: st)) : pj_W K H lo pc ls (.long y :: .long x :: st) := by
  obtain ⟨d, rfl⟩ := d
  exact lv_land C.1 C.2.1 d k
theorem pj_lor {B : pj_B} {A : Nat → Prop} {K : pj_K} {cc : ByteArray} {nL : Nat} {own : String} {lvl : Nat} {H : Heap} {lo : List Loc} {ls : Array Slot} {st : List Value} {pc q : Nat} {x y : Int64} (C : pj_C B A K cc nL own lvl) (d : pj_d cc pc (.lor) 1 q) (k : pj_W K H lo q ls (.long (x ||| y) :: st)) : pj_W K H lo pc ls (.long y :: .long x :: st) := by
  obtain ⟨d, rfl⟩ := d
  exact lv_lor C.1 C.2.1 d k
theorem pj_lxor {B : pj_B} {A : Nat → Prop} {K : pj_K} {cc : ByteArray} {nL : Nat} {own : String} {lvl : Nat} {H : Heap} {lo : List Loc} {ls : Array Slot} {st : List Value} {pc q : Nat} {x y : Int64} (C : pj_C B A K cc nL own lvl) (d : pj_d cc pc (.lxor) 1 q) (k : pj_W K H lo q ls (.long (x ^^^ y) :: st)) : pj_W K H lo pc ls (.long y :: .long x :: st) := by
  obtain ⟨d, rfl⟩ := d
  exact lv_lxor C.1 C.2.1 d k
theorem pj_lushr {B : pj_B} {A : Nat → Prop} {K : pj_K} {cc : ByteArray} {nL : Nat} {own : String} {lvl : Nat} {H : Heap} {lo : List Loc} {ls : Array Slot} {st : List Value} {pc q : Nat} {x : Int64} {y : Int32} (C : pj_C B A K cc nL own lvl) (d : pj_d cc pc (.lushr) 1 q) (k : pj_W K H lo q ls (.long (pj_ushrL x y) :: st)) : pj_W K H lo pc ls (.int y :: .long x :: st) := by
  obtain ⟨d, rfl⟩ := d
  exact lv_lushr C.1 C.2.1 d rfl k
theorem pj_lshl {B : pj_B} {A : Nat → Prop} {K : pj_K} {cc : ByteArray} {nL : Nat} {own : String} {lvl : Nat} {H : Heap} {lo : List Loc} {ls : Array Slot} {st : List Value} {pc q : Nat} {x : Int64} {y : Int32} (C : pj_C B A K cc nL own lvl) (d : pj_d cc pc (.lshl) 1 q) (k : pj_W K H lo q ls (.long (pj_shlL x y) :: st)) : pj_W K H lo pc ls (.int y :: .long x :: st) := by
  obtain ⟨d, rfl⟩ := d
  exact lv_lshl C.1 C.2.1 d rfl k
theorem pj_l2i {B : pj_B} {A : Nat → Prop} {K : pj_K} {cc : ByteArray} {nL : Nat} {own : String} {lvl : Nat} {H : Heap} {lo : List Loc} {ls : Array Slot} {st : List Value} {pc q : Nat} {x : Int64} (C : pj_C B A K cc nL own lvl) (d : pj_d cc pc (.l2i) 1 q) (k : pj_W K H lo q ls (.int x.toInt32 :: st)) : pj_W K H lo pc ls (.long x :: st) := by
  obtain ⟨d, rfl⟩ := d
  exact lv_l2i C.1 C.2.1 d rfl k
theorem pj_i2b {B : pj_B} {A : Nat → Prop} {K : pj_K} {cc : ByteArray} {nL : Nat} {own : String} {lvl : Nat} {H : Heap} {lo : List Loc} {ls : Array Slot} {st : List Value} {pc q : Nat} {x : Int32} (C : pj_C B A K cc nL own lvl) (d : pj_d cc pc (.i2b) 1 q) (k : pj_W K H lo q ls (.int x.toInt8.toInt32 :: st)) : pj_W K H lo pc ls (.int x :: st) := by
  obtain ⟨d, rfl⟩ := d
  exact lv_i2b C.1 C.2.1 d rfl k
theorem pj_i2c {B : pj_B} {A : Nat → Prop} {K : pj_K} {cc : ByteArray} {nL : Nat} {own : String} {lvl : Nat} {H : Heap} {lo : List Loc} {ls : Array Slot} {st : List Value} {pc q : Nat} {x : Int32} (C : pj_C B A K cc nL own lvl) (d : pj_d cc pc (.i2c) 1 q) (k : pj_W K H lo q ls (.int (x.toUInt32 % 65536).toInt32 :: st)) : pj_W K H lo pc ls (.int x :: st) := by
  obtain ⟨d, rfl⟩ := d
  exact lv_i2c C.1 C.2.1 d rfl k
theorem pj_lcmp {B : pj_B} {A : Nat → Prop} {K : pj_K} {cc : ByteArray} {nL : Nat} {own : String} {lvl : Nat} {H : Heap} {lo : List Loc} {ls : Array Slot} {st : List Value} {pc q : Nat} {x y : Int64} (C : pj_C B A K cc nL own lvl) (d : pj_d cc pc (.lcmp) 1 q) (k : pj_W K H lo q ls (.int (lg_cmp x y) :: st)) : pj_W K H lo pc ls (.long y :: .long x :: st) := by
  obtain ⟨d, rfl⟩ := d
  exact W.lcmp C.1 C.2.1 d k
theorem pj_dup {B : pj_B} {A : Nat → Prop} {K : pj_K} {cc : ByteArray} {nL : Nat} {own : String} {lvl : Nat} {H : Heap} {lo : List Loc} {ls : Array Slot} {st : List Value} {pc q : Nat} {va : Value} (C : pj_C B A K cc nL own lvl) (d : pj_d cc pc (.dup) 1 q) (hc : va.category = 1) (k : pj_W K H lo q ls (va :: va :: st)) : pj_W K H lo pc ls (va :: st) := by
  obtain ⟨d, rfl⟩ := d
  exact lv_dup C.1 C.2.1 d hc k
theorem pj_pop {B : pj_B} {A : Nat → Prop} {K : pj_K} {cc : ByteArray} {nL : Nat} {own : String} {lvl : Nat} {H : Heap} {lo : List Loc} {ls : Array Slot} {st : List Value} {pc q : Nat} {va : Value} (C : pj_C B A K cc nL own lvl) (d : pj_d cc pc (.pop) 1 q) (hc : va.category = 1) (k : pj_W K H lo q ls (st)) : pj_W K H lo pc ls (va :: st) := by
  obtain ⟨d, rfl⟩ := d
  exact lv_pop C.1 C.2.1 d hc k
theorem pj_dup2 {B : pj_B} {A : Nat → Prop} {K : pj_K} {cc : ByteArray} {nL : Nat} {own : String} {lvl : Nat} {H : Heap} {lo : List Loc} {ls : Array Slot} {st : List Value} {pc q : Nat} {va vb : Value} (C : pj_C B A K cc nL own lvl) (d : pj_d cc pc (.dup2) 1 q) (hc : va.category = 1) (hd : vb.category = 1) (k : pj_W K H lo q ls (va :: vb :: va :: vb :: st)) : pj_W K H lo pc ls (va :: vb :: st) := by
  obtain ⟨d, rfl⟩ := d
  exact lv_dup2_11 C.1 C.2.1 d hc hd k
theorem pj_dup2l {B : pj_B} {A : Nat → Prop} {K : pj_K} {cc : ByteArray} {nL : Nat} {own : String} {lvl : Nat} {H : Heap} {lo : List Loc} {ls : Array Slot} {st : List Value} {pc q : Nat} {va : Value} (C : pj_C B A K cc nL own lvl) (d : pj_d cc pc (.dup2) 1 q) (hc : va.category = 2) (k : pj_W K H lo q ls (va :: va :: st)) : pj_W K H lo pc ls (va :: st) := by
  obtain ⟨d, rfl⟩ := d
  exact lv_dup2_2 C.1 C.2.1 d hc k
theorem pj_ldc {B : pj_B} {A : Nat → Prop} {K : pj_K} {cc : ByteArray} {nL : Nat} {own : String} {lvl : Nat} {H : Heap} {lo : List Loc} {ls : Array Slot} {st : List Value} {pc q : Nat} {index : Nat} {v : Int32} (C : pj_C B A K cc nL own lvl) (hw : Cond.constant own index v ∈ pj_tbl) (d : pj_d cc pc (.ldc index) 2 q) (k : pj_W K H lo q ls (.int v :: st)) : pj_W K H lo pc ls st := by
  obtain ⟨d, rfl⟩ := d
  exact W.ldc C.1 C.2.1 C.2.2.2.1 (C.2.2.2.2.1 _ hw) rfl d k
theorem pj_ldcw {B : pj_B} {A : Nat → Prop} {K : pj_K} {cc : ByteArray} {nL : Nat} {own : String} {lvl : Nat} {H : Heap} {lo : List Loc} {ls : Array Slot} {st : List Value} {pc q : Nat} {index : Nat} {v : Int32} (C : pj_C B A K cc nL own lvl) (hw : Cond.constant own index v ∈ pj_tbl) (d : pj_d cc pc (.ldc_w index) 3 q) (k : pj_W K H lo q ls (.int v :: st)) : pj_W K H lo pc ls st := by
  obtain ⟨d, rfl⟩ := d
  exact lv_ldcw C.1 C.2.1 C.2.2.2.1 (C.2.2.2.2.1 _ hw) d k
theorem pj_ldc2 {B : pj_B} {A : Nat → Prop} {K : pj_K} {cc : ByteArray} {nL : Nat} {own : String} {lvl : Nat} {H : Heap} {lo : List Loc} {ls : Array Slot} {st : List Value} {pc q : Nat} {index : Nat} {v : Int64} (C : pj_C B A K cc nL own lvl) (hw : Cond.constantLong own index v ∈ pj_tbl) (d : pj_d cc pc (.ldc2_w index) 3 q) (k : pj_W K H lo q ls (.long v :: st)) : pj_W K H lo pc ls st := by
  obtain ⟨d, rfl⟩ := d
  exact W.ldc2 C.1 C.2.1 C.2.2.2.1 (C.2.2.2.2.1 _ hw) rfl d k
theorem pj_ldcS {B : pj_B} {A : Nat → Prop} {K : pj_K} {cc : ByteArray} {nL : Nat} {own : String} {lvl : Nat} {H : Heap} {lo : List Loc} {ls : Array Slot} {st : List Value} {pc q : Nat} {index : Nat} {tx : String} {i : Nat} (C : pj_C B A K cc nL own lvl) (hw : (own, index, tx, i) ∈ pj_sl) (d : pj_d cc pc (.ldc index) 2 q) (k : pj_W K H lo q ls (.ref (B.2.2.2.2.2.1 i) :: st)) : pj_W K H lo pc ls st := by
  obtain ⟨d, rfl⟩ := d
  exact va_ldcS C.1 C.2.1 C.2.2.2.1 (C.2.2.2.2.2.1.2.2.2.2.2.2.2.1 _ hw) d k
theorem pj_goto {B : pj_B} {A : Nat → Prop} {K : pj_K} {cc : ByteArray} {nL : Nat} {own : String} {lvl : Nat} {H : Heap} {lo : List Loc} {ls : Array Slot} {st : List Value} {pc q : Nat} {off : Int} {t : Nat} (C : pj_C B A K cc nL own lvl) (d : pj_dj cc pc (.goto off) off q t) (k : pj_W K H lo t ls st) : pj_W K H lo pc ls st := by
  obtain ⟨d, rfl, ht⟩ := d
  exact lv_goto C.1 C.2.1 d ht k
theorem pj_if_eq {B : pj_B} {A : Nat → Prop} {K : pj_K} {cc : ByteArray} {nL : Nat} {own : String} {lvl : Nat} {H : Heap} {lo : List Loc} {ls : Array Slot} {st : List Value} {pc q : Nat} {ρ : Type} {r : ρ} {x : Int32} {X Y : Option ρ} {off : Int} {t : Nat} (C : pj_C B A K cc nL own lvl) (h : (if x = 0 then X else Y) = some r) (d : pj_dj cc pc (.ifCond .eq off) off q t) (kt : X = some r → pj_W K H lo t ls st) (kf : Y = some r → pj_W K H lo q ls st) : pj_W K H lo pc ls (.int x :: st) := by
  obtain ⟨d, rfl, ht⟩ := d
  exact lv_if_eq C.1 C.2.1 d ht (fun c => kt (pj_it c h)) (fun c => kf (pj_if c h))
theorem pj_ic_eq {B : pj_B} {A : Nat → Prop} {K : pj_K} {cc : ByteArray} {nL : Nat} {own : String} {lvl : Nat} {H : Heap} {lo : List Loc} {ls : Array Slot} {st : List Value} {pc q : Nat} {ρ : Type} {r : ρ} {x y : Int32} {X Y : Option ρ} {off : Int} {t : Nat} (C : pj_C B A K cc nL own lvl) (h : (if x = y then X else Y) = some r) (d : pj_dj cc pc (.if_icmp .eq off) off q t) (kt : X = some r → pj_W K H lo t ls st) (kf : Y = some r → pj_W K H lo q ls st) : pj_W K H lo pc ls (.int y :: .int x :: st) := by
  obtain ⟨d, rfl, ht⟩ := d
  exact lv_icmp_eq C.1 C.2.1 d ht (fun c => kt (pj_it c h)) (fun c => kf (pj_if c h))
theorem pj_if_ne {B : pj_B} {A : Nat → Prop} {K : pj_K} {cc : ByteArray} {nL : Nat} {own : String} {lvl : Nat} {H : Heap} {lo : List Loc} {ls : Array Slot} {st : List Value} {pc q : Nat} {ρ : Type} {r : ρ} {x : Int32} {X Y : Option ρ} {off : Int} {t : Nat} (C : pj_C B A K cc nL own lvl) (h : (if x = 0 then Y else X) = some r) (d : pj_dj cc pc (.ifCond .ne off) off q t) (kt : X = some r → pj_W K H lo t ls st) (kf : Y = some r → pj_W K H lo q ls st) : pj_W K H lo pc ls (.int x :: st) := by
  obtain ⟨d, rfl, ht⟩ := d
  exact lv_if_ne C.1 C.2.1 d ht (fun c => kt (pj_if c h)) (fun c => kf (pj_it c h))
theorem pj_ic_ne {B : pj_B} {A : Nat → Prop} {K : pj_K} {cc : ByteArray} {nL : Nat} {own : String} {lvl : Nat} {H : Heap} {lo : List Loc} {ls : Array Slot} {st : List Value} {pc q : Nat} {ρ : Type} {r : ρ} {x y : Int32} {X Y : Option ρ} {off : Int} {t : Nat} (C : pj_C B A K cc nL own lvl) (h : (if x = y then Y else X) = some r) (d : pj_dj cc pc (.if_icmp .ne off) off q t) (kt : X = some r → pj_W K H lo t ls st) (kf : Y = some r → pj_W K H lo q ls st) : pj_W K H lo pc ls (.int y :: .int x :: st) := by
  obtain ⟨d, rfl, ht⟩ := d
  exact lv_icmp_ne C.1 C.2.1 d ht (fun c => kt (pj_if c h)) (fun c => kf (pj_it c h))
theorem pj_if_lt {B : pj_B} {A : Nat → Prop} {K : pj_K} {cc : ByteArray} {nL : Nat} {own : String} {lvl : Nat} {H : Heap} {lo : List Loc} {ls : Array Slot} {st : List Value} {pc q : Nat} {ρ : Type} {r : ρ} {x : Int32} {X Y : Option ρ} {off : Int} {t : Nat} (C : pj_C B A K cc nL own lvl) (h : (if x < 0 then X else Y) = some r) (d : pj_dj cc pc (.ifCond .lt off) off q t) (kt : X = some r → pj_W K H lo t ls st) (kf : Y = some r → pj_W K H lo q ls st) : pj_W K H lo pc ls (.int x :: st) := by
  obtain ⟨d, rfl, ht⟩ := d
  exact lv_if_lt C.1 C.2.1 d ht (fun c => kt (pj_it c h)) (fun c => kf (pj_if c h))
theorem pj_ic_lt {B : pj_B} {A : Nat → Prop} {K : pj_K} {cc : ByteArray} {nL : Nat} {own : String} {lvl : Nat} {H : Heap} {lo : List Loc} {ls : Array Slot} {st : List Value} {pc q : Nat} {ρ : Type} {r : ρ} {x y : Int32} {X Y : Option ρ} {off : Int} {t : Nat} (C : pj_C B A K cc nL own lvl) (h : (if x < y then X else Y) = some r) (d : pj_dj cc pc (.if_icmp .lt off) off q t) (kt : X = some r → pj_W K H lo t ls st) (kf : Y = some r → pj_W K H lo q ls st) : pj_W K H lo pc ls (.int y :: .int x :: st) := by
  obtain ⟨d, rfl, ht⟩ := d
  exact lv_icmp_lt C.1 C.2.1 d ht (fun c => kt (pj_it c h)) (fun c => kf (pj_if c h))
theorem pj_if_ge {B : pj_B} {A : Nat → Prop} {K : pj_K} {cc : ByteArray} {nL : Nat} {own : String} {lvl : Nat} {H : Heap} {lo : List Loc} {ls : Array Slot} {st : List Value} {pc q : Nat} {ρ : Type} {r : ρ} {x : Int32} {X Y : Option ρ} {off : Int} {t : Nat} (C : pj_C B A K cc nL own lvl) (h : (if 0 ≤ x then X else Y) = some r) (d : pj_dj cc pc (.ifCond .ge off) off q t) (kt : X = some r → pj_W K H lo t ls st) (kf : Y = some r → pj_W K H lo q ls st) : pj_W K H lo pc ls (.int x :: st) := by
  obtain ⟨d, rfl, ht⟩ := d
  exact lv_if_ge C.1 C.2.1 d ht (fun c => kt (pj_it c h)) (fun c => kf (pj_if c h))
theorem pj_ic_ge {B : pj_B} {A : Nat → Prop} {K : pj_K} {cc : ByteArray} {nL : Nat} {own : String} {lvl : Nat} {H : Heap} {lo : List Loc} {ls : Array Slot} {st : List Value} {pc q : Nat} {ρ : Type} {r : ρ} {x y : Int32} {X Y : Option ρ} {off : Int} {t : Nat} (C : pj_C B A K cc nL own lvl) (h : (if y ≤ x then X else Y) = some r) (d : pj_dj cc pc (.if_icmp .ge off) off q t) (kt : X = some r → pj_W K H lo t ls st) (kf : Y = some r → pj_W K H lo q ls st) : pj_W K H lo pc ls (.int y :: .int x :: st) := by
  obtain ⟨d, rfl, ht⟩ := d
  exact lv_icmp_ge C.1 C.2.1 d ht (fun c => kt (pj_it c h)) (fun c => kf (pj_if c h))
theorem pj_if_gt {B : pj_B} {A : Nat → Prop} {K : pj_K} {cc : ByteArray} {nL : Nat} {own : String} {lvl : Nat} {H : Heap} {lo : List Loc} {ls : Array Slot} {st : List Value} {pc q : Nat} {ρ : Type} {r : ρ} {x : Int32} {X Y : Option ρ} {off : Int} {t : Nat} (C : pj_C B A K cc nL own lvl) (h : (if 0 < x then X else Y) = some r) (d : pj_dj cc pc (.ifCond .gt off) off q t) (kt : X = some r → pj_W K H lo t ls st) (kf : Y = some r → pj_W K H lo q ls st) : pj_W K H lo pc ls (.int x :: st) := by
  obtain ⟨d, rfl, ht⟩ := d
  exact lv_if_gt C.1 C.2.1 d ht (fun c => kt (pj_it c h)) (fun c => kf (pj_if c h))
theorem pj_ic_gt {B : pj_B} {A : Nat → Prop} {K : pj_K} {cc : ByteArray} {nL : Nat} {own : String} {lvl : Nat} {H : Heap} {lo : List Loc} {ls : Array Slot} {st : List Value} {pc q : Nat} {ρ : Type} {r : ρ} {x y : Int32} {X Y : Option ρ} {off : Int} {t : Nat} (C : pj_C B A K cc nL own lvl) (h : (if y < x then X else Y) = some r) (d : pj_dj cc pc (.if_icmp .gt off) off q t) (kt : X = some r → pj_W K H lo t ls st) (kf : Y = some r → pj_W K H lo q ls st) : pj_W K H lo pc ls (.int y :: .int x :: st) := by
  obtain ⟨d, rfl, ht⟩ := d
  exact lv_icmp_gt C.1 C.2.1 d ht (fun c => kt (pj_it c h)) (fun c => kf (pj_if c h))
theorem pj_if_le {B : pj_B} {A : Nat → Prop} {K : pj_K} {cc : ByteArray} {nL : Nat} {own : String} {lvl : Nat} {H : Heap} {lo : List Loc} {ls : Array Slot} {st : List Value} {pc q : Nat} {ρ : Type} {r : ρ} {x : Int32} {X Y : Option ρ} {off : Int} {t : Nat} (C : pj_C B A K cc nL own lvl) (h : (if x ≤ 0 then X else Y) = some r) (d : pj_dj cc pc (.ifCond .le off) off q t) (kt : X = some r → pj_W K H lo t ls st) (kf : Y = some r → pj_W K H lo q ls st) : pj_W K H lo pc ls (.int x :: st) := by
  obtain ⟨d, rfl, ht⟩ := d
  exact lv_if_le C.1 C.2.1 d ht (fun c => kt (pj_it c h)) (fun c => kf (pj_if c h))
theorem pj_ic_le {B : pj_B} {A : Nat → Prop} {K : pj_K} {cc : ByteArray} {nL : Nat} {own : String} {lvl : Nat} {H : Heap} {lo : List Loc} {ls : Array Slot} {st : List Value} {pc q : Nat} {ρ : Type} {r : ρ} {x y : Int32} {X Y : Option ρ} {off : Int} {t : Nat} (C : pj_C B A K cc nL own lvl) (h : (if x ≤ y then X else Y) = some r) (d : pj_dj cc pc (.if_icmp .le off) off q t) (kt : X = some r → pj_W K H lo t ls st) (kf : Y = some r → pj_W K H lo q ls st) : pj_W K H lo pc ls (.int y :: .int x :: st) := by
  obtain ⟨d, rfl, ht⟩ := d
  exact lv_icmp_le C.1 C.2.1 d ht (fun c => kt (pj_it c h)) (fun c => kf (pj_if c h))
theorem pj_sw {K : pj_K} {H : Heap} {lo : List Loc} {ls : Array Slot} {st : List Value} {pc : Nat} {ρ : Type} {r : ρ} {x v : Int32} {X Y : Option ρ} (h : (if x = v then X else Y) = some r) (kt : x = v → X = some r → pj_W K H lo pc ls st) (kf : ¬ x = v → Y = some r → pj_W K H lo pc ls st) : pj_W K H lo pc ls st := by
  by_cases c : x = v
  · exact kt c (pj_it c h)
  · exact kf c (pj_if c h)
theorem pj_nmI {K : pj_K} {H : Heap} {lo : List Loc} {ls : Array Slot} {st : List Value} {pc : Nat} {ρ : Type} {r : ρ} {x : Int32} {f : Int32 → Option ρ} (h : pj_b x f = some r) (k : ∀ y : Int32, f y = some r → pj_W K H lo pc ls (.int y :: st)) : pj_W K H lo pc ls (.int x :: st) := k x h
theorem pj_nmJ {K : pj_K} {H : Heap} {lo : List Loc} {ls : Array Slot} {st : List Value} {pc : Nat} {ρ : Type} {r : ρ} {x : Int64} {f : Int64 → Option ρ} (h : pj_b x f = some r) (k : ∀ y : Int64, f y = some r → pj_W K H lo pc ls (.long y :: st)) : pj_W K H lo pc ls (.long x :: st) := k x h
theorem pj_swI {B : pj_B} {A : Nat → Prop} {K : pj_K} {cc : ByteArray} {nL : Nat} {own : String} {lvl : Nat} {H : Heap} {lo : List Loc} {ls : Array Slot} {st : List Value} {pc q : Nat} {dflt a b : Int} {offs : Array Int} {len : Nat} {x : Int32} (v : Int32) (off : Int) (t : Nat) (C : pj_C B A K cc nL own lvl) (d : pj_d cc pc (.tableswitch dflt a b offs) len q) (hx : x = v) (hv : (!decide (v.toInt < a) && !decide (b < v.toInt) && decide (offs[(v.toInt - a).toNat]? = some off) && decide ((pc : Int) + off = (t : Int))) = true) (k : pj_W K H lo t ls st) : pj_W K H lo pc ls (.int x :: st) := by
  obtain ⟨d, rfl⟩ := d
  subst hx
  simp only [Bool.and_eq_true, Bool.not_eq_true', decide_eq_false_iff_not, decide_eq_true_eq] at hv
  exact lv_tableIn C.1 C.2.1 d hv.1.1.1 hv.1.1.2 hv.1.2 hv.2 k
theorem pj_swO {B : pj_B} {A : Nat → Prop} {K : pj_K} {cc : ByteArray} {nL : Nat} {own : String} {lvl : Nat} {H : Heap} {lo : List Loc} {ls : Array Slot} {st : List Value} {pc q : Nat} {dflt a b : Int} {offs : Array Int} {len : Nat} {x : Int32} (t : Nat) (C : pj_C B A K cc nL own lvl) (d : pj_d cc pc (.tableswitch dflt a b offs) len q) (hx : x.toInt < a ∨ b < x.toInt) (hv : (pc : Int) + dflt = (t : Int)) (k : pj_W K H lo t ls st) : pj_W K H lo pc ls (.int x :: st) := by
  obtain ⟨d, rfl⟩ := d
  exact lv_tableOut C.1 C.2.1 d hx hv k
theorem pj_nI {x v : Int32} {n : Int} (h : ¬ x = v) (e : v.toInt = n) : x.toInt ≠ n := by
  rw [← e]
  exact fun q => h (Int32.toInt_inj.mp q)
/-- a field by its link: own's pool entry, the class's number, its place -/
def pj_fl (own : String) (index ci j : Nat) (C : String) (T : u_T) (N : Nat) : Prop := vwCl[ci]? = some (C, T, N) ∧ j < N ∧ (T j).1 = C ∧ Cond.fieldLink own index C (T j).2.1 (T j).2.2.1 ∈ pj_tbl ∧ (∀ w ∈ u_ws C T N, w ∈ pj_tbl) ∧ (∀ k, k < N → (parseFieldDescriptor (T k).2.2.1).isSome = true) ∧ (∀ a, a < N → ∀ b, b < N → a ≠ b → (T a).2.1 ≠ (T b).2.1)
def pj_t0 (T : u_T) : Nat → FieldType := fun k => (parseFieldDescriptor (T k).2.2.1).getD .int
theorem pj_t0_ok {T : u_T} {N : Nat} (h : ∀ k, k < N → (parseFieldDescriptor (T k).2.2.1).isSome = true) : ∀ k, k < N → parseFieldDescriptor (T k).2.2.1 = some (pj_t0 T k) := by
  intro k hk
  have := h k hk
  unfold pj_t0
  cases hq : parseFieldDescriptor (T k).2.2.1 with
  | none => rw [hq] at this; cases this
  | some t => rfl
theorem pj_getI {B : pj_B} {A : Nat → Prop} {K : pj_K} {cc : ByteArray} {nL : Nat} {own : String} {lvl : Nat} {H : Heap} {lo : List Loc} {ls : Array Slot} {st : List Value} {pc q : Nat} {ci j n : Nat} {R : String} {T : u_T} {N : Nat} {l : List (Nat × Nat)} {index : Nat} {z : pj_S} (C : pj_C B A K cc nL own lvl) (P : pj_P B A K z H lo) (k : Nat) (hk : B.2.2.2.1[k]? = some (.inl (ci, l))) (hj : l[j]? = some (0, n)) (f : pj_fl own index ci j R T N) (d : pj_d cc pc (.getfield index) 3 q) (kk : pj_W K H lo q ls (.int (z.1 k j) :: st)) : pj_W K H lo pc ls (.ref (B.2.1 k) :: st) := by
  obtain ⟨d, rfl⟩ := d
  obtain ⟨f1, f2, f3, f4, f5, f6, f7⟩ := f
  exact va_get C.1 C.2.1 C.2.2.2.2.1 f5 C.2.2.2.1 C.2.2.2.2.2.1.1 P.1 k (pj_wg hk) f1 j f2 (C.2.2.2.2.1 _ f4) (by rw [f3]; exact fun _ h => h) (v := .int (z.1 k j)) (by simp [List.getElem?_mapIdx, hj, pj_fv]) d kk
theorem pj_getJ {B : pj_B} {A : Nat → Prop} {K : pj_K} {cc : ByteArray} {nL : Nat} {own : String} {lvl : Nat} {H : Heap} {lo : List Loc} {ls : Array Slot} {st : List Value} {pc q : Nat} {ci j n : Nat} {R : String} {T : u_T} {N : Nat} {l : List (Nat × Nat)} {index : Nat} {z : pj_S} (C : pj_C B A K cc nL own lvl) (P : pj_P B A K z H lo) (k : Nat) (hk : B.2.2.2.1[k]? = some (.inl (ci, l))) (hj : l[j]? = some (1, n)) (f : pj_fl own index ci j R T N) (d : pj_d cc pc (.getfield index) 3 q) (kk : pj_W K H lo q ls (.long (z.2 k j) :: st)) : pj_W K H lo pc ls (.ref (B.2.1 k) :: st) := by
  obtain ⟨d, rfl⟩ := d
  obtain ⟨f1, f2, f3, f4, f5, f6, f7⟩ := f
  exact va_get C.1 C.2.1 C.2.2.2.2.1 f5 C.2.2.2.1 C.2.2.2.2.2.1.1 P.1 k (pj_wg hk) f1 j f2 (C.2.2.2.2.1 _ f4) (by rw [f3]; exact fun _ h => h) (v := .long (z.2 k j)) (by simp [List.getElem?_mapIdx, hj, pj_fv]) d kk
theorem pj_getR {B : pj_B} {A : Nat → Prop} {K : pj_K} {cc : ByteArray} {nL : Nat} {own : String} {lvl : Nat} {H : Heap} {lo : List Loc} {ls : Array Slot} {st : List Value} {pc q : Nat} {ci j n : Nat} {R : String} {T : u_T} {N : Nat} {l : List (Nat × Nat)} {index : Nat} {z : pj_S} (C : pj_C B A K cc nL own lvl) (P : pj_P B A K z H lo) (k : Nat) (hk : B.2.2.2.1[k]? = some (.inl (ci, l))) (hj : l[j]? = some (2, n)) (f : pj_fl own index ci j R T N) (d : pj_d cc pc (.getfield index) 3 q) (kk : pj_W K H lo q ls (.ref (B.2.1 n) :: st)) : pj_W K H lo pc ls (.ref (B.2.1 k) :: st) := by
  obtain ⟨d, rfl⟩ := d
  obtain ⟨f1, f2, f3, f4, f5, f6, f7⟩ := f
  exact va_get C.1 C.2.1 C.2.2.2.2.1 f5 C.2.2.2.1 C.2.2.2.2.2.1.1 P.1 k (pj_wg hk) f1 j f2 (C.2.2.2.2.1 _ f4) (by rw [f3]; exact fun _ h => h) (v := .ref (B.2.1 n)) (by simp [List.getElem?_mapIdx, hj, pj_fv]) d kk
theorem pj_putI {B : pj_B} {A : Nat → Prop} {K : pj_K} {cc : ByteArray} {nL : Nat} {own : String} {lvl : Nat} {H : Heap} {lo : List Loc} {ls : Array Slot} {st : List Value} {pc q : Nat} {ρ : Type} {r : ρ} {ci j n : Nat} {R : String} {T : u_T} {N : Nat} {l : List (Nat × Nat)} {index : Nat} {z : pj_S} {v : Int32} {g : pj_S → Option ρ} (C : pj_C B A K cc nL own lvl) (P : pj_P B A K z H lo) (k : Nat) (hk : B.2.2.2.1[k]? = some (.inl (ci, l))) (hj : l[j]? = some (0, n)) (f : pj_fl own index ci j R T N) (hfin : (T j).2.2.2 = false) (hty : parseFieldDescriptor (T j).2.2.1 = some .int) (h : pj_b (pj_sI z k j v) g = some r) (d : pj_d cc pc (.putfield index) 3 q) (kk : ∀ (H2 : Heap) (lo2 : List Loc) (z2 : pj_S), g z2 = some r → pj_P B A K z2 H2 lo2 → pj_W K H2 lo2 q ls st) : pj_W K H lo pc ls (.int v :: .ref (B.2.1 k) :: st) := by
  obtain ⟨d, rfl⟩ := d
  obtain ⟨f1, f2, f3, f4, f5, f6, f7⟩ := f
  refine va_put (ty := .int) (v := .int v) C.1 C.2.1 C.2.2.2.2.1 f5 (pj_t0 T) (pj_t0_ok f6) f7 C.2.2.2.1 C.2.2.2.2.2.1.1 P.1 (C.D z) P.2 k (pj_wg hk) f1 j f2 (C.2.2.2.2.1 _ f4) (by rw [f3]; exact fun _ h => h) hfin hty rfl rfl (by simpa using (List.getElem?_eq_some_iff.mp hj).1) d (fun H2 lo2 hP hD hS => kk H2 lo2 _ h ⟨?_, hS⟩)
  rw [pj_fsI hj] at hP
  rw [← pj_ws_ (z := z) (z' := pj_sI z k j v) hk (by intro a ha; simp [pj_sI, ha]) (by intro a ha; simp [pj_sI, ha])]
  exact hP
theorem pj_putZ {B : pj_B} {A : Nat → Prop} {K : pj_K} {cc : ByteArray} {nL : Nat} {own : String} {lvl : Nat} {H : Heap} {lo : List Loc} {ls : Array Slot} {st : List Value} {pc q : Nat} {ρ : Type} {r : ρ} {ci j n : Nat} {R : String} {T : u_T} {N : Nat} {l : List (Nat × Nat)} {index : Nat} {z : pj_S} {v : Int32} {g : pj_S → Option ρ} (C : pj_C B A K cc nL own lvl) (P : pj_P B A K z H lo) (k : Nat) (hk : B.2.2.2.1[k]? = some (.inl (ci, l))) (hj : l[j]? = some (0, n)) (f : pj_fl own index ci j R T N) (hfin : (T j).2.2.2 = false) (hty : parseFieldDescriptor (T j).2.2.1 = some .boolean) (h : pj_g (pj_bo v) (pj_b (pj_sI z k j v) g) = some r) (d : pj_d cc pc (.putfield index) 3 q) (kk : ∀ (H2 : Heap) (lo2 : List Loc) (z2 : pj_S), g z2 = some r → pj_P B A K z2 H2 lo2 → pj_W K H2 lo2 q ls st) : pj_W K H lo pc ls (.int v :: .ref (B.2.1 k) :: st) := by
  obtain ⟨d, rfl⟩ := d
  obtain ⟨hb, h⟩ := pj_gE h
  obtain ⟨f1, f2, f3, f4, f5, f6, f7⟩ := f
  refine va_put (ty := .boolean) (v := .int v) C.1 C.2.1 C.2.2.2.2.1 f5 (pj_t0 T) (pj_t0_ok f6) f7 C.2.2.2.1 C.2.2.2.2.2.1.1 P.1 (C.D z) P.2 k (pj_wg hk) f1 j f2 (C.2.2.2.2.1 _ f4) (by rw [f3]; exact fun _ h => h) hfin hty (pj_boN hb) (pj_boF hb) (by simpa using (List.getElem?_eq_some_iff.mp hj).1) d (fun H2 lo2 hP hD hS => kk H2 lo2 _ h ⟨?_, hS⟩)
  rw [pj_fsI hj] at hP
  rw [← pj_ws_ (z := z) (z' := pj_sI z k j v) hk (by intro a ha; simp [pj_sI, ha]) (by intro a ha; simp [pj_sI, ha])]
  exact hP
theorem pj_putJ {B : pj_B} {A : Nat → Prop} {K : pj_K} {cc : ByteArray} {nL : Nat} {own : String} {lvl : Nat} {H : Heap} {lo : List Loc} {ls : Array Slot} {st : List Value} {pc q : Nat} {ρ : Type} {r : ρ} {ci j n : Nat} {R : String} {T : u_T} {N : Nat} {l : List (Nat × Nat)} {index : Nat} {z : pj_S} {v : Int64} {g : pj_S → Option ρ} (C : pj_C B A K cc nL own lvl) (P : pj_P B A K z H lo) (k : Nat) (hk : B.2.2.2.1[k]? = some (.inl (ci, l))) (hj : l[j]? = some (1, n)) (f : pj_fl own index ci j R T N) (hfin : (T j).2.2.2 = false) (hty : parseFieldDescriptor (T j).2.2.1 = some .long) (h : pj_b (pj_sJ z k j v) g = some r) (d : pj_d cc pc (.putfield index) 3 q) (kk : ∀ (H2 : Heap) (lo2 : List Loc) (z2 : pj_S), g z2 = some r → pj_P B A K z2 H2 lo2 → pj_W K H2 lo2 q ls st) : pj_W K H lo pc ls (.long v :: .ref (B.2.1 k) :: st) := by
  obtain ⟨d, rfl⟩ := d
  obtain ⟨f1, f2, f3, f4, f5, f6, f7⟩ := f
  refine va_put (ty := .long) (v := .long v) C.1 C.2.1 C.2.2.2.2.1 f5 (pj_t0 T) (pj_t0_ok f6) f7 C.2.2.2.1 C.2.2.2.2.2.1.1 P.1 (C.D z) P.2 k (pj_wg hk) f1 j f2 (C.2.2.2.2.1 _ f4) (by rw [f3]; exact fun _ h => h) hfin hty rfl rfl (by simpa using (List.getElem?_eq_some_iff.mp hj).1) d (fun H2 lo2 hP hD hS => kk H2 lo2 _ h ⟨?_, hS⟩)
  rw [pj_fsJ hj] at hP
  rw [← pj_ws_ (z := z) (z' := pj_sJ z k j v) hk (by intro a ha; simp [pj_sJ, ha]) (by intro a ha; simp [pj_sJ, ha])]
  exact hP
theorem pj_iald {B : pj_B} {A : Nat → Prop} {K : pj_K} {cc : ByteArray} {nL : Nat} {own : String} {lvl : Nat} {H : Heap} {lo : List Loc} {ls : Array Slot} {st : List Value} {pc q : Nat} {ρ : Type} {r : ρ} {len : Nat} {i : Int32} {z : pj_S} {X : Option ρ} (C : pj_C B A K cc nL own lvl) (P : pj_P B A K z H lo) (k : Nat) (hk : B.2.2.2.1[k]? = some (.inr (len, 0))) (h : pj_g (pj_in i len) X = some r) (d : pj_d cc pc (.iaload) 1 q) (kk : X = some r → pj_W K H lo q ls (.int (z.1 k i.toNatClampNeg) :: st)) : pj_W K H lo pc ls (.int i :: .ref (B.2.1 k) :: st) := by
  obtain ⟨d, rfl⟩ := d
  obtain ⟨hi, h⟩ := pj_gE h
  exact va_iald C.1 C.2.1 C.2.2.2.2.2.1.1 P.1 k 0 (pj_wg hk) rfl (pj_inE hi) d (kk h)
theorem pj_lald {B : pj_B} {A : Nat → Prop} {K : pj_K} {cc : ByteArray} {nL : Nat} {own : String} {lvl : Nat} {H : Heap} {lo : List Loc} {ls : Array Slot} {st : List Value} {pc q : Nat} {ρ : Type} {r : ρ} {len : Nat} {i : Int32} {z : pj_S} {X : Option ρ} (C : pj_C B A K cc nL own lvl) (P : pj_P B A K z H lo) (k : Nat) (hk : B.2.2.2.1[k]? = some (.inr (len, 1))) (h : pj_g (pj_in i len) X = some r) (d : pj_d cc pc (.laload) 1 q) (kk : X = some r → pj_W K H lo q ls (.long (z.2 k i.toNatClampNeg) :: st)) : pj_W K H lo pc ls (.int i :: .ref (B.2.1 k) :: st) := by
  obtain ⟨d, rfl⟩ := d
  obtain ⟨hi, h⟩ := pj_gE h
  exact va_lald C.1 C.2.1 C.2.2.2.2.2.1.1 P.1 k 1 (pj_wg hk) rfl (pj_inE hi) d (kk h)
theorem pj_bald {B : pj_B} {A : Nat → Prop} {K : pj_K} {cc : ByteArray} {nL : Nat} {own : String} {lvl : Nat} {H : Heap} {lo : List Loc} {ls : Array Slot} {st : List Value} {pc q : Nat} {ρ : Type} {r : ρ} {len : Nat} {i : Int32} {z : pj_S} {X : Option ρ} (C : pj_C B A K cc nL own lvl) (P : pj_P B A K z H lo) (k : Nat) (hk : B.2.2.2.1[k]? = some (.inr (len, 2))) (h : pj_g (pj_in i len) X = some r) (d : pj_d cc pc (.baload) 1 q) (kk : X = some r → pj_W K H lo q ls (.int (z.1 k i.toNatClampNeg) :: st)) : pj_W K H lo pc ls (.int i :: .ref (B.2.1 k) :: st) := by
  obtain ⟨d, rfl⟩ := d
  obtain ⟨hi, h⟩ := pj_gE h
  exact va_bald C.1 C.2.1 C.2.2.2.2.2.1.1 P.1 k 2 (pj_wg hk) rfl (pj_inE hi) d (kk h)
theorem pj_iast {B : pj_B} {A : Nat → Prop} {K : pj_K} {cc : ByteArray} {nL : Nat} {own : String} {lvl : Nat} {H : Heap} {lo : List Loc} {ls : Array Slot} {st : List Value} {pc q : Nat} {ρ : Type} {r : ρ} {len : Nat} {i : Int32} {v : Int32} {z : pj_S} {g : pj_S → Option ρ} (C : pj_C B A K cc nL own lvl) (P : pj_P B A K z H lo) (k : Nat) (hk : B.2.2.2.1[k]? = some (.inr (len, 0))) (h : pj_g (pj_in i len) (pj_b (pj_sI z k i.toNatClampNeg v) g) = some r) (d : pj_d cc pc (.iastore) 1 q) (kk : ∀ (H2 : Heap) (lo2 : List Loc) (z2 : pj_S), g z2 = some r → pj_P B A K z2 H2 lo2 → pj_W K H2 lo2 q ls st) : pj_W K H lo pc ls (.int v :: .int i :: .ref (B.2.1 k) :: st) := by
  obtain ⟨d, rfl⟩ := d
  obtain ⟨hi, h⟩ := pj_gE h
  refine va_iast C.1 C.2.1 C.2.2.2.2.2.1.1 P.1 (C.D z) P.2 k 0 (pj_wg hk) rfl (pj_inE hi) d (fun H2 lo2 hP hD hS => kk H2 lo2 _ h ⟨?_, hS⟩)
  rw [← pj_ws_ (z := z) (z' := pj_sI z k i.toNatClampNeg v) hk (by intro a ha; simp [pj_sI, ha]) (by intro a ha; simp [pj_sI, ha])]
  simpa [pj_e, pj_sI] using hP
theorem pj_last {B : pj_B} {A : Nat → Prop} {K : pj_K} {cc : ByteArray} {nL : Nat} {own : String} {lvl : Nat} {H : Heap} {lo : List Loc} {ls : Array Slot} {st : List Value} {pc q : Nat} {ρ : Type} {r : ρ} {len : Nat} {i : Int32} {v : Int64} {z : pj_S} {g : pj_S → Option ρ} (C : pj_C B A K cc nL own lvl) (P : pj_P B A K z H lo) (k : Nat) (hk : B.2.2.2.1[k]? = some (.inr (len, 1))) (h : pj_g (pj_in i len) (pj_b (pj_sJ z k i.toNatClampNeg v) g) = some r) (d : pj_d cc pc (.lastore) 1 q) (kk : ∀ (H2 : Heap) (lo2 : List Loc) (z2 : pj_S), g z2 = some r → pj_P B A K z2 H2 lo2 → pj_W K H2 lo2 q ls st) : pj_W K H lo pc ls (.long v :: .int i :: .ref (B.2.1 k) :: st) := by
  obtain ⟨d, rfl⟩ := d
  obtain ⟨hi, h⟩ := pj_gE h
  refine va_last C.1 C.2.1 C.2.2.2.2.2.1.1 P.1 (C.D z) P.2 k 1 (pj_wg hk) rfl (pj_inE hi) d (fun H2 lo2 hP hD hS => kk H2 lo2 _ h ⟨?_, hS⟩)
  rw [← pj_ws_ (z := z) (z' := pj_sJ z k i.toNatClampNeg v) hk (by intro a ha; simp [pj_sJ, ha]) (by intro a ha; simp [pj_sJ, ha])]
  simpa [pj_e, pj_sJ] using hP
theorem pj_bast {B : pj_B} {A : Nat → Prop} {K : pj_K} {cc : ByteArray} {nL : Nat} {own : String} {lvl : Nat} {H : Heap} {lo : List Loc} {ls : Array Slot} {st : List Value} {pc q : Nat} {ρ : Type} {r : ρ} {len : Nat} {i : Int32} {v : Int32} {z : pj_S} {g : pj_S → Option ρ} (C : pj_C B A K cc nL own lvl) (P : pj_P B A K z H lo) (k : Nat) (hk : B.2.2.2.1[k]? = some (.inr (len, 2))) (h : pj_g (pj_in i len) (pj_b (pj_sI z k i.toNatClampNeg (vp_nar .byte v)) g) = some r) (d : pj_d cc pc (.bastore) 1 q) (kk : ∀ (H2 : Heap) (lo2 : List Loc) (z2 : pj_S), g z2 = some r → pj_P B A K z2 H2 lo2 → pj_W K H2 lo2 q ls st) : pj_W K H lo pc ls (.int v :: .int i :: .ref (B.2.1 k) :: st) := by
  obtain ⟨d, rfl⟩ := d
  obtain ⟨hi, h⟩ := pj_gE h
  refine va_bast C.1 C.2.1 C.2.2.2.2.2.1.1 P.1 (C.D z) P.2 k 2 (pj_wg hk) rfl (pj_inE hi) d (fun H2 lo2 hP hD hS => kk H2 lo2 _ h ⟨?_, hS⟩)
  rw [← pj_ws_ (z := z) (z' := pj_sI z k i.toNatClampNeg (vp_nar .byte v)) hk (by intro a ha; simp [pj_sI, ha]) (by intro a ha; simp [pj_sI, ha])]
  simpa [pj_e, pj_sI] using hP
theorem pj_alen {B : pj_B} {A : Nat → Prop} {K : pj_K} {cc : ByteArray} {nL : Nat} {own : String} {lvl : Nat} {H : Heap} {lo : List Loc} {ls : Array Slot} {st : List Value} {pc q : Nat} {len kd : Nat} {z : pj_S} (v : Int32) (C : pj_C B A K cc nL own lvl) (P : pj_P B A K z H lo) (k : Nat) (hk : B.2.2.2.1[k]? = some (.inr (len, kd))) (hd : kd < 3) (hv : Int32.ofNat len = v) (d : pj_d cc pc .arraylength 1 q) (kk : pj_W K H lo q ls (.int v :: st)) : pj_W K H lo pc ls (.ref (B.2.1 k) :: st) := by
  obtain ⟨d, rfl⟩ := d
  match kd, hd with
  | 0, _ => exact va_alen C.1 C.2.1 C.2.2.2.2.2.1.1 P.1 k 0 (pj_wg hk) rfl hv d kk
  | 1, _ => exact va_alen C.1 C.2.1 C.2.2.2.2.2.1.1 P.1 k 1 (pj_wg hk) rfl hv d kk
  | 2, _ => exact va_alen C.1 C.2.1 C.2.2.2.2.2.1.1 P.1 k 2 (pj_wg hk) rfl hv d kk
def pj_cpOk (sp dp n : Int32) (n0 n1 : Nat) : Bool := decide (¬ sp < 0 ∧ ¬ dp < 0 ∧ ¬ n < 0 ∧ sp.toNatClampNeg + n.toNatClampNeg ≤ n0 ∧ dp.toNatClampNeg + n.toNatClampNeg ≤ n1)
def pj_gA (own : String) (idx : Nat) : Prop := Cond.methodLink own idx arraycopyName ∈ pj_tbl ∧ Cond.native arraycopyName ∈ pj_tbl ∧ Cond.static arraycopyName ∈ pj_tbl ∧ Cond.initialized "java/lang/System" ∈ pj_tbl
theorem pj_copy {B : pj_B} {A : Nat → Prop} {K : pj_K} {cc : ByteArray} {nL : Nat} {own : String} {lvl : Nat} {H : Heap} {lo : List Loc} {ls : Array Slot} {st : List Value} {pc q : Nat} {ρ : Type} {r : ρ} {n0 n1 idx : Nat} {sp dp n : Int32} {z : pj_S} {g : pj_S → Option ρ} (C : pj_C B A K cc nL own lvl) (P : pj_P B A K z H lo) (k0 k1 : Nat) (hk0 : B.2.2.2.1[k0]? = some (.inr (n0, 0))) (hk1 : B.2.2.2.1[k1]? = some (.inr (n1, 0))) (h : pj_g (pj_cpOk sp dp n n0 n1) (pj_b (pj_sC z k0 k1 sp.toNatClampNeg dp.toNatClampNeg n.toNatClampNeg) g) = some r) (w : pj_gA own idx) (hlv : 1 ≤ lvl) (hls : ls.size = nL) (hst : (st.map fun v => v.category).sum ≤ 8) (d : pj_d cc pc (.invokestatic idx) 3 q) (kk : ∀ (H2 : Heap) (lo2 : List Loc) (z2 : pj_S), g z2 = some r → pj_P B A K z2 H2 lo2 → pj_W K H2 lo2 q ls st) : pj_W K H lo pc ls (.int n :: .int dp :: .ref (B.2.1 k1) :: .int sp :: .ref (B.2.1 k0) :: st) := by
  obtain ⟨d, rfl⟩ := d
  obtain ⟨hi, h⟩ := pj_gE h
  obtain ⟨c1, c2, c3, c4, c5⟩ := of_decide_eq_true hi
  obtain ⟨w1, w2, w3, w4⟩ := w
  obtain ⟨r1, r2⟩ := C.2.2.2.2.2.2.2.2.2.2
  have hts := C.2.2.2.2.1
  have hnw : nativeFrameWords "java/lang/System" "arraycopy" 5 + 11 ≤ 56 := by decide
  refine va_copyi (ty := .int) C.1 C.2.1 (by rw [hls]; exact C.2.2.1) C.2.2.2.1 (hts _ w1) (hts _ w2) (hts _ w3) (hts _ w4) C.2.2.2.2.2.1.1 P.1 (C.D z) P.2 k0 k1 0 0 (pj_wg hk0) (pj_wg hk1) rfl rfl rfl c1 c2 c3 c4 c5 (fun _ _ => rfl) (Nat.le_trans hlv r1) (by omega) d (fun H2 lo2 hP hD hS => kk H2 lo2 _ h ⟨?_, hS⟩)
  rw [← pj_ws_ (z := z) (z' := pj_sC z k0 k1 sp.toNatClampNeg dp.toNatClampNeg n.toNatClampNeg) hk1 (by intro a ha; simp [pj_sC, ha]) (by intro a ha; simp [pj_sC])]
  simpa [pj_e, pj_sC] using hP
def pj_lkOk (i : Int32) : Bool := pj_in i 4
theorem pj_gstK {B : pj_B} {A : Nat → Prop} {K : pj_K} {cc : ByteArray} {nL : Nat} {own : String} {lvl : Nat} {H : Heap} {lo : List Loc} {ls : Array Slot} {st : List Value} {pc q : Nat} (C : pj_C B A K cc nL own lvl) {z : pj_S} (P : pj_P B A K z H lo) (ho : own = "PulledJersey$Fabric") (d : pj_d cc pc (.getstatic 91) 3 q) (k : pj_W K H lo q ls (.ref B.2.2.2.2.1 :: st)) : pj_W K H lo pc ls st := by
  obtain ⟨d, rfl⟩ := d
  subst ho
  obtain ⟨-, h2, h3, -⟩ := C.2.2.2.2.2.1.2
  exact va_getsN C.1 C.2.1 h3 P.2 C.2.2.2.1 (va_Nw.use rfl h2) (fun _ h => h) d k
theorem pj_ldK {B : pj_B} {A : Nat → Prop} {K : pj_K} {cc : ByteArray} {nL : Nat} {own : String} {lvl : Nat} {H : Heap} {lo : List Loc} {ls : Array Slot} {st : List Value} {pc q : Nat} {ρ : Type} {r : ρ} (C : pj_C B A K cc nL own lvl) {i : Int32} {z : pj_S} {X : Option ρ} (P : pj_P B A K z H lo) (h : pj_g (pj_in i 4) X = some r) (d : pj_d cc pc .iaload 1 q) (k : X = some r → pj_W K H lo q ls (.int (pj_lk.getD i.toNatClampNeg 0) :: st)) : pj_W K H lo pc ls (.int i :: .ref B.2.2.2.2.1 :: st) := by
  obtain ⟨d, rfl⟩ := d
  obtain ⟨g, h⟩ := pj_gE h
  obtain ⟨-, -, -, h4, -⟩ := C.2.2.2.2.2.1.2
  exact va_ti C.1 C.2.1 h4 P.2 (pj_inE g) rfl d (k h)
end
section
theorem pj_mem (i : Nat) {w : Cond} (h : lw_tbl[i]? = some w) (g : goodWord w = true) : w ∈ pj_tbl := List.mem_filter.mpr ⟨List.mem_of_getElem? h, g⟩
theorem pj_good {y : MethodName} {c : ByteArray} {n : Nat} {r : Option FieldType} (h : Cond.code y c n r ∈ pj_tbl) : GoodIn pj_tbl (pj_ws y c n r) := by
  intro w hw
  rcases List.mem_cons.mp hw with rfl | hw
  · exact ⟨h, good_of_word (List.mem_filter.mp h).2⟩
  · exact ⟨hw, good_of_word (List.mem_filter.mp hw).2⟩
def pj_Pre (B : pj_B) (z : pj_S) (sz : Nat) : State → Prop := fun U => U.heap.size = sz ∧ va_P B.1 vwCl (pj_w B z) U.heap ∧ pj_T B (pj_ar B sz) U ∧ pj_apart B
theorem pj_Pre.blind {av : List Value} {B : pj_B} {z : pj_S} {sz : Nat} : FrameBlind (va_Pc av (pj_Pre B z sz)) := fun a U g mk q => ⟨q.1, q.2.1, q.2.2.1, ⟨va_K.moved (u := U) (U := U.calling g mk a) (Vm.Alike.refl U.vm) q.2.2.2.1.1, pj_stat.same (u := U) (U := U.calling g mk a) q.2.2.2.1.2 rfl⟩, q.2.2.2.2⟩
def pj_Mi (l : Launch) (y : MethodName) (c : ByteArray) (n : Nat) (ret : Option FieldType) (lv : Nat) (av : List Value) (B : pj_B) (z : pj_S) (r0 : Int32) (z0 : pj_S) : Prop := ∀ sz : Nat, Met l y (pj_ws y c n ret) (pj_rm lv) (va_Pc av (pj_Pre B z sz)) (va_Qi (fun r (u : pj_S) => r = r0 ∧ u = z0) (fun u t => va_P B.1 vwCl (pj_w B u) t.heap) (pj_ar B sz)) 0 0 (pj_ar B sz)
def pj_Qi (B : pj_B) (A : Nat → Prop) (K : pj_K) (ret : Option FieldType) (r0 : Int32) (z0 : pj_S) : Prop := K.2.2.2.2.2.2.2.2.2.2.2.2 = MQ K.2.2.2.2.2.2.2.1 (va_Qi (fun r (u : pj_S) => r = r0 ∧ u = z0) (fun u t => va_P B.1 vwCl (pj_w B u) t.heap) A) K.2.2.2.2.2.2.1 K.2.2.2.2.1 K.2.2.2.2.2.2.2.2.2.2.1 K.2.2.2.2.2.2.2.2.2.2.2.1 A ∧ K.2.2.2.2.2.2.2.2.1.sig.returnType = ret ∧ K.2.2.2.2.2.2.2.2.1.locks = false
def pj_Ml (l : Launch) (y : MethodName) (c : ByteArray) (n : Nat) (ret : Option FieldType) (lv : Nat) (av : List Value) (B : pj_B) (z : pj_S) (r0 : Int64) (z0 : pj_S) : Prop := ∀ sz : Nat, Met l y (pj_ws y c n ret) (pj_rm lv) (va_Pc av (pj_Pre B z sz)) (va_Ql (fun r (u : pj_S) => r = r0 ∧ u = z0) (fun u t => va_P B.1 vwCl (pj_w B u) t.heap) (pj_ar B sz)) 0 0 (pj_ar B sz)
def pj_Ql (B : pj_B) (A : Nat → Prop) (K : pj_K) (ret : Option FieldType) (r0 : Int64) (z0 : pj_S) : Prop := K.2.2.2.2.2.2.2.2.2.2.2.2 = MQ K.2.2.2.2.2.2.2.1 (va_Ql (fun r (u : pj_S) => r = r0 ∧ u = z0) (fun u t => va_P B.1 vwCl (pj_w B u) t.heap) A) K.2.2.2.2.2.2.1 K.2.2.2.2.1 K.2.2.2.2.2.2.2.2.2.2.1 K.2.2.2.2.2.2.2.2.2.2.2.1 A ∧ K.2.2.2.2.2.2.2.2.1.sig.returnType = ret ∧ K.2.2.2.2.2.2.2.2.1.locks = false
def pj_Mv (l : Launch) (y : MethodName) (c : ByteArray) (n : Nat) (ret : Option FieldType) (lv : Nat) (av : List Value) (B : pj_B) (z : pj_S) (r0 : Unit) (z0 : pj_S) : Prop := ∀ sz : Nat, Met l y (pj_ws y c n ret) (pj_rm lv) (va_Pc av (pj_Pre B z sz)) (va_Qv (fun (u : pj_S) => u = z0) (fun u t => va_P B.1 vwCl (pj_w B u) t.heap) (pj_ar B sz)) 0 0 (pj_ar B sz)
def pj_Qv (B : pj_B) (A : Nat → Prop) (K : pj_K) (ret : Option FieldType) (r0 : Unit) (z0 : pj_S) : Prop := K.2.2.2.2.2.2.2.2.2.2.2.2 = MQ K.2.2.2.2.2.2.2.1 (va_Qv (fun (u : pj_S) => u = z0) (fun u t => va_P B.1 vwCl (pj_w B u) t.heap) A) K.2.2.2.2.2.2.1 K.2.2.2.2.1 K.2.2.2.2.2.2.2.2.2.2.1 K.2.2.2.2.2.2.2.2.2.2.2.1 A ∧ K.2.2.2.2.2.2.2.2.1.sig.returnType = ret ∧ K.2.2.2.2.2.2.2.2.1.locks = false
theorem pj_iret {B : pj_B} {A : Nat → Prop} {K : pj_K} {cc : ByteArray} {nL : Nat} {own : String} {lvl : Nat} {H : Heap} {lo : List Loc} {ls : Array Slot} {pc q : Nat} {z z0 : pj_S} {v r0 : Int32} (C : pj_C B A K cc nL own lvl) (Q : pj_Qi B A K (some .int) r0 z0) (P : pj_P B A K z H lo) (h : some (v, z) = some (r0, z0)) (d : pj_d cc pc .ireturn 1 q) : pj_W K H lo pc ls [.int v] := by
  cases h
  unfold pj_W
  rw [Q.1]
  exact W.iret C.1 C.2.1 Q.2.1 (fun t ht hW => ⟨⟨v, z, rfl, ⟨rfl, rfl⟩, by show va_P B.1 vwCl (pj_w B z) t.heap; rw [ht]; exact P.1⟩, P.2.F ht⟩) P.2.2.2 d.1 Q.2.2
theorem pj_zret {B : pj_B} {A : Nat → Prop} {K : pj_K} {cc : ByteArray} {nL : Nat} {own : String} {lvl : Nat} {H : Heap} {lo : List Loc} {ls : Array Slot} {pc q : Nat} {z z0 : pj_S} {v r0 : Int32} (C : pj_C B A K cc nL own lvl) (Q : pj_Qi B A K (some .boolean) r0 z0) (P : pj_P B A K z H lo) (h : pj_g (pj_bo v) (some (v, z)) = some (r0, z0)) (d : pj_d cc pc .ireturn 1 q) : pj_W K H lo pc ls [.int v] := by
  obtain ⟨hb, h⟩ := pj_gE h
  cases h
  unfold pj_W
  rw [Q.1]
  exact W.zret C.1 C.2.1 Q.2.1 (pj_boN hb) (fun t ht hW => ⟨⟨v, z, rfl, ⟨rfl, rfl⟩, by show va_P B.1 vwCl (pj_w B z) t.heap; rw [ht]; exact P.1⟩, P.2.F ht⟩) P.2.2.2 d.1 Q.2.2
theorem pj_lret {B : pj_B} {A : Nat → Prop} {K : pj_K} {cc : ByteArray} {nL : Nat} {own : String} {lvl : Nat} {H : Heap} {lo : List Loc} {ls : Array Slot} {pc q : Nat} {z z0 : pj_S} {v r0 : Int64} (C : pj_C B A K cc nL own lvl) (Q : pj_Ql B A K (some .long) r0 z0) (P : pj_P B A K z H lo) (h : some (v, z) = some (r0, z0)) (d : pj_d cc pc .lreturn 1 q) : pj_W K H lo pc ls [.long v] := by
  cases h
  unfold pj_W
  rw [Q.1]
  exact W.lret C.1 C.2.1 Q.2.1 (fun t ht hW => ⟨⟨v, z, rfl, ⟨rfl, rfl⟩, by show va_P B.1 vwCl (pj_w B z) t.heap; rw [ht]; exact P.1⟩, P.2.F ht⟩) P.2.2.2 d.1 Q.2.2
theorem pj_vret {B : pj_B} {A : Nat → Prop} {K : pj_K} {cc : ByteArray} {nL : Nat} {own : String} {lvl : Nat} {H : Heap} {lo : List Loc} {ls : Array Slot} {pc q : Nat} {z z0 : pj_S} {r0 : Unit} (C : pj_C B A K cc nL own lvl) (Q : pj_Qv B A K none r0 z0) (P : pj_P B A K z H lo) (h : some ((), z) = some (r0, z0)) (d : pj_d cc pc .return_ 1 q) : pj_W K H lo pc ls [] := by
  cases h
  unfold pj_W
  rw [Q.1]
  exact W.vret C.1 C.2.1 Q.2.1 (fun t ht hW => ⟨⟨z, rfl, rfl, by show va_P B.1 vwCl (pj_w B z) t.heap; rw [ht]; exact P.1⟩, P.2.F ht⟩) P.2.2.2 d.1 Q.2.2
set_option maxHeartbeats 2000000 in
/-- a method's contract out of a walk from its entry -/
theorem pj_meti {l : Launch} {y : MethodName} {c : ByteArray} {n lv : Nat} {ret : Option FieldType} {av : List Value} {B : pj_B} {z z0 : pj_S} {r0 : Int32} {own : String} (hy : plainName y.cls = true) (hown : y.cls = own) (hn : (lg_sl av).length ≤ n)
    (body : ∀ (A : Nat → Prop) (K : pj_K), K.2.1 = l → pj_C B A K c n own lv → pj_Qi B A K ret r0 z0 → ∀ (H : Heap) (lo : List Loc) (ls : Array Slot), pj_P B A K z H lo → lv_has ls n (lv_args 0 av) → pj_W K H lo 0 ls []) : pj_Mi l y c n ret lv av B z r0 z0 := by
  intro sz
  refine Met.ofW (cc := c) (maxL := n) (ret := ret) hy rfl ?_
  intro p e s m args below meth c0 s₁ X hml hv
  obtain ⟨rfl, hsz, hP, hT, hap⟩ := hv
  subst hsz
  have hl := lv_entry av (n := n) hn
  rw [lg_entry_eq]
  have hts := atoms_spec (ws := pj_ws y c n ret) X.pre
  have hA : ∀ k, k < B.2.2.2.1.length → pj_ar B s.heap.size (B.2.1 k) := fun k hk => Or.inl ⟨k, hk, rfl⟩
  exact body (pj_ar B s.heap.size) (p, l, e, pj_rm lv, s, m, av.toArray, below, meth, c0, 0, 0, _) rfl ⟨X.exec, X.bytes, hml, by rw [← hown]; exact findClass_of_methodNamed X.named, fun w hw => hts w (List.mem_cons_of_mem _ hw), hT, hap, hA, fun q h => Or.inr h, ⟨Nat.zero_le _, Nat.zero_le _⟩, Nat.le_refl _, Nat.le_refl _⟩ ⟨rfl, X.returns, X.notSynchronized⟩ s.heap [] _ ⟨hP, va_S.rf⟩ hl
set_option maxHeartbeats 2000000 in
/-- a method's contract out of a walk from its entry -/
theorem pj_metl {l : Launch} {y : MethodName} {c : ByteArray} {n lv : Nat} {ret : Option FieldType} {av : List Value} {B : pj_B} {z z0 : pj_S} {r0 : Int64} {own : String} (hy : plainName y.cls = true) (hown : y.cls = own) (hn : (lg_sl av).length ≤ n)
    (body : ∀ (A : Nat → Prop) (K : pj_K), K.2.1 = l → pj_C B A K c n own lv → pj_Ql B A K ret r0 z0 → ∀ (H : Heap) (lo : List Loc) (ls : Array Slot), pj_P B A K z H lo → lv_has ls n (lv_args 0 av) → pj_W K H lo 0 ls []) : pj_Ml l y c n ret lv av B z r0 z0 := by
  intro sz
  refine Met.ofW (cc := c) (maxL := n) (ret := ret) hy rfl ?_
  intro p e s m args below meth c0 s₁ X hml hv
  obtain ⟨rfl, hsz, hP, hT, hap⟩ := hv
  subst hsz
  have hl := lv_entry av (n := n) hn
  rw [lg_entry_eq]
  have hts := atoms_spec (ws := pj_ws y c n ret) X.pre
  have hA : ∀ k, k < B.2.2.2.1.length → pj_ar B s.heap.size (B.2.1 k) := fun k hk => Or.inl ⟨k, hk, rfl⟩
  exact body (pj_ar B s.heap.size) (p, l, e, pj_rm lv, s, m, av.toArray, below, meth, c0, 0, 0, _) rfl ⟨X.exec, X.bytes, hml, by rw [← hown]; exact findClass_of_methodNamed X.named, fun w hw => hts w (List.mem_cons_of_mem _ hw), hT, hap, hA, fun q h => Or.inr h, ⟨Nat.zero_le _, Nat.zero_le _⟩, Nat.le_refl _, Nat.le_refl _⟩ ⟨rfl, X.returns, X.notSynchronized⟩ s.heap [] _ ⟨hP, va_S.rf⟩ hl
set_option maxHeartbeats 2000000 in
/-- a method's contract out of a walk from its entry -/
theorem pj_metv {l : Launch} {y : MethodName} {c : ByteArray} {n lv : Nat} {ret : Option FieldType} {av : List Value} {B : pj_B} {z z0 : pj_S} {r0 : Unit} {own : String} (hy : plainName y.cls = true) (hown : y.cls = own) (hn : (lg_sl av).length ≤ n)
    (body : ∀ (A : Nat → Prop) (K : pj_K), K.2.1 = l → pj_C B A K c n own lv → pj_Qv B A K ret r0 z0 → ∀ (H : Heap) (lo : List Loc) (ls : Array Slot), pj_P B A K z H lo → lv_has ls n (lv_args 0 av) → pj_W K H lo 0 ls []) : pj_Mv l y c n ret lv av B z r0 z0 := by
  intro sz
  refine Met.ofW (cc := c) (maxL := n) (ret := ret) hy rfl ?_
  intro p e s m args below meth c0 s₁ X hml hv
  obtain ⟨rfl, hsz, hP, hT, hap⟩ := hv
  subst hsz
  have hl := lv_entry av (n := n) hn
  rw [lg_entry_eq]
  have hts := atoms_spec (ws := pj_ws y c n ret) X.pre
  have hA : ∀ k, k < B.2.2.2.1.length → pj_ar B s.heap.size (B.2.1 k) := fun k hk => Or.inl ⟨k, hk, rfl⟩
  exact body (pj_ar B s.heap.size) (p, l, e, pj_rm lv, s, m, av.toArray, below, meth, c0, 0, 0, _) rfl ⟨X.exec, X.bytes, hml, by rw [← hown]; exact findClass_of_methodNamed X.named, fun w hw => hts w (List.mem_cons_of_mem _ hw), hT, hap, hA, fun q h => Or.inr h, ⟨Nat.zero_le _, Nat.zero_le _⟩, Nat.le_refl _, Nat.le_refl _⟩ ⟨rfl, X.returns, X.notSynchronized⟩ s.heap [] _ ⟨hP, va_S.rf⟩ hl
/-- what a call's link needs: invokevirtual, invokestatic, a nest mate's static -/
def pj_gV (own : String) (idx : Nat) (y : MethodName) (c : ByteArray) (n : Nat) (ret : Option FieldType) (na : Nat) : Prop := Cond.methodLink own idx y ∈ pj_tbl ∧ Cond.instanceMethod y ∈ pj_tbl ∧ Cond.selects y.cls y y ∈ pj_tbl ∧ Cond.initialized y.cls ∈ pj_tbl ∧ Cond.code y c n ret ∈ pj_tbl ∧ y.cls ≠ "java/lang/invoke/MethodHandle" ∧ y.cls ≠ "java/lang/invoke/VarHandle" ∧ (parseMethodDescriptor y.desc).map (fun d => d.parameters.length) = some na
def pj_gS (own : String) (idx : Nat) (y : MethodName) (c : ByteArray) (n : Nat) (ret : Option FieldType) (na : Nat) : Prop := Cond.methodLink own idx y ∈ pj_tbl ∧ Cond.static y ∈ pj_tbl ∧ Cond.initialized y.cls ∈ pj_tbl ∧ Cond.code y c n ret ∈ pj_tbl ∧ y.cls ≠ "java/lang/invoke/MethodHandle" ∧ y.cls ≠ "java/lang/invoke/VarHandle" ∧ (parseMethodDescriptor y.desc).map (fun d => d.parameters.length) = some na
def pj_gN (own : String) (idx : Nat) (y : MethodName) (c : ByteArray) (n : Nat) (ret : Option FieldType) (na : Nat) : Prop := (own, idx, y) ∈ pj_nl ∧ Cond.static y ∈ pj_tbl ∧ Cond.initialized y.cls ∈ pj_tbl ∧ Cond.code y c n ret ∈ pj_tbl ∧ y.cls ≠ "java/lang/invoke/MethodHandle" ∧ y.cls ≠ "java/lang/invoke/VarHandle" ∧ (parseMethodDescriptor y.desc).map (fun d => d.parameters.length) = some na
theorem pj_area {B : pj_B} {A : Nat → Prop} {K : pj_K} {cc : ByteArray} {nL : Nat} {own : String} {lvl : Nat} {H : Heap} {lo : List Loc} {z : pj_S} (C : pj_C B A K cc nL own lvl) (P : pj_P B A K z H lo) : ∀ x, pj_ar B H.size x → A x := by
  intro x hx
  rcases hx with ⟨k, hk, rfl⟩ | hx
  · exact C.2.2.2.2.2.2.2.1 k hk
  · exact C.2.2.2.2.2.2.2.2.1 x (Nat.le_trans P.2.1 hx)
theorem pj_pre {B : pj_B} {A : Nat → Prop} {K : pj_K} {cc : ByteArray} {nL : Nat} {own : String} {lvl : Nat} {H : Heap} {lo : List Loc} {z : pj_S} (C : pj_C B A K cc nL own lvl) (P : pj_P B A K z H lo) {U : State} (hU : U.heap = H) (hW : K.2.2.2.2.1.WarmedH U.vm) (av : List Value) : va_Pc av (pj_Pre B z H.size) av.toArray U := by
  refine ⟨rfl, by rw [hU], by rw [hU]; exact P.1, ⟨va_K.moved hW.alike C.2.2.2.2.2.1.1, ?_⟩, C.2.2.2.2.2.2.1⟩
  rw [hU]
  exact C.2.2.2.2.2.1.2.to hW P.2 (pj_area C P)
theorem pj_room {B : pj_B} {A : Nat → Prop} {K : pj_K} {cc : ByteArray} {nL : Nat} {own : String} {lvl : Nat} {lv2 n2 : Nat} (C : pj_C B A K cc nL own lvl) (hl : lv2 + 1 ≤ lvl) (hn : n2 ≤ 45) : (pj_rm lv2).frames + 1 ≤ K.2.2.2.1.frames ∧ 8 + (n2 + 11) + (pj_rm lv2).locals ≤ K.2.2.2.1.locals := by
  obtain ⟨h1, h2⟩ := C.2.2.2.2.2.2.2.2.2.2
  refine ⟨Nat.le_trans hl h1, Nat.le_trans ?_ h2⟩
  show 8 + (n2 + 11) + 64 * lv2 ≤ 64 * lvl
  omega
set_option maxHeartbeats 2000000 in
theorem pj_cVi {B : pj_B} {A : Nat → Prop} {K : pj_K} {cc : ByteArray} {nL : Nat} {own : String} {lvl : Nat} {H : Heap} {lo : List Loc} {ls : Array Slot} {st : List Value} {pc q : Nat} {y : MethodName} {c2 : ByteArray} {n2 lv2 na idx : Nat} {ret : Option FieldType} {z z2 : pj_S} {r : Int32} {ci : Nat} {l : List (Nat × Nat)} {T : u_T} {N : Nat} (As : List Value) (C : pj_C B A K cc nL own lvl) (P : pj_P B A K z H lo) (k : Nat) (hk : B.2.2.2.1[k]? = some (.inl (ci, l))) (hc : vwCl[ci]? = some (y.cls, T, N)) (hM : pj_Mi K.2.1 y c2 n2 ret lv2 (.ref (B.2.1 k) :: As) B z r z2) (g : pj_gV own idx y c2 n2 ret na) (hna : As.length = na) (hl : lv2 + 1 ≤ lvl) (hn : n2 ≤ 45) (hls : ls.size = nL) (hst : (st.map fun v => v.category).sum ≤ 8) (d : pj_d cc pc (.invokevirtual idx) 3 q) (kk : ∀ (H2 : Heap) (lo2 : List Loc), pj_P B A K z2 H2 lo2 → pj_W K H2 lo2 q ls (.int r :: st)) : pj_W K H lo pc ls (As.reverse ++ .ref (B.2.1 k) :: st) := by
  obtain ⟨d, rfl⟩ := d
  obtain ⟨g1, g2, g3, g4, g5, g6, g7, g8⟩ := g
  have hts := C.2.2.2.2.1
  refine va_calli (va_runV (C := y.cls) (As := As) (rest := st) ⟨C.1, C.2.1, C.2.2.1, C.2.2.2.1, hts⟩ (hM H.size) ⟨callB_of na hts (pj_good g5) rfl rfl rfl (hts _ g4) (hts _ g1) ⟨g6, g7, g8⟩ (pj_room C hl hn), hts _ g2, hts _ g3⟩ ⟨pj_Pre.blind, va_recv C.2.2.2.2.2.1.1 P.1 hc (pj_wg hk), fun U hU hW => pj_pre C P hU hW _⟩ rfl hna hls rfl (lv_room hst) d C.2.2.2.2.2.2.2.2.2.1) P.2 (fun x _ h => pj_area C P x h) (pj_area C P) (fun r2 u t H1 lo1 ht hvm hp hB hz hk hS => ?_)
  obtain ⟨rfl, rfl⟩ := hp
  exact kk H1 lo1 ⟨by rw [← ht]; exact hB, hS⟩
set_option maxHeartbeats 2000000 in
theorem pj_cSi {B : pj_B} {A : Nat → Prop} {K : pj_K} {cc : ByteArray} {nL : Nat} {own : String} {lvl : Nat} {H : Heap} {lo : List Loc} {ls : Array Slot} {st : List Value} {pc q : Nat} {y : MethodName} {c2 : ByteArray} {n2 lv2 na idx : Nat} {ret : Option FieldType} {z z2 : pj_S} {r : Int32} (As : List Value) (C : pj_C B A K cc nL own lvl) (P : pj_P B A K z H lo) (hM : pj_Mi K.2.1 y c2 n2 ret lv2 As B z r z2) (g : pj_gS own idx y c2 n2 ret na) (hna : As.length = na) (hl : lv2 + 1 ≤ lvl) (hn : n2 ≤ 45) (hls : ls.size = nL) (hst : (st.map fun v => v.category).sum ≤ 8) (d : pj_d cc pc (.invokestatic idx) 3 q) (kk : ∀ (H2 : Heap) (lo2 : List Loc), pj_P B A K z2 H2 lo2 → pj_W K H2 lo2 q ls (.int r :: st)) : pj_W K H lo pc ls (As.reverse ++ st) := by
  obtain ⟨d, rfl⟩ := d
  obtain ⟨g1, g2, g4, g5, g6, g7, g8⟩ := g
  have hts := C.2.2.2.2.1
  refine va_calli (va_runS (As := As) (rest := st) ⟨C.1, C.2.1, C.2.2.1, C.2.2.2.1, hts⟩ (hM H.size) ⟨callB_of na hts (pj_good g5) rfl rfl rfl (hts _ g4) (hts _ g1) ⟨g6, g7, g8⟩ (pj_room C hl hn), hts _ g2⟩ ⟨pj_Pre.blind, fun U hU hW => pj_pre C P hU hW _⟩ rfl hna hls rfl (lv_room hst) d C.2.2.2.2.2.2.2.2.2.1) P.2 (fun x _ h => pj_area C P x h) (pj_area C P) (fun r2 u t H1 lo1 ht hvm hp hB hz hk hS => ?_)
  obtain ⟨rfl, rfl⟩ := hp
  exact kk H1 lo1 ⟨by rw [← ht]; exact hB, hS⟩
set_option maxHeartbeats 2000000 in
theorem pj_cNi {B : pj_B} {A : Nat → Prop} {K : pj_K} {cc : ByteArray} {nL : Nat} {own : String} {lvl : Nat} {H : Heap} {lo : List Loc} {ls : Array Slot} {st : List Value} {pc q : Nat} {y : MethodName} {c2 : ByteArray} {n2 lv2 na idx : Nat} {ret : Option FieldType} {z z2 : pj_S} {r : Int32} (As : List Value) (C : pj_C B A K cc nL own lvl) (P : pj_P B A K z H lo) (hM : pj_Mi K.2.1 y c2 n2 ret lv2 As B z r z2) (g : pj_gN own idx y c2 n2 ret na) (hna : As.length = na) (hl : lv2 + 1 ≤ lvl) (hn : n2 ≤ 45) (hls : ls.size = nL) (hst : (st.map fun v => v.category).sum ≤ 8) (d : pj_d cc pc (.invokestatic idx) 3 q) (kk : ∀ (H2 : Heap) (lo2 : List Loc), pj_P B A K z2 H2 lo2 → pj_W K H2 lo2 q ls (.int r :: st)) : pj_W K H lo pc ls (As.reverse ++ st) := by
  obtain ⟨d, rfl⟩ := d
  obtain ⟨g1, g2, g4, g5, g6, g7, g8⟩ := g
  have hts := C.2.2.2.2.1
  refine va_calli (va_runSN (As := As) (rest := st) ⟨C.1, C.2.1, C.2.2.1, C.2.2.2.1, hts⟩ (hM H.size) ⟨va_cnB na hts (pj_good g5) rfl rfl rfl (C.2.2.2.2.2.1.2.1 _ g1) (hts _ g4) ⟨g6, g7, g8⟩ (pj_room C hl hn), hts _ g2, trivial⟩ ⟨pj_Pre.blind, fun U hU hW => pj_pre C P hU hW _⟩ rfl hna hls rfl (lv_room hst) d C.2.2.2.2.2.2.2.2.2.1) P.2 (fun x _ h => pj_area C P x h) (pj_area C P) (fun r2 u t H1 lo1 ht hvm hp hB hz hk hS => ?_)
  obtain ⟨rfl, rfl⟩ := hp
  exact kk H1 lo1 ⟨by rw [← ht]; exact hB, hS⟩
set_option maxHeartbeats 2000000 in
theorem pj_cVl {B : pj_B} {A : Nat → Prop} {K : pj_K} {cc : ByteArray} {nL : Nat} {own : String} {lvl : Nat} {H : Heap} {lo : List Loc} {ls : Array Slot} {st : List Value} {pc q : Nat} {y : MethodName} {c2 : ByteArray} {n2 lv2 na idx : Nat} {ret : Option FieldType} {z z2 : pj_S} {r : Int64} {ci : Nat} {l : List (Nat × Nat)} {T : u_T} {N : Nat} (As : List Value) (C : pj_C B A K cc nL own lvl) (P : pj_P B A K z H lo) (k : Nat) (hk : B.2.2.2.1[k]? = some (.inl (ci, l))) (hc : vwCl[ci]? = some (y.cls, T, N)) (hM : pj_Ml K.2.1 y c2 n2 ret lv2 (.ref (B.2.1 k) :: As) B z r z2) (g : pj_gV own idx y c2 n2 ret na) (hna : As.length = na) (hl : lv2 + 1 ≤ lvl) (hn : n2 ≤ 45) (hls : ls.size = nL) (hst : (st.map fun v => v.category).sum ≤ 8) (d : pj_d cc pc (.invokevirtual idx) 3 q) (kk : ∀ (H2 : Heap) (lo2 : List Loc), pj_P B A K z2 H2 lo2 → pj_W K H2 lo2 q ls (.long r :: st)) : pj_W K H lo pc ls (As.reverse ++ .ref (B.2.1 k) :: st) := by
  obtain ⟨d, rfl⟩ := d
  obtain ⟨g1, g2, g3, g4, g5, g6, g7, g8⟩ := g
  have hts := C.2.2.2.2.1
  refine va_calll (va_runV (C := y.cls) (As := As) (rest := st) ⟨C.1, C.2.1, C.2.2.1, C.2.2.2.1, hts⟩ (hM H.size) ⟨callB_of na hts (pj_good g5) rfl rfl rfl (hts _ g4) (hts _ g1) ⟨g6, g7, g8⟩ (pj_room C hl hn), hts _ g2, hts _ g3⟩ ⟨pj_Pre.blind, va_recv C.2.2.2.2.2.1.1 P.1 hc (pj_wg hk), fun U hU hW => pj_pre C P hU hW _⟩ rfl hna hls rfl (lv_room hst) d C.2.2.2.2.2.2.2.2.2.1) P.2 (fun x _ h => pj_area C P x h) (pj_area C P) (fun r2 u t H1 lo1 ht hvm hp hB hz hk hS => ?_)
  obtain ⟨rfl, rfl⟩ := hp
  exact kk H1 lo1 ⟨by rw [← ht]; exact hB, hS⟩
set_option maxHeartbeats 2000000 in
theorem pj_cSl {B : pj_B} {A : Nat → Prop} {K : pj_K} {cc : ByteArray} {nL : Nat} {own : String} {lvl : Nat} {H : Heap} {lo : List Loc} {ls : Array Slot} {st : List Value} {pc q : Nat} {y : MethodName} {c2 : ByteArray} {n2 lv2 na idx : Nat} {ret : Option FieldType} {z z2 : pj_S} {r : Int64} (As : List Value) (C : pj_C B A K cc nL own lvl) (P : pj_P B A K z H lo) (hM : pj_Ml K.2.1 y c2 n2 ret lv2 As B z r z2) (g : pj_gS own idx y c2 n2 ret na) (hna : As.length = na) (hl : lv2 + 1 ≤ lvl) (hn : n2 ≤ 45) (hls : ls.size = nL) (hst : (st.map fun v => v.category).sum ≤ 8) (d : pj_d cc pc (.invokestatic idx) 3 q) (kk : ∀ (H2 : Heap) (lo2 : List Loc), pj_P B A K z2 H2 lo2 → pj_W K H2 lo2 q ls (.long r :: st)) : pj_W K H lo pc ls (As.reverse ++ st) := by
  obtain ⟨d, rfl⟩ := d
  obtain ⟨g1, g2, g4, g5, g6, g7, g8⟩ := g
  have hts := C.2.2.2.2.1
  refine va_calll (va_runS (As := As) (rest := st) ⟨C.1, C.2.1, C.2.2.1, C.2.2.2.1, hts⟩ (hM H.size) ⟨callB_of na hts (pj_good g5) rfl rfl rfl (hts _ g4) (hts _ g1) ⟨g6, g7, g8⟩ (pj_room C hl hn), hts _ g2⟩ ⟨pj_Pre.blind, fun U hU hW => pj_pre C P hU hW _⟩ rfl hna hls rfl (lv_room hst) d C.2.2.2.2.2.2.2.2.2.1) P.2 (fun x _ h => pj_area C P x h) (pj_area C P) (fun r2 u t H1 lo1 ht hvm hp hB hz hk hS => ?_)
  obtain ⟨rfl, rfl⟩ := hp
  exact kk H1 lo1 ⟨by rw [← ht]; exact hB, hS⟩
set_option maxHeartbeats 2000000 in
theorem pj_cNl {B : pj_B} {A : Nat → Prop} {K : pj_K} {cc : ByteArray} {nL : Nat} {own : String} {lvl : Nat} {H : Heap} {lo : List Loc} {ls : Array Slot} {st : List Value} {pc q : Nat} {y : MethodName} {c2 : ByteArray} {n2 lv2 na idx : Nat} {ret : Option FieldType} {z z2 : pj_S} {r : Int64} (As : List Value) (C : pj_C B A K cc nL own lvl) (P : pj_P B A K z H lo) (hM : pj_Ml K.2.1 y c2 n2 ret lv2 As B z r z2) (g : pj_gN own idx y c2 n2 ret na) (hna : As.length = na) (hl : lv2 + 1 ≤ lvl) (hn : n2 ≤ 45) (hls : ls.size = nL) (hst : (st.map fun v => v.category).sum ≤ 8) (d : pj_d cc pc (.invokestatic idx) 3 q) (kk : ∀ (H2 : Heap) (lo2 : List Loc), pj_P B A K z2 H2 lo2 → pj_W K H2 lo2 q ls (.long r :: st)) : pj_W K H lo pc ls (As.reverse ++ st) := by
  obtain ⟨d, rfl⟩ := d
  obtain ⟨g1, g2, g4, g5, g6, g7, g8⟩ := g
  have hts := C.2.2.2.2.1
  refine va_calll (va_runSN (As := As) (rest := st) ⟨C.1, C.2.1, C.2.2.1, C.2.2.2.1, hts⟩ (hM H.size) ⟨va_cnB na hts (pj_good g5) rfl rfl rfl (C.2.2.2.2.2.1.2.1 _ g1) (hts _ g4) ⟨g6, g7, g8⟩ (pj_room C hl hn), hts _ g2, trivial⟩ ⟨pj_Pre.blind, fun U hU hW => pj_pre C P hU hW _⟩ rfl hna hls rfl (lv_room hst) d C.2.2.2.2.2.2.2.2.2.1) P.2 (fun x _ h => pj_area C P x h) (pj_area C P) (fun r2 u t H1 lo1 ht hvm hp hB hz hk hS => ?_)
  obtain ⟨rfl, rfl⟩ := hp
  exact kk H1 lo1 ⟨by rw [← ht]; exact hB, hS⟩
set_option maxHeartbeats 2000000 in
theorem pj_cVv {B : pj_B} {A : Nat → Prop} {K : pj_K} {cc : ByteArray} {nL : Nat} {own : String} {lvl : Nat} {H : Heap} {lo : List Loc} {ls : Array Slot} {st : List Value} {pc q : Nat} {y : MethodName} {c2 : ByteArray} {n2 lv2 na idx : Nat} {ret : Option FieldType} {z z2 : pj_S} {r : Unit} {ci : Nat} {l : List (Nat × Nat)} {T : u_T} {N : Nat} (As : List Value) (C : pj_C B A K cc nL own lvl) (P : pj_P B A K z H lo) (k : Nat) (hk : B.2.2.2.1[k]? = some (.inl (ci, l))) (hc : vwCl[ci]? = some (y.cls, T, N)) (hM : pj_Mv K.2.1 y c2 n2 ret lv2 (.ref (B.2.1 k) :: As) B z r z2) (g : pj_gV own idx y c2 n2 ret na) (hna : As.length = na) (hl : lv2 + 1 ≤ lvl) (hn : n2 ≤ 45) (hls : ls.size = nL) (hst : (st.map fun v => v.category).sum ≤ 8) (d : pj_d cc pc (.invokevirtual idx) 3 q) (kk : ∀ (H2 : Heap) (lo2 : List Loc), pj_P B A K z2 H2 lo2 → pj_W K H2 lo2 q ls st) : pj_W K H lo pc ls (As.reverse ++ .ref (B.2.1 k) :: st) := by
  obtain ⟨d, rfl⟩ := d
  obtain ⟨g1, g2, g3, g4, g5, g6, g7, g8⟩ := g
  have hts := C.2.2.2.2.1
  refine va_callv (va_runV (C := y.cls) (As := As) (rest := st) ⟨C.1, C.2.1, C.2.2.1, C.2.2.2.1, hts⟩ (hM H.size) ⟨callB_of na hts (pj_good g5) rfl rfl rfl (hts _ g4) (hts _ g1) ⟨g6, g7, g8⟩ (pj_room C hl hn), hts _ g2, hts _ g3⟩ ⟨pj_Pre.blind, va_recv C.2.2.2.2.2.1.1 P.1 hc (pj_wg hk), fun U hU hW => pj_pre C P hU hW _⟩ rfl hna hls rfl (lv_room hst) d C.2.2.2.2.2.2.2.2.2.1) P.2 (fun x _ h => pj_area C P x h) (pj_area C P) (fun u t H1 lo1 ht hvm hp hB hz hk hS => ?_)
  subst hp
  exact kk H1 lo1 ⟨by rw [← ht]; exact hB, hS⟩
set_option maxHeartbeats 2000000 in
theorem pj_cSv {B : pj_B} {A : Nat → Prop} {K : pj_K} {cc : ByteArray} {nL : Nat} {own : String} {lvl : Nat} {H : Heap} {lo : List Loc} {ls : Array Slot} {st : List Value} {pc q : Nat} {y : MethodName} {c2 : ByteArray} {n2 lv2 na idx : Nat} {ret : Option FieldType} {z z2 : pj_S} {r : Unit} (As : List Value) (C : pj_C B A K cc nL own lvl) (P : pj_P B A K z H lo) (hM : pj_Mv K.2.1 y c2 n2 ret lv2 As B z r z2) (g : pj_gS own idx y c2 n2 ret na) (hna : As.length = na) (hl : lv2 + 1 ≤ lvl) (hn : n2 ≤ 45) (hls : ls.size = nL) (hst : (st.map fun v => v.category).sum ≤ 8) (d : pj_d cc pc (.invokestatic idx) 3 q) (kk : ∀ (H2 : Heap) (lo2 : List Loc), pj_P B A K z2 H2 lo2 → pj_W K H2 lo2 q ls st) : pj_W K H lo pc ls (As.reverse ++ st) := by
  obtain ⟨d, rfl⟩ := d
  obtain ⟨g1, g2, g4, g5, g6, g7, g8⟩ := g
  have hts := C.2.2.2.2.1
  refine va_callv (va_runS (As := As) (rest := st) ⟨C.1, C.2.1, C.2.2.1, C.2.2.2.1, hts⟩ (hM H.size) ⟨callB_of na hts (pj_good g5) rfl rfl rfl (hts _ g4) (hts _ g1) ⟨g6, g7, g8⟩ (pj_room C hl hn), hts _ g2⟩ ⟨pj_Pre.blind, fun U hU hW => pj_pre C P hU hW _⟩ rfl hna hls rfl (lv_room hst) d C.2.2.2.2.2.2.2.2.2.1) P.2 (fun x _ h => pj_area C P x h) (pj_area C P) (fun u t H1 lo1 ht hvm hp hB hz hk hS => ?_)
  subst hp
  exact kk H1 lo1 ⟨by rw [← ht]; exact hB, hS⟩
set_option maxHeartbeats 2000000 in
theorem pj_cNv {B : pj_B} {A : Nat → Prop} {K : pj_K} {cc : ByteArray} {nL : Nat} {own : String} {lvl : Nat} {H : Heap} {lo : List Loc} {ls : Array Slot} {st : List Value} {pc q : Nat} {y : MethodName} {c2 : ByteArray} {n2 lv2 na idx : Nat} {ret : Option FieldType} {z z2 : pj_S} {r : Unit} (As : List Value) (C : pj_C B A K cc nL own lvl) (P : pj_P B A K z H lo) (hM : pj_Mv K.2.1 y c2 n2 ret lv2 As B z r z2) (g : pj_gN own idx y c2 n2 ret na) (hna : As.length = na) (hl : lv2 + 1 ≤ lvl) (hn : n2 ≤ 45) (hls : ls.size = nL) (hst : (st.map fun v => v.category).sum ≤ 8) (d : pj_d cc pc (.invokestatic idx) 3 q) (kk : ∀ (H2 : Heap) (lo2 : List Loc), pj_P B A K z2 H2 lo2 → pj_W K H2 lo2 q ls st) : pj_W K H lo pc ls (As.reverse ++ st) := by
  obtain ⟨d, rfl⟩ := d
  obtain ⟨g1, g2, g4, g5, g6, g7, g8⟩ := g
  have hts := C.2.2.2.2.1
  refine va_callv (va_runSN (As := As) (rest := st) ⟨C.1, C.2.1, C.2.2.1, C.2.2.2.1, hts⟩ (hM H.size) ⟨va_cnB na hts (pj_good g5) rfl rfl rfl (C.2.2.2.2.2.1.2.1 _ g1) (hts _ g4) ⟨g6, g7, g8⟩ (pj_room C hl hn), hts _ g2, trivial⟩ ⟨pj_Pre.blind, fun U hU hW => pj_pre C P hU hW _⟩ rfl hna hls rfl (lv_room hst) d C.2.2.2.2.2.2.2.2.2.1) P.2 (fun x _ h => pj_area C P x h) (pj_area C P) (fun u t H1 lo1 ht hvm hp hB hz hk hS => ?_)
  subst hp
  exact kk H1 lo1 ⟨by rw [← ht]; exact hB, hS⟩
theorem pj_mmin {B : pj_B} {A : Nat → Prop} {K : pj_K} {cc : ByteArray} {nL : Nat} {own : String} {lvl : Nat} {H : Heap} {lo : List Loc} {ls : Array Slot} {st : List Value} {pc q : Nat} {x y : Int32} {idx na : Nat} (C : pj_C B A K cc nL own lvl) (g : pj_gS own idx Lib.Math.min.name Lib.Math.min.code 2 (some .int) na) (hlv : 1 ≤ lvl) (hls : ls.size = nL) (hst : (st.map fun v => v.category).sum ≤ 8) (d : pj_d cc pc (.invokestatic idx) 3 q) (k : pj_W K H lo q ls (.int (pj_min x y) :: st)) : pj_W K H lo pc ls (.int y :: .int x :: st) := by
  obtain ⟨d, rfl⟩ := d
  obtain ⟨g1, g2, g4, g5, g6, g7, g8⟩ := g
  have hts := C.2.2.2.2.1
  obtain ⟨r1, r2⟩ := C.2.2.2.2.2.2.2.2.2.2
  exact va_mmin C.1 C.2.1 (by rw [hls]; exact C.2.2.1) C.2.2.2.1 (hts _ g1) (hts _ g2) (hts _ g4) (hts _ g5) (Nat.le_trans hlv r1) (by omega) C.2.2.2.2.2.2.2.2.2.1.1 C.2.2.2.2.2.2.2.2.2.1.2 d k
theorem pj_mmax {B : pj_B} {A : Nat → Prop} {K : pj_K} {cc : ByteArray} {nL : Nat} {own : String} {lvl : Nat} {H : Heap} {lo : List Loc} {ls : Array Slot} {st : List Value} {pc q : Nat} {x y : Int32} {idx na : Nat} (C : pj_C B A K cc nL own lvl) (g : pj_gS own idx Lib.Math.max.name Lib.Math.max.code 2 (some .int) na) (hlv : 1 ≤ lvl) (hls : ls.size = nL) (hst : (st.map fun v => v.category).sum ≤ 8) (d : pj_d cc pc (.invokestatic idx) 3 q) (k : pj_W K H lo q ls (.int (pj_max x y) :: st)) : pj_W K H lo pc ls (.int y :: .int x :: st) := by
  obtain ⟨d, rfl⟩ := d
  obtain ⟨g1, g2, g4, g5, g6, g7, g8⟩ := g
  have hts := C.2.2.2.2.1
  obtain ⟨r1, r2⟩ := C.2.2.2.2.2.2.2.2.2.2
  exact va_mmax C.1 C.2.1 (by rw [hls]; exact C.2.2.1) C.2.2.2.1 (hts _ g1) (hts _ g2) (hts _ g4) (hts _ g5) (Nat.le_trans hlv r1) (by omega) C.2.2.2.2.2.2.2.2.2.1.1 C.2.2.2.2.2.2.2.2.2.1.2 d k
end
section
theorem pj_m1 (i : Nat) {w : Cond} (h : tables_1_1[i]? = some w) (g : goodWord w = true) : w ∈ pj_tbl := by
  have h := List.mem_of_getElem? h
  exact List.mem_filter.mpr ⟨List.mem_append_right _ (List.mem_append_left _ h), g⟩
theorem pj_m2 (i : Nat) {w : Cond} (h : tables_1_2[i]? = some w) (g : goodWord w = true) : w ∈ pj_tbl := by
  have h := List.mem_of_getElem? h
  exact List.mem_filter.mpr ⟨List.mem_append_right _ (List.mem_append_right _ (List.mem_append_left _ h)), g⟩
theorem pj_m3 (i : Nat) {w : Cond} (h : tables_1_3[i]? = some w) (g : goodWord w = true) : w ∈ pj_tbl := by
  have h := List.mem_of_getElem? h
  exact List.mem_filter.mpr ⟨List.mem_append_right _ (List.mem_append_right _ (List.mem_append_right _ (List.mem_append_left _ h))), g⟩
theorem pj_m4 (i : Nat) {w : Cond} (h : tables_1_4[i]? = some w) (g : goodWord w = true) : w ∈ pj_tbl := by
  have h := List.mem_of_getElem? h
  exact List.mem_filter.mpr ⟨List.mem_append_right _ (List.mem_append_right _ (List.mem_append_right _ (List.mem_append_right _ (List.mem_append_left _ h)))), g⟩
theorem pj_m5 (i : Nat) {w : Cond} (h : tables_1_5[i]? = some w) (g : goodWord w = true) : w ∈ pj_tbl := by
  have h := List.mem_of_getElem? h
  exact List.mem_filter.mpr ⟨List.mem_append_right _ (List.mem_append_right _ (List.mem_append_right _ (List.mem_append_right _ (List.mem_append_right _ (List.mem_append_left _ h))))), g⟩
theorem pj_m6 (i : Nat) {w : Cond} (h : tables_1_6[i]? = some w) (g : goodWord w = true) : w ∈ pj_tbl := by
  have h := List.mem_of_getElem? h
  exact List.mem_filter.mpr ⟨List.mem_append_right _ (List.mem_append_right _ (List.mem_append_right _ (List.mem_append_right _ (List.mem_append_right _ (List.mem_append_right _ (h)))))), g⟩
def pj_LC : List pj_Y := [.inl (10, [(2, 1), (2, 2), (2, 3), (2, 4), (2, 5), (2, 6), (2, 7), (0, 0)]), .inl (8, [(2, 8), (2, 9), (2, 10), (2, 11), (0, 0), (0, 0)]), .inl (8, [(2, 12), (2, 13), (2, 14), (2, 15), (0, 0), (0, 0)]), .inl (4, [(2, 16), (2, 17), (2, 18), (2, 19), (2, 20), (2, 21), (2, 22), (0, 0), (0, 0)]), .inl (7, [(2, 23), (0, 0)]), .inl (3, [(2, 24), (2, 25), (2, 26), (2, 27), (0, 0), (0, 0), (0, 0), (0, 0), (0, 0), (0, 0)]), .inl (5, [(2, 28), (0, 0), (0, 0), (1, 0), (1, 0)]), .inl (6, [(0, 0), (1, 0)]), .inl (1, [(0, 0), (0, 0), (0, 0), (1, 0), (1, 0), (1, 0), (1, 0), (1, 0), (1, 0), (1, 0)]), .inl (2, [(2, 29), (2, 30), (0, 0), (0, 0), (0, 0)]), .inl (0, [(2, 31), (2, 32), (2, 33), (0, 0)]), .inl (9, [(2, 34), (0, 0)]), .inl (1, [(0, 0), (0, 0), (0, 0), (1, 0), (1, 0), (1, 0), (1, 0), (1, 0), (1, 0), (1, 0)]), .inl (2, [(2, 35), (2, 36), (0, 0), (0, 0), (0, 0)]), .inl (0, [(2, 37), (2, 38), (2, 39), (0, 0)]), .inl (9, [(2, 40), (0, 0)]), .inr (8, 1), .inr (8, 1), .inr (8, 1), .inr (8, 0), .inr (8, 0), .inr (8, 0), .inr (8, 0), .inr (400, 2), .inr (401, 0), .inr (401, 0), .inr (401, 0), .inr (400, 0), .inr (36, 0), .inr (400, 0), .inr (64, 0), .inr (100, 0), .inr (100, 0), .inr (100, 0), .inr (20, 0), .inr (400, 0), .inr (64, 0), .inr (100, 0), .inr (100, 0), .inr (100, 0), .inr (20, 0)]
theorem LC0 {B : pj_B} (hB : B.2.2.2.1 = pj_LC) : B.2.2.2.1[0]? = some (.inl (10, [(2, 1), (2, 2), (2, 3), (2, 4), (2, 5), (2, 6), (2, 7), (0, 0)])) := by rw [hB]; rfl
theorem LC1 {B : pj_B} (hB : B.2.2.2.1 = pj_LC) : B.2.2.2.1[1]? = some (.inl (8, [(2, 8), (2, 9), (2, 10), (2, 11), (0, 0), (0, 0)])) := by rw [hB]; rfl
theorem LC2 {B : pj_B} (hB : B.2.2.2.1 = pj_LC) : B.2.2.2.1[2]? = some (.inl (8, [(2, 12), (2, 13), (2, 14), (2, 15), (0, 0), (0, 0)])) := by rw [hB]; rfl
theorem LC3 {B : pj_B} (hB : B.2.2.2.1 = pj_LC) : B.2.2.2.1[3]? = some (.inl (4, [(2, 16), (2, 17), (2, 18), (2, 19), (2, 20), (2, 21), (2, 22), (0, 0), (0, 0)])) := by rw [hB]; rfl
theorem LC4 {B : pj_B} (hB : B.2.2.2.1 = pj_LC) : B.2.2.2.1[4]? = some (.inl (7, [(2, 23), (0, 0)])) := by rw [hB]; rfl
theorem LC5 {B : pj_B} (hB : B.2.2.2.1 = pj_LC) : B.2.2.2.1[5]? = some (.inl (3, [(2, 24), (2, 25), (2, 26), (2, 27), (0, 0), (0, 0), (0, 0), (0, 0), (0, 0), (0, 0)])) := by rw [hB]; rfl
theorem LC6 {B : pj_B} (hB : B.2.2.2.1 = pj_LC) : B.2.2.2.1[6]? = some (.inl (5, [(2, 28), (0, 0), (0, 0), (1, 0), (1, 0)])) := by rw [hB]; rfl
theorem LC7 {B : pj_B} (hB : B.2.2.2.1 = pj_LC) : B.2.2.2.1[7]? = some (.inl (6, [(0, 0), (1, 0)])) := by rw [hB]; rfl
theorem LC8 {B : pj_B} (hB : B.2.2.2.1 = pj_LC) : B.2.2.2.1[8]? = some (.inl (1, [(0, 0), (0, 0), (0, 0), (1, 0), (1, 0), (1, 0), (1, 0), (1, 0), (1, 0), (1, 0)])) := by rw [hB]; rfl
theorem LC9 {B : pj_B} (hB : B.2.2.2.1 = pj_LC) : B.2.2.2.1[9]? = some (.inl (2, [(2, 29), (2, 30), (0, 0), (0, 0), (0, 0)])) := by rw [hB]; rfl
theorem LC10 {B : pj_B} (hB : B.2.2.2.1 = pj_LC) : B.2.2.2.1[10]? = some (.inl (0, [(2, 31), (2, 32), (2, 33), (0, 0)])) := by rw [hB]; rfl
theorem LC11 {B : pj_B} (hB : B.2.2.2.1 = pj_LC) : B.2.2.2.1[11]? = some (.inl (9, [(2, 34), (0, 0)])) := by rw [hB]; rfl
theorem LC12 {B : pj_B} (hB : B.2.2.2.1 = pj_LC) : B.2.2.2.1[12]? = some (.inl (1, [(0, 0), (0, 0), (0, 0), (1, 0), (1, 0), (1, 0), (1, 0), (1, 0), (1, 0), (1, 0)])) := by rw [hB]; rfl
theorem LC13 {B : pj_B} (hB : B.2.2.2.1 = pj_LC) : B.2.2.2.1[13]? = some (.inl (2, [(2, 35), (2, 36), (0, 0), (0, 0), (0, 0)])) := by rw [hB]; rfl
theorem LC14 {B : pj_B} (hB : B.2.2.2.1 = pj_LC) : B.2.2.2.1[14]? = some (.inl (0, [(2, 37), (2, 38), (2, 39), (0, 0)])) := by rw [hB]; rfl
theorem LC15 {B : pj_B} (hB : B.2.2.2.1 = pj_LC) : B.2.2.2.1[15]? = some (.inl (9, [(2, 40), (0, 0)])) := by rw [hB]; rfl
theorem LC16 {B : pj_B} (hB : B.2.2.2.1 = pj_LC) : B.2.2.2.1[16]? = some (.inr (8, 1)) := by rw [hB]; rfl
theorem LC17 {B : pj_B} (hB : B.2.2.2.1 = pj_LC) : B.2.2.2.1[17]? = some (.inr (8, 1)) := by rw [hB]; rfl
theorem LC18 {B : pj_B} (hB : B.2.2.2.1 = pj_LC) : B.2.2.2.1[18]? = some (.inr (8, 1)) := by rw [hB]; rfl
theorem LC19 {B : pj_B} (hB : B.2.2.2.1 = pj_LC) : B.2.2.2.1[19]? = some (.inr (8, 0)) := by rw [hB]; rfl
theorem LC20 {B : pj_B} (hB : B.2.2.2.1 = pj_LC) : B.2.2.2.1[20]? = some (.inr (8, 0)) := by rw [hB]; rfl
theorem LC21 {B : pj_B} (hB : B.2.2.2.1 = pj_LC) : B.2.2.2.1[21]? = some (.inr (8, 0)) := by rw [hB]; rfl
theorem LC22 {B : pj_B} (hB : B.2.2.2.1 = pj_LC) : B.2.2.2.1[22]? = some (.inr (8, 0)) := by rw [hB]; rfl
theorem LC23 {B : pj_B} (hB : B.2.2.2.1 = pj_LC) : B.2.2.2.1[23]? = some (.inr (400, 2)) := by rw [hB]; rfl
theorem LC24 {B : pj_B} (hB : B.2.2.2.1 = pj_LC) : B.2.2.2.1[24]? = some (.inr (401, 0)) := by rw [hB]; rfl
theorem LC25 {B : pj_B} (hB : B.2.2.2.1 = pj_LC) : B.2.2.2.1[25]? = some (.inr (401, 0)) := by rw [hB]; rfl
theorem LC26 {B : pj_B} (hB : B.2.2.2.1 = pj_LC) : B.2.2.2.1[26]? = some (.inr (401, 0)) := by rw [hB]; rfl
theorem LC27 {B : pj_B} (hB : B.2.2.2.1 = pj_LC) : B.2.2.2.1[27]? = some (.inr (400, 0)) := by rw [hB]; rfl
theorem LC28 {B : pj_B} (hB : B.2.2.2.1 = pj_LC) : B.2.2.2.1[28]? = some (.inr (36, 0)) := by rw [hB]; rfl
theorem LC29 {B : pj_B} (hB : B.2.2.2.1 = pj_LC) : B.2.2.2.1[29]? = some (.inr (400, 0)) := by rw [hB]; rfl
theorem LC30 {B : pj_B} (hB : B.2.2.2.1 = pj_LC) : B.2.2.2.1[30]? = some (.inr (64, 0)) := by rw [hB]; rfl
theorem LC31 {B : pj_B} (hB : B.2.2.2.1 = pj_LC) : B.2.2.2.1[31]? = some (.inr (100, 0)) := by rw [hB]; rfl
theorem LC32 {B : pj_B} (hB : B.2.2.2.1 = pj_LC) : B.2.2.2.1[32]? = some (.inr (100, 0)) := by rw [hB]; rfl
theorem LC33 {B : pj_B} (hB : B.2.2.2.1 = pj_LC) : B.2.2.2.1[33]? = some (.inr (100, 0)) := by rw [hB]; rfl
theorem LC34 {B : pj_B} (hB : B.2.2.2.1 = pj_LC) : B.2.2.2.1[34]? = some (.inr (20, 0)) := by rw [hB]; rfl
theorem LC35 {B : pj_B} (hB : B.2.2.2.1 = pj_LC) : B.2.2.2.1[35]? = some (.inr (400, 0)) := by rw [hB]; rfl
theorem LC36 {B : pj_B} (hB : B.2.2.2.1 = pj_LC) : B.2.2.2.1[36]? = some (.inr (64, 0)) := by rw [hB]; rfl
theorem LC37 {B : pj_B} (hB : B.2.2.2.1 = pj_LC) : B.2.2.2.1[37]? = some (.inr (100, 0)) := by rw [hB]; rfl
theorem LC38 {B : pj_B} (hB : B.2.2.2.1 = pj_LC) : B.2.2.2.1[38]? = some (.inr (100, 0)) := by rw [hB]; rfl
theorem LC39 {B : pj_B} (hB : B.2.2.2.1 = pj_LC) : B.2.2.2.1[39]? = some (.inr (100, 0)) := by rw [hB]; rfl
theorem LC40 {B : pj_B} (hB : B.2.2.2.1 = pj_LC) : B.2.2.2.1[40]? = some (.inr (20, 0)) := by rw [hB]; rfl
def pj_LM : List pj_Y := [.inl (11, [(2, 1), (2, 2), (2, 3), (0, 0), (0, 0), (2, 4), (2, 5), (2, 6), (2, 7), (2, 8), (0, 0), (0, 0), (0, 0), (0, 0), (0, 0), (0, 0), (0, 0), (0, 0), (0, 0), (0, 0), (0, 0), (0, 0), (2, 9), (2, 10), (2, 11), (2, 12), (0, 0), (0, 0), (0, 0), (2, 13), (2, 14), (2, 15), (0, 0)]), .inr (1554, 0), .inr (1554, 0), .inr (1568, 0), .inr (48, 0), .inr (820, 0), .inr (400, 0), .inr (420, 0), .inr (8, 0), .inr (64, 0), .inr (64, 0), .inr (64, 0), .inr (64, 0), .inr (64, 0), .inr (3, 0), .inr (3, 0)]
theorem LM0 {B : pj_B} (hB : B.2.2.2.1 = pj_LM) : B.2.2.2.1[0]? = some (.inl (11, [(2, 1), (2, 2), (2, 3), (0, 0), (0, 0), (2, 4), (2, 5), (2, 6), (2, 7), (2, 8), (0, 0), (0, 0), (0, 0), (0, 0), (0, 0), (0, 0), (0, 0), (0, 0), (0, 0), (0, 0), (0, 0), (0, 0), (2, 9), (2, 10), (2, 11), (2, 12), (0, 0), (0, 0), (0, 0), (2, 13), (2, 14), (2, 15), (0, 0)])) := by rw [hB]; rfl
theorem LM1 {B : pj_B} (hB : B.2.2.2.1 = pj_LM) : B.2.2.2.1[1]? = some (.inr (1554, 0)) := by rw [hB]; rfl
theorem LM2 {B : pj_B} (hB : B.2.2.2.1 = pj_LM) : B.2.2.2.1[2]? = some (.inr (1554, 0)) := by rw [hB]; rfl
theorem LM3 {B : pj_B} (hB : B.2.2.2.1 = pj_LM) : B.2.2.2.1[3]? = some (.inr (1568, 0)) := by rw [hB]; rfl
theorem LM4 {B : pj_B} (hB : B.2.2.2.1 = pj_LM) : B.2.2.2.1[4]? = some (.inr (48, 0)) := by rw [hB]; rfl
theorem LM5 {B : pj_B} (hB : B.2.2.2.1 = pj_LM) : B.2.2.2.1[5]? = some (.inr (820, 0)) := by rw [hB]; rfl
theorem LM6 {B : pj_B} (hB : B.2.2.2.1 = pj_LM) : B.2.2.2.1[6]? = some (.inr (400, 0)) := by rw [hB]; rfl
theorem LM7 {B : pj_B} (hB : B.2.2.2.1 = pj_LM) : B.2.2.2.1[7]? = some (.inr (420, 0)) := by rw [hB]; rfl
theorem LM8 {B : pj_B} (hB : B.2.2.2.1 = pj_LM) : B.2.2.2.1[8]? = some (.inr (8, 0)) := by rw [hB]; rfl
theorem LM9 {B : pj_B} (hB : B.2.2.2.1 = pj_LM) : B.2.2.2.1[9]? = some (.inr (64, 0)) := by rw [hB]; rfl
theorem LM10 {B : pj_B} (hB : B.2.2.2.1 = pj_LM) : B.2.2.2.1[10]? = some (.inr (64, 0)) := by rw [hB]; rfl
theorem LM11 {B : pj_B} (hB : B.2.2.2.1 = pj_LM) : B.2.2.2.1[11]? = some (.inr (64, 0)) := by rw [hB]; rfl
theorem LM12 {B : pj_B} (hB : B.2.2.2.1 = pj_LM) : B.2.2.2.1[12]? = some (.inr (64, 0)) := by rw [hB]; rfl
theorem LM13 {B : pj_B} (hB : B.2.2.2.1 = pj_LM) : B.2.2.2.1[13]? = some (.inr (64, 0)) := by rw [hB]; rfl
theorem LM14 {B : pj_B} (hB : B.2.2.2.1 = pj_LM) : B.2.2.2.1[14]? = some (.inr (3, 0)) := by rw [hB]; rfl
theorem LM15 {B : pj_B} (hB : B.2.2.2.1 = pj_LM) : B.2.2.2.1[15]? = some (.inr (3, 0)) := by rw [hB]; rfl
theorem pj_lp0_0 {ρ : Type} {F : (pj_S → Option ρ) → pj_S → Option ρ}  {z : pj_S} : pj_lp0 F 0  z = none := rfl
theorem pj_lp0_s {ρ : Type} {F : (pj_S → Option ρ) → pj_S → Option ρ} {n : Nat}  {z : pj_S} : pj_lp0 F (n + 1)  z = F (pj_lp0 F n)  z := rfl
theorem pj_lp1_0 {α0 ρ : Type} {F : (α0 → pj_S → Option ρ) → α0 → pj_S → Option ρ} {a0 : α0} {z : pj_S} : pj_lp1 F 0 a0 z = none := rfl
theorem pj_lp1_s {α0 ρ : Type} {F : (α0 → pj_S → Option ρ) → α0 → pj_S → Option ρ} {n : Nat} {a0 : α0} {z : pj_S} : pj_lp1 F (n + 1) a0 z = F (pj_lp1 F n) a0 z := rfl
theorem pj_lp2_0 {α0 α1 ρ : Type} {F : (α0 → α1 → pj_S → Option ρ) → α0 → α1 → pj_S → Option ρ} {a0 : α0} {a1 : α1} {z : pj_S} : pj_lp2 F 0 a0 a1 z = none := rfl
theorem pj_lp2_s {α0 α1 ρ : Type} {F : (α0 → α1 → pj_S → Option ρ) → α0 → α1 → pj_S → Option ρ} {n : Nat} {a0 : α0} {a1 : α1} {z : pj_S} : pj_lp2 F (n + 1) a0 a1 z = F (pj_lp2 F n) a0 a1 z := rfl
theorem pj_lp3_0 {α0 α1 α2 ρ : Type} {F : (α0 → α1 → α2 → pj_S → Option ρ) → α0 → α1 → α2 → pj_S → Option ρ} {a0 : α0} {a1 : α1} {a2 : α2} {z : pj_S} : pj_lp3 F 0 a0 a1 a2 z = none := rfl
theorem pj_lp3_s {α0 α1 α2 ρ : Type} {F : (α0 → α1 → α2 → pj_S → Option ρ) → α0 → α1 → α2 → pj_S → Option ρ} {n : Nat} {a0 : α0} {a1 : α1} {a2 : α2} {z : pj_S} : pj_lp3 F (n + 1) a0 a1 a2 z = F (pj_lp3 F n) a0 a1 a2 z := rfl
theorem pj_lp4_0 {α0 α1 α2 α3 ρ : Type} {F : (α0 → α1 → α2 → α3 → pj_S → Option ρ) → α0 → α1 → α2 → α3 → pj_S → Option ρ} {a0 : α0} {a1 : α1} {a2 : α2} {a3 : α3} {z : pj_S} : pj_lp4 F 0 a0 a1 a2 a3 z = none := rfl
theorem pj_lp4_s {α0 α1 α2 α3 ρ : Type} {F : (α0 → α1 → α2 → α3 → pj_S → Option ρ) → α0 → α1 → α2 → α3 → pj_S → Option ρ} {n : Nat} {a0 : α0} {a1 : α1} {a2 : α2} {a3 : α3} {z : pj_S} : pj_lp4 F (n + 1) a0 a1 a2 a3 z = F (pj_lp4 F n) a0 a1 a2 a3 z := rfl
theorem pj_lp5_0 {α0 α1 α2 α3 α4 ρ : Type} {F : (α0 → α1 → α2 → α3 → α4 → pj_S → Option ρ) → α0 → α1 → α2 → α3 → α4 → pj_S → Option ρ} {a0 : α0} {a1 : α1} {a2 : α2} {a3 : α3} {a4 : α4} {z : pj_S} : pj_lp5 F 0 a0 a1 a2 a3 a4 z = none := rfl
theorem pj_lp5_s {α0 α1 α2 α3 α4 ρ : Type} {F : (α0 → α1 → α2 → α3 → α4 → pj_S → Option ρ) → α0 → α1 → α2 → α3 → α4 → pj_S → Option ρ} {n : Nat} {a0 : α0} {a1 : α1} {a2 : α2} {a3 : α3} {a4 : α4} {z : pj_S} : pj_lp5 F (n + 1) a0 a1 a2 a3 a4 z = F (pj_lp5 F n) a0 a1 a2 a3 a4 z := rfl
theorem pj_lp6_0 {α0 α1 α2 α3 α4 α5 ρ : Type} {F : (α0 → α1 → α2 → α3 → α4 → α5 → pj_S → Option ρ) → α0 → α1 → α2 → α3 → α4 → α5 → pj_S → Option ρ} {a0 : α0} {a1 : α1} {a2 : α2} {a3 : α3} {a4 : α4} {a5 : α5} {z : pj_S} : pj_lp6 F 0 a0 a1 a2 a3 a4 a5 z = none := rfl
theorem pj_lp6_s {α0 α1 α2 α3 α4 α5 ρ : Type} {F : (α0 → α1 → α2 → α3 → α4 → α5 → pj_S → Option ρ) → α0 → α1 → α2 → α3 → α4 → α5 → pj_S → Option ρ} {n : Nat} {a0 : α0} {a1 : α1} {a2 : α2} {a3 : α3} {a4 : α4} {a5 : α5} {z : pj_S} : pj_lp6 F (n + 1) a0 a1 a2 a3 a4 a5 z = F (pj_lp6 F n) a0 a1 a2 a3 a4 a5 z := rfl
theorem pj_lp7_0 {α0 α1 α2 α3 α4 α5 α6 ρ : Type} {F : (α0 → α1 → α2 → α3 → α4 → α5 → α6 → pj_S → Option ρ) → α0 → α1 → α2 → α3 → α4 → α5 → α6 → pj_S → Option ρ} {a0 : α0} {a1 : α1} {a2 : α2} {a3 : α3} {a4 : α4} {a5 : α5} {a6 : α6} {z : pj_S} : pj_lp7 F 0 a0 a1 a2 a3 a4 a5 a6 z = none := rfl
theorem pj_lp7_s {α0 α1 α2 α3 α4 α5 α6 ρ : Type} {F : (α0 → α1 → α2 → α3 → α4 → α5 → α6 → pj_S → Option ρ) → α0 → α1 → α2 → α3 → α4 → α5 → α6 → pj_S → Option ρ} {n : Nat} {a0 : α0} {a1 : α1} {a2 : α2} {a3 : α3} {a4 : α4} {a5 : α5} {a6 : α6} {z : pj_S} : pj_lp7 F (n + 1) a0 a1 a2 a3 a4 a5 a6 z = F (pj_lp7 F n) a0 a1 a2 a3 a4 a5 a6 z := rfl
theorem pj_lp8_0 {α0 α1 α2 α3 α4 α5 α6 α7 ρ : Type} {F : (α0 → α1 → α2 → α3 → α4 → α5 → α6 → α7 → pj_S → Option ρ) → α0 → α1 → α2 → α3 → α4 → α5 → α6 → α7 → pj_S → Option ρ} {a0 : α0} {a1 : α1} {a2 : α2} {a3 : α3} {a4 : α4} {a5 : α5} {a6 : α6} {a7 : α7} {z : pj_S} : pj_lp8 F 0 a0 a1 a2 a3 a4 a5 a6 a7 z = none := rfl
theorem pj_lp8_s {α0 α1 α2 α3 α4 α5 α6 α7 ρ : Type} {F : (α0 → α1 → α2 → α3 → α4 → α5 → α6 → α7 → pj_S → Option ρ) → α0 → α1 → α2 → α3 → α4 → α5 → α6 → α7 → pj_S → Option ρ} {n : Nat} {a0 : α0} {a1 : α1} {a2 : α2} {a3 : α3} {a4 : α4} {a5 : α5} {a6 : α6} {a7 : α7} {z : pj_S} : pj_lp8 F (n + 1) a0 a1 a2 a3 a4 a5 a6 a7 z = F (pj_lp8 F n) a0 a1 a2 a3 a4 a5 a6 a7 z := rfl
theorem pj_lp9_0 {α0 α1 α2 α3 α4 α5 α6 α7 α8 ρ : Type} {F : (α0 → α1 → α2 → α3 → α4 → α5 → α6 → α7 → α8 → pj_S → Option ρ) → α0 → α1 → α2 → α3 → α4 → α5 → α6 → α7 → α8 → pj_S → Option ρ} {a0 : α0} {a1 : α1} {a2 : α2} {a3 : α3} {a4 : α4} {a5 : α5} {a6 : α6} {a7 : α7} {a8 : α8} {z : pj_S} : pj_lp9 F 0 a0 a1 a2 a3 a4 a5 a6 a7 a8 z = none := rfl
theorem pj_lp9_s {α0 α1 α2 α3 α4 α5 α6 α7 α8 ρ : Type} {F : (α0 → α1 → α2 → α3 → α4 → α5 → α6 → α7 → α8 → pj_S → Option ρ) → α0 → α1 → α2 → α3 → α4 → α5 → α6 → α7 → α8 → pj_S → Option ρ} {n : Nat} {a0 : α0} {a1 : α1} {a2 : α2} {a3 : α3} {a4 : α4} {a5 : α5} {a6 : α6} {a7 : α7} {a8 : α8} {z : pj_S} : pj_lp9 F (n + 1) a0 a1 a2 a3 a4 a5 a6 a7 a8 z = F (pj_lp9 F n) a0 a1 a2 a3 a4 a5 a6 a7 a8 z := rfl
theorem pj_lp10_0 {α0 α1 α2 α3 α4 α5 α6 α7 α8 α9 ρ : Type} {F : (α0 → α1 → α2 → α3 → α4 → α5 → α6 → α7 → α8 → α9 → pj_S → Option ρ) → α0 → α1 → α2 → α3 → α4 → α5 → α6 → α7 → α8 → α9 → pj_S → Option ρ} {a0 : α0} {a1 : α1} {a2 : α2} {a3 : α3} {a4 : α4} {a5 : α5} {a6 : α6} {a7 : α7} {a8 : α8} {a9 : α9} {z : pj_S} : pj_lp10 F 0 a0 a1 a2 a3 a4 a5 a6 a7 a8 a9 z = none := rfl
theorem pj_lp10_s {α0 α1 α2 α3 α4 α5 α6 α7 α8 α9 ρ : Type} {F : (α0 → α1 → α2 → α3 → α4 → α5 → α6 → α7 → α8 → α9 → pj_S → Option ρ) → α0 → α1 → α2 → α3 → α4 → α5 → α6 → α7 → α8 → α9 → pj_S → Option ρ} {n : Nat} {a0 : α0} {a1 : α1} {a2 : α2} {a3 : α3} {a4 : α4} {a5 : α5} {a6 : α6} {a7 : α7} {a8 : α8} {a9 : α9} {z : pj_S} : pj_lp10 F (n + 1) a0 a1 a2 a3 a4 a5 a6 a7 a8 a9 z = F (pj_lp10 F n) a0 a1 a2 a3 a4 a5 a6 a7 a8 a9 z := rfl
theorem pj_lp11_0 {α0 α1 α2 α3 α4 α5 α6 α7 α8 α9 α10 ρ : Type} {F : (α0 → α1 → α2 → α3 → α4 → α5 → α6 → α7 → α8 → α9 → α10 → pj_S → Option ρ) → α0 → α1 → α2 → α3 → α4 → α5 → α6 → α7 → α8 → α9 → α10 → pj_S → Option ρ} {a0 : α0} {a1 : α1} {a2 : α2} {a3 : α3} {a4 : α4} {a5 : α5} {a6 : α6} {a7 : α7} {a8 : α8} {a9 : α9} {a10 : α10} {z : pj_S} : pj_lp11 F 0 a0 a1 a2 a3 a4 a5 a6 a7 a8 a9 a10 z = none := rfl
theorem pj_lp11_s {α0 α1 α2 α3 α4 α5 α6 α7 α8 α9 α10 ρ : Type} {F : (α0 → α1 → α2 → α3 → α4 → α5 → α6 → α7 → α8 → α9 → α10 → pj_S → Option ρ) → α0 → α1 → α2 → α3 → α4 → α5 → α6 → α7 → α8 → α9 → α10 → pj_S → Option ρ} {n : Nat} {a0 : α0} {a1 : α1} {a2 : α2} {a3 : α3} {a4 : α4} {a5 : α5} {a6 : α6} {a7 : α7} {a8 : α8} {a9 : α9} {a10 : α10} {z : pj_S} : pj_lp11 F (n + 1) a0 a1 a2 a3 a4 a5 a6 a7 a8 a9 a10 z = F (pj_lp11 F n) a0 a1 a2 a3 a4 a5 a6 a7 a8 a9 a10 z := rfl
theorem pj_lp12_0 {α0 α1 α2 α3 α4 α5 α6 α7 α8 α9 α10 α11 ρ : Type} {F : (α0 → α1 → α2 → α3 → α4 → α5 → α6 → α7 → α8 → α9 → α10 → α11 → pj_S → Option ρ) → α0 → α1 → α2 → α3 → α4 → α5 → α6 → α7 → α8 → α9 → α10 → α11 → pj_S → Option ρ} {a0 : α0} {a1 : α1} {a2 : α2} {a3 : α3} {a4 : α4} {a5 : α5} {a6 : α6} {a7 : α7} {a8 : α8} {a9 : α9} {a10 : α10} {a11 : α11} {z : pj_S} : pj_lp12 F 0 a0 a1 a2 a3 a4 a5 a6 a7 a8 a9 a10 a11 z = none := rfl
theorem pj_lp12_s {α0 α1 α2 α3 α4 α5 α6 α7 α8 α9 α10 α11 ρ : Type} {F : (α0 → α1 → α2 → α3 → α4 → α5 → α6 → α7 → α8 → α9 → α10 → α11 → pj_S → Option ρ) → α0 → α1 → α2 → α3 → α4 → α5 → α6 → α7 → α8 → α9 → α10 → α11 → pj_S → Option ρ} {n : Nat} {a0 : α0} {a1 : α1} {a2 : α2} {a3 : α3} {a4 : α4} {a5 : α5} {a6 : α6} {a7 : α7} {a8 : α8} {a9 : α9} {a10 : α10} {a11 : α11} {z : pj_S} : pj_lp12 F (n + 1) a0 a1 a2 a3 a4 a5 a6 a7 a8 a9 a10 a11 z = F (pj_lp12 F n) a0 a1 a2 a3 a4 a5 a6 a7 a8 a9 a10 a11 z := rfl
theorem jf_9 : Cond.fieldLink RJ0 9 "java/lang/String" "value" "[B" ∈ pj_tbl := (pj_m6 137 rfl rfl)
theorem jf_15 : Cond.fieldLink RJ0 15 "java/lang/String" "coder" "B" ∈ pj_tbl := (pj_m6 138 rfl rfl)
theorem jf_38 : Cond.fieldLink RJ0 38 "java/lang/String" "COMPACT_STRINGS" "Z" ∈ pj_tbl := (pj_m3 147 rfl rfl)
theorem jf_1053 : Cond.fieldLink RJ0 1053 "jdk/internal/util/Preconditions" "SIOOBE_FORMATTER" "Ljava/util/function/BiFunction;" ∈ pj_tbl := (pj_m3 163 rfl rfl)
theorem tinX0 : ∀ w ∈ u_ws RX0 TX0 4, w ∈ pj_tbl := fun w h => List.mem_filter.mpr ⟨inX0 w h, (by decide +kernel : ∀ w ∈ wsX00, goodWord w = true) w h⟩
theorem ttyX0 : ∀ k, k < 4 → (parseFieldDescriptor (TX0 k).2.2.1).isSome = true := by decide +kernel
theorem tinX1 : ∀ w ∈ u_ws RX1 TX1 10, w ∈ pj_tbl := fun w h => List.mem_filter.mpr ⟨inX1 w h, (by decide +kernel : ∀ w ∈ wsX10, goodWord w = true) w h⟩
theorem ttyX1 : ∀ k, k < 10 → (parseFieldDescriptor (TX1 k).2.2.1).isSome = true := by decide +kernel
theorem tinX10 : ∀ w ∈ u_ws RX10 TX10 8, w ∈ pj_tbl := fun w h => List.mem_filter.mpr ⟨inX10 w h, (by decide +kernel : ∀ w ∈ wsX100, goodWord w = true) w h⟩
theorem ttyX10 : ∀ k, k < 8 → (parseFieldDescriptor (TX10 k).2.2.1).isSome = true := by decide +kernel
theorem tinX11 : ∀ w ∈ u_ws RX11 TX11 33, w ∈ pj_tbl := fun w h => List.mem_filter.mpr ⟨inX11 w h, (by decide +kernel : ∀ w ∈ wsX110, goodWord w = true) w h⟩
theorem ttyX11 : ∀ k, k < 33 → (parseFieldDescriptor (TX11 k).2.2.1).isSome = true := by decide +kernel
theorem tinX2 : ∀ w ∈ u_ws RX2 TX2 5, w ∈ pj_tbl := fun w h => List.mem_filter.mpr ⟨inX2 w h, (by decide +kernel : ∀ w ∈ wsX20, goodWord w = true) w h⟩
theorem ttyX2 : ∀ k, k < 5 → (parseFieldDescriptor (TX2 k).2.2.1).isSome = true := by decide +kernel
theorem tinX3 : ∀ w ∈ u_ws RX3 TX3 10, w ∈ pj_tbl := fun w h => List.mem_filter.mpr ⟨inX3 w h, (by decide +kernel : ∀ w ∈ wsX30, goodWord w = true) w h⟩
theorem ttyX3 : ∀ k, k < 10 → (parseFieldDescriptor (TX3 k).2.2.1).isSome = true := by decide +kernel
theorem tinX4 : ∀ w ∈ u_ws RX4 TX4 9, w ∈ pj_tbl := fun w h => List.mem_filter.mpr ⟨inX4 w h, (by decide +kernel : ∀ w ∈ wsX40, goodWord w = true) w h⟩
theorem ttyX4 : ∀ k, k < 9 → (parseFieldDescriptor (TX4 k).2.2.1).isSome = true := by decide +kernel
theorem tinX5 : ∀ w ∈ u_ws RX5 TX5 5, w ∈ pj_tbl := fun w h => List.mem_filter.mpr ⟨inX5 w h, (by decide +kernel : ∀ w ∈ wsX50, goodWord w = true) w h⟩
theorem ttyX5 : ∀ k, k < 5 → (parseFieldDescriptor (TX5 k).2.2.1).isSome = true := by decide +kernel
theorem tinX6 : ∀ w ∈ u_ws RX6 TX6 2, w ∈ pj_tbl := fun w h => List.mem_filter.mpr ⟨inX6 w h, (by decide +kernel : ∀ w ∈ wsX60, goodWord w = true) w h⟩
theorem ttyX6 : ∀ k, k < 2 → (parseFieldDescriptor (TX6 k).2.2.1).isSome = true := by decide +kernel
theorem tinX7 : ∀ w ∈ u_ws RX7 TX7 2, w ∈ pj_tbl := fun w h => List.mem_filter.mpr ⟨inX7 w h, (by decide +kernel : ∀ w ∈ wsX70, goodWord w = true) w h⟩
theorem ttyX7 : ∀ k, k < 2 → (parseFieldDescriptor (TX7 k).2.2.1).isSome = true := by decide +kernel
theorem tinX8 : ∀ w ∈ u_ws RX8 TX8 6, w ∈ pj_tbl := fun w h => List.mem_filter.mpr ⟨inX8 w h, (by decide +kernel : ∀ w ∈ wsX80, goodWord w = true) w h⟩
theorem ttyX8 : ∀ k, k < 6 → (parseFieldDescriptor (TX8 k).2.2.1).isSome = true := by decide +kernel
theorem tinX9 : ∀ w ∈ u_ws RX9 TX9 2, w ∈ pj_tbl := fun w h => List.mem_filter.mpr ⟨inX9 w h, (by decide +kernel : ∀ w ∈ wsX90, goodWord w = true) w h⟩
theorem ttyX9 : ∀ k, k < 2 → (parseFieldDescriptor (TX9 k).2.2.1).isSome = true := by decide +kernel
theorem fl_PJ_10 : pj_fl RX10 10 10 0 RX10 TX10 8 := ⟨rfl, by decide, rfl, (pj_m2 89 rfl rfl), tinX10, ttyX10, nmX10⟩
theorem fl_PJ_16 : pj_fl RX10 16 10 1 RX10 TX10 8 := ⟨rfl, by decide, rfl, (pj_m2 90 rfl rfl), tinX10, ttyX10, nmX10⟩
theorem fl_PJ_22 : pj_fl RX10 22 10 2 RX10 TX10 8 := ⟨rfl, by decide, rfl, (pj_m2 91 rfl rfl), tinX10, ttyX10, nmX10⟩
theorem fl_PJ_29 : pj_fl RX10 29 10 3 RX10 TX10 8 := ⟨rfl, by decide, rfl, (pj_m2 92 rfl rfl), tinX10, ttyX10, nmX10⟩
theorem fl_PJ_36 : pj_fl RX10 36 10 4 RX10 TX10 8 := ⟨rfl, by decide, rfl, (pj_m2 93 rfl rfl), tinX10, ttyX10, nmX10⟩
theorem fl_PJ_43 : pj_fl RX10 43 10 5 RX10 TX10 8 := ⟨rfl, by decide, rfl, (pj_m2 94 rfl rfl), tinX10, ttyX10, nmX10⟩
theorem fl_PJ_50 : pj_fl RX10 50 10 6 RX10 TX10 8 := ⟨rfl, by decide, rfl, (pj_m2 95 rfl rfl), tinX10, ttyX10, nmX10⟩
theorem fl_PJ_58 : pj_fl RX10 58 8 5 RX8 TX8 6 := ⟨rfl, by decide, rfl, (pj_m1 165 rfl rfl), tinX8, ttyX8, nmX8⟩
theorem fl_PJ_65 : pj_fl RX10 65 8 0 RX8 TX8 6 := ⟨rfl, by decide, rfl, (pj_m1 153 rfl rfl), tinX8, ttyX8, nmX8⟩
theorem fl_PJ_92 : pj_fl RX10 92 1 9 RX1 TX1 10 := ⟨rfl, by decide, rfl, (pj_m1 64 rfl rfl), tinX1, ttyX1, nmX1⟩
theorem fl_PJ_108 : pj_fl RX10 108 5 1 RX5 TX5 5 := ⟨rfl, by decide, rfl, (pj_m2 41 rfl rfl), tinX5, ttyX5, nmX5⟩
theorem fl_PJ_111 : pj_fl RX10 111 8 4 RX8 TX8 6 := ⟨rfl, by decide, rfl, (pj_m1 164 rfl rfl), tinX8, ttyX8, nmX8⟩
theorem fl_PJ_126 : pj_fl RX10 126 7 1 RX7 TX7 2 := ⟨rfl, by decide, rfl, (pj_m1 225 rfl rfl), tinX7, ttyX7, nmX7⟩
theorem fl_PJ_129 : pj_fl RX10 129 8 1 RX8 TX8 6 := ⟨rfl, by decide, rfl, (pj_m1 155 rfl rfl), tinX8, ttyX8, nmX8⟩
theorem fl_PJ_137 : pj_fl RX10 137 2 3 RX2 TX2 5 := ⟨rfl, by decide, rfl, (pj_m1 99 rfl rfl), tinX2, ttyX2, nmX2⟩
theorem fl_PJ_142 : pj_fl RX10 142 3 8 RX3 TX3 10 := ⟨rfl, by decide, rfl, (pj_m2 7 rfl rfl), tinX3, ttyX3, nmX3⟩
theorem fl_PJ_145 : pj_fl RX10 145 3 9 RX3 TX3 10 := ⟨rfl, by decide, rfl, (pj_m2 9 rfl rfl), tinX3, ttyX3, nmX3⟩
theorem fl_PJ_155 : pj_fl RX10 155 1 6 RX1 TX1 10 := ⟨rfl, by decide, rfl, (pj_m1 54 rfl rfl), tinX1, ttyX1, nmX1⟩
theorem fl_PJ_162 : pj_fl RX10 162 1 7 RX1 TX1 10 := ⟨rfl, by decide, rfl, (pj_m1 58 rfl rfl), tinX1, ttyX1, nmX1⟩
theorem fl_PJ_180 : pj_fl RX10 180 1 8 RX1 TX1 10 := ⟨rfl, by decide, rfl, (pj_m1 61 rfl rfl), tinX1, ttyX1, nmX1⟩
theorem fl_PJ_189 : pj_fl RX10 189 8 3 RX8 TX8 6 := ⟨rfl, by decide, rfl, (pj_m1 161 rfl rfl), tinX8, ttyX8, nmX8⟩
theorem fl_PJ_198 : pj_fl RX10 198 8 2 RX8 TX8 6 := ⟨rfl, by decide, rfl, (pj_m1 158 rfl rfl), tinX8, ttyX8, nmX8⟩
theorem fl_PJ_225 : pj_fl RX10 225 6 0 RX6 TX6 2 := ⟨rfl, by decide, rfl, (pj_m2 66 rfl rfl), tinX6, ttyX6, nmX6⟩
theorem fl_PJ_228 : pj_fl RX10 228 6 1 RX6 TX6 2 := ⟨rfl, by decide, rfl, (pj_m2 68 rfl rfl), tinX6, ttyX6, nmX6⟩
theorem fl_PJ_231 : pj_fl RX10 231 5 2 RX5 TX5 5 := ⟨rfl, by decide, rfl, (pj_m2 43 rfl rfl), tinX5, ttyX5, nmX5⟩
theorem fl_PJ_237 : pj_fl RX10 237 1 0 RX1 TX1 10 := ⟨rfl, by decide, rfl, (pj_m1 41 rfl rfl), tinX1, ttyX1, nmX1⟩
theorem fl_PJ_240 : pj_fl RX10 240 1 1 RX1 TX1 10 := ⟨rfl, by decide, rfl, (pj_m1 43 rfl rfl), tinX1, ttyX1, nmX1⟩
theorem fl_PJ_266 : pj_fl RX10 266 10 7 RX10 TX10 8 := ⟨rfl, by decide, rfl, (pj_m2 96 rfl rfl), tinX10, ttyX10, nmX10⟩
theorem fl_PJ_270 : pj_fl RX10 270 1 2 RX1 TX1 10 := ⟨rfl, by decide, rfl, (pj_m1 45 rfl rfl), tinX1, ttyX1, nmX1⟩
theorem fl_PJ_273 : pj_fl RX10 273 9 1 RX9 TX9 2 := ⟨rfl, by decide, rfl, (pj_m1 145 rfl rfl), tinX9, ttyX9, nmX9⟩
theorem fl_PJ_274 : pj_fl RX10 274 0 3 RX0 TX0 4 := ⟨rfl, by decide, rfl, (pj_m1 125 rfl rfl), tinX0, ttyX0, nmX0⟩
theorem fl_PJ_275 : pj_fl RX10 275 4 7 RX4 TX4 9 := ⟨rfl, by decide, rfl, (pj_m1 195 rfl rfl), tinX4, ttyX4, nmX4⟩
theorem fl_PJ_288 : pj_fl RX10 288 5 3 RX5 TX5 5 := ⟨rfl, by decide, rfl, (pj_m2 45 rfl rfl), tinX5, ttyX5, nmX5⟩
theorem fl_Book_9 : pj_fl RX0 9 0 0 RX0 TX0 4 := ⟨rfl, by decide, rfl, (pj_m1 119 rfl rfl), tinX0, ttyX0, nmX0⟩
theorem fl_Book_15 : pj_fl RX0 15 0 1 RX0 TX0 4 := ⟨rfl, by decide, rfl, (pj_m1 120 rfl rfl), tinX0, ttyX0, nmX0⟩
theorem fl_Book_18 : pj_fl RX0 18 0 2 RX0 TX0 4 := ⟨rfl, by decide, rfl, (pj_m1 121 rfl rfl), tinX0, ttyX0, nmX0⟩
theorem fl_Book_27 : pj_fl RX0 27 0 3 RX0 TX0 4 := ⟨rfl, by decide, rfl, (pj_m1 123 rfl rfl), tinX0, ttyX0, nmX0⟩
theorem fl_Fabric_9 : pj_fl RX1 9 1 0 RX1 TX1 10 := ⟨rfl, by decide, rfl, (pj_m1 40 rfl rfl), tinX1, ttyX1, nmX1⟩
theorem fl_Fabric_15 : pj_fl RX1 15 1 1 RX1 TX1 10 := ⟨rfl, by decide, rfl, (pj_m1 42 rfl rfl), tinX1, ttyX1, nmX1⟩
theorem fl_Fabric_18 : pj_fl RX1 18 1 2 RX1 TX1 10 := ⟨rfl, by decide, rfl, (pj_m1 44 rfl rfl), tinX1, ttyX1, nmX1⟩
theorem fl_Fabric_26 : pj_fl RX1 26 1 3 RX1 TX1 10 := ⟨rfl, by decide, rfl, (pj_m1 46 rfl rfl), tinX1, ttyX1, nmX1⟩
theorem fl_Fabric_30 : pj_fl RX1 30 1 4 RX1 TX1 10 := ⟨rfl, by decide, rfl, (pj_m1 47 rfl rfl), tinX1, ttyX1, nmX1⟩
theorem fl_Fabric_33 : pj_fl RX1 33 1 5 RX1 TX1 10 := ⟨rfl, by decide, rfl, (pj_m1 48 rfl rfl), tinX1, ttyX1, nmX1⟩
theorem fl_Fabric_36 : pj_fl RX1 36 1 6 RX1 TX1 10 := ⟨rfl, by decide, rfl, (pj_m1 51 rfl rfl), tinX1, ttyX1, nmX1⟩
theorem fl_Fabric_39 : pj_fl RX1 39 1 7 RX1 TX1 10 := ⟨rfl, by decide, rfl, (pj_m1 56 rfl rfl), tinX1, ttyX1, nmX1⟩
theorem fl_Fabric_42 : pj_fl RX1 42 1 8 RX1 TX1 10 := ⟨rfl, by decide, rfl, (pj_m1 59 rfl rfl), tinX1, ttyX1, nmX1⟩
theorem fl_Fabric_45 : pj_fl RX1 45 1 9 RX1 TX1 10 := ⟨rfl, by decide, rfl, (pj_m1 62 rfl rfl), tinX1, ttyX1, nmX1⟩
theorem fl_Law_9 : pj_fl RX2 9 2 0 RX2 TX2 5 := ⟨rfl, by decide, rfl, (pj_m1 92 rfl rfl), tinX2, ttyX2, nmX2⟩
theorem fl_Law_15 : pj_fl RX2 15 2 1 RX2 TX2 5 := ⟨rfl, by decide, rfl, (pj_m1 94 rfl rfl), tinX2, ttyX2, nmX2⟩
theorem fl_Law_18 : pj_fl RX2 18 2 2 RX2 TX2 5 := ⟨rfl, by decide, rfl, (pj_m1 95 rfl rfl), tinX2, ttyX2, nmX2⟩
theorem fl_Law_22 : pj_fl RX2 22 2 3 RX2 TX2 5 := ⟨rfl, by decide, rfl, (pj_m1 97 rfl rfl), tinX2, ttyX2, nmX2⟩
theorem fl_Law_40 : pj_fl RX2 40 2 4 RX2 TX2 5 := ⟨rfl, by decide, rfl, (pj_m1 100 rfl rfl), tinX2, ttyX2, nmX2⟩
theorem fl_Reader_9 : pj_fl RX3 9 3 0 RX3 TX3 10 := ⟨rfl, by decide, rfl, (pj_m1 238 rfl rfl), tinX3, ttyX3, nmX3⟩
theorem fl_Reader_15 : pj_fl RX3 15 3 1 RX3 TX3 10 := ⟨rfl, by decide, rfl, (pj_m1 239 rfl rfl), tinX3, ttyX3, nmX3⟩
theorem fl_Reader_18 : pj_fl RX3 18 3 2 RX3 TX3 10 := ⟨rfl, by decide, rfl, (pj_m2 0 rfl rfl), tinX3, ttyX3, nmX3⟩
theorem fl_Reader_21 : pj_fl RX3 21 3 3 RX3 TX3 10 := ⟨rfl, by decide, rfl, (pj_m2 1 rfl rfl), tinX3, ttyX3, nmX3⟩
theorem fl_Reader_24 : pj_fl RX3 24 3 9 RX3 TX3 10 := ⟨rfl, by decide, rfl, (pj_m2 8 rfl rfl), tinX3, ttyX3, nmX3⟩
theorem fl_Reader_28 : pj_fl RX3 28 3 8 RX3 TX3 10 := ⟨rfl, by decide, rfl, (pj_m2 6 rfl rfl), tinX3, ttyX3, nmX3⟩
theorem fl_Reader_31 : pj_fl RX3 31 3 5 RX3 TX3 10 := ⟨rfl, by decide, rfl, (pj_m2 3 rfl rfl), tinX3, ttyX3, nmX3⟩
theorem fl_Reader_34 : pj_fl RX3 34 3 6 RX3 TX3 10 := ⟨rfl, by decide, rfl, (pj_m2 4 rfl rfl), tinX3, ttyX3, nmX3⟩
theorem fl_Reader_37 : pj_fl RX3 37 3 7 RX3 TX3 10 := ⟨rfl, by decide, rfl, (pj_m2 5 rfl rfl), tinX3, ttyX3, nmX3⟩
theorem fl_Reader_58 : pj_fl RX3 58 3 4 RX3 TX3 10 := ⟨rfl, by decide, rfl, (pj_m2 2 rfl rfl), tinX3, ttyX3, nmX3⟩
theorem fl_Past_9 : pj_fl RX4 9 4 0 RX4 TX4 9 := ⟨rfl, by decide, rfl, (pj_m1 187 rfl rfl), tinX4, ttyX4, nmX4⟩
theorem fl_Past_15 : pj_fl RX4 15 4 1 RX4 TX4 9 := ⟨rfl, by decide, rfl, (pj_m1 188 rfl rfl), tinX4, ttyX4, nmX4⟩
theorem fl_Past_18 : pj_fl RX4 18 4 2 RX4 TX4 9 := ⟨rfl, by decide, rfl, (pj_m1 189 rfl rfl), tinX4, ttyX4, nmX4⟩
theorem fl_Past_21 : pj_fl RX4 21 4 3 RX4 TX4 9 := ⟨rfl, by decide, rfl, (pj_m1 190 rfl rfl), tinX4, ttyX4, nmX4⟩
theorem fl_Past_25 : pj_fl RX4 25 4 4 RX4 TX4 9 := ⟨rfl, by decide, rfl, (pj_m1 191 rfl rfl), tinX4, ttyX4, nmX4⟩
theorem fl_Past_28 : pj_fl RX4 28 4 5 RX4 TX4 9 := ⟨rfl, by decide, rfl, (pj_m1 192 rfl rfl), tinX4, ttyX4, nmX4⟩
theorem fl_Past_31 : pj_fl RX4 31 4 6 RX4 TX4 9 := ⟨rfl, by decide, rfl, (pj_m1 193 rfl rfl), tinX4, ttyX4, nmX4⟩
theorem fl_Past_34 : pj_fl RX4 34 4 7 RX4 TX4 9 := ⟨rfl, by decide, rfl, (pj_m1 194 rfl rfl), tinX4, ttyX4, nmX4⟩
theorem fl_Past_38 : pj_fl RX4 38 4 8 RX4 TX4 9 := ⟨rfl, by decide, rfl, (pj_m1 196 rfl rfl), tinX4, ttyX4, nmX4⟩
theorem fl_Past_41 : pj_fl RX4 41 8 0 RX8 TX8 6 := ⟨rfl, by decide, rfl, (pj_m1 152 rfl rfl), tinX8, ttyX8, nmX8⟩
theorem fl_Past_47 : pj_fl RX4 47 1 6 RX1 TX1 10 := ⟨rfl, by decide, rfl, (pj_m1 52 rfl rfl), tinX1, ttyX1, nmX1⟩
theorem fl_Past_52 : pj_fl RX4 52 1 8 RX1 TX1 10 := ⟨rfl, by decide, rfl, (pj_m1 60 rfl rfl), tinX1, ttyX1, nmX1⟩
theorem fl_Past_54 : pj_fl RX4 54 1 9 RX1 TX1 10 := ⟨rfl, by decide, rfl, (pj_m1 63 rfl rfl), tinX1, ttyX1, nmX1⟩
theorem fl_Past_56 : pj_fl RX4 56 8 4 RX8 TX8 6 := ⟨rfl, by decide, rfl, (pj_m1 163 rfl rfl), tinX8, ttyX8, nmX8⟩
theorem fl_Past_58 : pj_fl RX4 58 8 5 RX8 TX8 6 := ⟨rfl, by decide, rfl, (pj_m1 166 rfl rfl), tinX8, ttyX8, nmX8⟩
theorem fl_Past_60 : pj_fl RX4 60 8 2 RX8 TX8 6 := ⟨rfl, by decide, rfl, (pj_m1 157 rfl rfl), tinX8, ttyX8, nmX8⟩
theorem fl_Past_64 : pj_fl RX4 64 0 3 RX0 TX0 4 := ⟨rfl, by decide, rfl, (pj_m1 124 rfl rfl), tinX0, ttyX0, nmX0⟩
theorem fl_Past_67 : pj_fl RX4 67 8 3 RX8 TX8 6 := ⟨rfl, by decide, rfl, (pj_m1 160 rfl rfl), tinX8, ttyX8, nmX8⟩
theorem fl_Past_71 : pj_fl RX4 71 9 1 RX9 TX9 2 := ⟨rfl, by decide, rfl, (pj_m1 144 rfl rfl), tinX9, ttyX9, nmX9⟩
theorem fl_Puller_9 : pj_fl RX5 9 5 0 RX5 TX5 5 := ⟨rfl, by decide, rfl, (pj_m2 37 rfl rfl), tinX5, ttyX5, nmX5⟩
theorem fl_Puller_15 : pj_fl RX5 15 5 1 RX5 TX5 5 := ⟨rfl, by decide, rfl, (pj_m2 39 rfl rfl), tinX5, ttyX5, nmX5⟩
theorem fl_Puller_19 : pj_fl RX5 19 5 2 RX5 TX5 5 := ⟨rfl, by decide, rfl, (pj_m2 42 rfl rfl), tinX5, ttyX5, nmX5⟩
theorem fl_Puller_22 : pj_fl RX5 22 1 6 RX1 TX1 10 := ⟨rfl, by decide, rfl, (pj_m1 50 rfl rfl), tinX1, ttyX1, nmX1⟩
theorem fl_Puller_28 : pj_fl RX5 28 5 3 RX5 TX5 5 := ⟨rfl, by decide, rfl, (pj_m2 44 rfl rfl), tinX5, ttyX5, nmX5⟩
theorem fl_Puller_29 : pj_fl RX5 29 5 4 RX5 TX5 5 := ⟨rfl, by decide, rfl, (pj_m2 46 rfl rfl), tinX5, ttyX5, nmX5⟩
theorem fl_Puller_48 : pj_fl RX5 48 1 7 RX1 TX1 10 := ⟨rfl, by decide, rfl, (pj_m1 57 rfl rfl), tinX1, ttyX1, nmX1⟩
theorem fl_Saver_9 : pj_fl RX6 9 1 6 RX1 TX1 10 := ⟨rfl, by decide, rfl, (pj_m1 49 rfl rfl), tinX1, ttyX1, nmX1⟩
theorem fl_Saver_15 : pj_fl RX6 15 1 7 RX1 TX1 10 := ⟨rfl, by decide, rfl, (pj_m1 55 rfl rfl), tinX1, ttyX1, nmX1⟩
theorem fl_Saver_20 : pj_fl RX6 20 6 0 RX6 TX6 2 := ⟨rfl, by decide, rfl, (pj_m2 65 rfl rfl), tinX6, ttyX6, nmX6⟩
theorem fl_Saver_26 : pj_fl RX6 26 6 1 RX6 TX6 2 := ⟨rfl, by decide, rfl, (pj_m2 67 rfl rfl), tinX6, ttyX6, nmX6⟩
theorem fl_Tape_9 : pj_fl RX7 9 7 0 RX7 TX7 2 := ⟨rfl, by decide, rfl, (pj_m1 223 rfl rfl), tinX7, ttyX7, nmX7⟩
theorem fl_Tape_15 : pj_fl RX7 15 7 1 RX7 TX7 2 := ⟨rfl, by decide, rfl, (pj_m1 224 rfl rfl), tinX7, ttyX7, nmX7⟩
theorem fl_Whole_12 : pj_fl RX8 12 8 0 RX8 TX8 6 := ⟨rfl, by decide, rfl, (pj_m1 151 rfl rfl), tinX8, ttyX8, nmX8⟩
theorem fl_Whole_21 : pj_fl RX8 21 8 1 RX8 TX8 6 := ⟨rfl, by decide, rfl, (pj_m1 154 rfl rfl), tinX8, ttyX8, nmX8⟩
theorem fl_Whole_28 : pj_fl RX8 28 8 2 RX8 TX8 6 := ⟨rfl, by decide, rfl, (pj_m1 156 rfl rfl), tinX8, ttyX8, nmX8⟩
theorem fl_Whole_35 : pj_fl RX8 35 8 3 RX8 TX8 6 := ⟨rfl, by decide, rfl, (pj_m1 159 rfl rfl), tinX8, ttyX8, nmX8⟩
theorem fl_Whole_46 : pj_fl RX8 46 0 3 RX0 TX0 4 := ⟨rfl, by decide, rfl, (pj_m1 122 rfl rfl), tinX0, ttyX0, nmX0⟩
theorem fl_Whole_50 : pj_fl RX8 50 9 1 RX9 TX9 2 := ⟨rfl, by decide, rfl, (pj_m1 143 rfl rfl), tinX9, ttyX9, nmX9⟩
theorem fl_Whole_51 : pj_fl RX8 51 8 4 RX8 TX8 6 := ⟨rfl, by decide, rfl, (pj_m1 162 rfl rfl), tinX8, ttyX8, nmX8⟩
theorem fl_Whole_58 : pj_fl RX8 58 2 0 RX2 TX2 5 := ⟨rfl, by decide, rfl, (pj_m1 93 rfl rfl), tinX2, ttyX2, nmX2⟩
theorem fl_Whole_62 : pj_fl RX8 62 2 2 RX2 TX2 5 := ⟨rfl, by decide, rfl, (pj_m1 96 rfl rfl), tinX2, ttyX2, nmX2⟩
theorem fl_Whole_65 : pj_fl RX8 65 2 3 RX2 TX2 5 := ⟨rfl, by decide, rfl, (pj_m1 98 rfl rfl), tinX2, ttyX2, nmX2⟩
theorem fl_Whole_78 : pj_fl RX8 78 8 5 RX8 TX8 6 := ⟨rfl, by decide, rfl, (pj_m1 167 rfl rfl), tinX8, ttyX8, nmX8⟩
theorem fl_Whole_81 : pj_fl RX8 81 1 6 RX1 TX1 10 := ⟨rfl, by decide, rfl, (pj_m1 53 rfl rfl), tinX1, ttyX1, nmX1⟩
theorem fl_Whole_91 : pj_fl RX8 91 5 1 RX5 TX5 5 := ⟨rfl, by decide, rfl, (pj_m2 40 rfl rfl), tinX5, ttyX5, nmX5⟩
theorem fl_Whole_94 : pj_fl RX8 94 5 0 RX5 TX5 5 := ⟨rfl, by decide, rfl, (pj_m2 38 rfl rfl), tinX5, ttyX5, nmX5⟩
theorem fl_Whole_100 : pj_fl RX8 100 5 4 RX5 TX5 5 := ⟨rfl, by decide, rfl, (pj_m2 47 rfl rfl), tinX5, ttyX5, nmX5⟩
theorem fl_Wool_9 : pj_fl RX9 9 9 0 RX9 TX9 2 := ⟨rfl, by decide, rfl, (pj_m1 141 rfl rfl), tinX9, ttyX9, nmX9⟩
theorem fl_Wool_21 : pj_fl RX9 21 9 1 RX9 TX9 2 := ⟨rfl, by decide, rfl, (pj_m1 142 rfl rfl), tinX9, ttyX9, nmX9⟩
theorem fl_Md_7 : pj_fl RX11 7 11 0 RX11 TX11 33 := ⟨rfl, by decide, rfl, (pj_m4 198 rfl rfl), tinX11, ttyX11, nmX11⟩
theorem fl_Md_13 : pj_fl RX11 13 11 1 RX11 TX11 33 := ⟨rfl, by decide, rfl, (pj_m4 199 rfl rfl), tinX11, ttyX11, nmX11⟩
theorem fl_Md_16 : pj_fl RX11 16 11 2 RX11 TX11 33 := ⟨rfl, by decide, rfl, (pj_m4 200 rfl rfl), tinX11, ttyX11, nmX11⟩
theorem fl_Md_19 : pj_fl RX11 19 11 5 RX11 TX11 33 := ⟨rfl, by decide, rfl, (pj_m4 203 rfl rfl), tinX11, ttyX11, nmX11⟩
theorem fl_Md_22 : pj_fl RX11 22 11 6 RX11 TX11 33 := ⟨rfl, by decide, rfl, (pj_m4 204 rfl rfl), tinX11, ttyX11, nmX11⟩
theorem fl_Md_25 : pj_fl RX11 25 11 7 RX11 TX11 33 := ⟨rfl, by decide, rfl, (pj_m4 205 rfl rfl), tinX11, ttyX11, nmX11⟩
theorem fl_Md_28 : pj_fl RX11 28 11 8 RX11 TX11 33 := ⟨rfl, by decide, rfl, (pj_m4 206 rfl rfl), tinX11, ttyX11, nmX11⟩
theorem fl_Md_31 : pj_fl RX11 31 11 9 RX11 TX11 33 := ⟨rfl, by decide, rfl, (pj_m4 207 rfl rfl), tinX11, ttyX11, nmX11⟩
theorem fl_Md_34 : pj_fl RX11 34 11 21 RX11 TX11 33 := ⟨rfl, by decide, rfl, (pj_m4 219 rfl rfl), tinX11, ttyX11, nmX11⟩
theorem fl_Md_38 : pj_fl RX11 38 11 22 RX11 TX11 33 := ⟨rfl, by decide, rfl, (pj_m4 220 rfl rfl), tinX11, ttyX11, nmX11⟩
theorem fl_Md_41 : pj_fl RX11 41 11 23 RX11 TX11 33 := ⟨rfl, by decide, rfl, (pj_m4 221 rfl rfl), tinX11, ttyX11, nmX11⟩
theorem fl_Md_44 : pj_fl RX11 44 11 24 RX11 TX11 33 := ⟨rfl, by decide, rfl, (pj_m4 222 rfl rfl), tinX11, ttyX11, nmX11⟩
theorem fl_Md_47 : pj_fl RX11 47 11 25 RX11 TX11 33 := ⟨rfl, by decide, rfl, (pj_m4 223 rfl rfl), tinX11, ttyX11, nmX11⟩
theorem fl_Md_50 : pj_fl RX11 50 11 29 RX11 TX11 33 := ⟨rfl, by decide, rfl, (pj_m4 227 rfl rfl), tinX11, ttyX11, nmX11⟩
theorem fl_Md_53 : pj_fl RX11 53 11 30 RX11 TX11 33 := ⟨rfl, by decide, rfl, (pj_m4 228 rfl rfl), tinX11, ttyX11, nmX11⟩
theorem fl_Md_56 : pj_fl RX11 56 11 31 RX11 TX11 33 := ⟨rfl, by decide, rfl, (pj_m4 229 rfl rfl), tinX11, ttyX11, nmX11⟩
theorem fl_Md_67 : pj_fl RX11 67 11 3 RX11 TX11 33 := ⟨rfl, by decide, rfl, (pj_m4 201 rfl rfl), tinX11, ttyX11, nmX11⟩
theorem fl_Md_80 : pj_fl RX11 80 11 12 RX11 TX11 33 := ⟨rfl, by decide, rfl, (pj_m4 210 rfl rfl), tinX11, ttyX11, nmX11⟩
theorem fl_Md_83 : pj_fl RX11 83 11 13 RX11 TX11 33 := ⟨rfl, by decide, rfl, (pj_m4 211 rfl rfl), tinX11, ttyX11, nmX11⟩
theorem fl_Md_86 : pj_fl RX11 86 11 15 RX11 TX11 33 := ⟨rfl, by decide, rfl, (pj_m4 213 rfl rfl), tinX11, ttyX11, nmX11⟩
theorem fl_Md_134 : pj_fl RX11 134 11 14 RX11 TX11 33 := ⟨rfl, by decide, rfl, (pj_m4 212 rfl rfl), tinX11, ttyX11, nmX11⟩
theorem fl_Md_146 : pj_fl RX11 146 11 16 RX11 TX11 33 := ⟨rfl, by decide, rfl, (pj_m4 214 rfl rfl), tinX11, ttyX11, nmX11⟩
theorem fl_Md_149 : pj_fl RX11 149 11 17 RX11 TX11 33 := ⟨rfl, by decide, rfl, (pj_m4 215 rfl rfl), tinX11, ttyX11, nmX11⟩
theorem fl_Md_152 : pj_fl RX11 152 11 18 RX11 TX11 33 := ⟨rfl, by decide, rfl, (pj_m4 216 rfl rfl), tinX11, ttyX11, nmX11⟩
theorem fl_Md_161 : pj_fl RX11 161 11 11 RX11 TX11 33 := ⟨rfl, by decide, rfl, (pj_m4 209 rfl rfl), tinX11, ttyX11, nmX11⟩
theorem fl_Md_164 : pj_fl RX11 164 11 20 RX11 TX11 33 := ⟨rfl, by decide, rfl, (pj_m4 218 rfl rfl), tinX11, ttyX11, nmX11⟩
theorem fl_Md_195 : pj_fl RX11 195 11 10 RX11 TX11 33 := ⟨rfl, by decide, rfl, (pj_m4 208 rfl rfl), tinX11, ttyX11, nmX11⟩
theorem fl_Md_201 : pj_fl RX11 201 11 19 RX11 TX11 33 := ⟨rfl, by decide, rfl, (pj_m4 217 rfl rfl), tinX11, ttyX11, nmX11⟩
theorem fl_Md_249 : pj_fl RX11 249 11 26 RX11 TX11 33 := ⟨rfl, by decide, rfl, (pj_m4 224 rfl rfl), tinX11, ttyX11, nmX11⟩
theorem fl_Md_252 : pj_fl RX11 252 11 27 RX11 TX11 33 := ⟨rfl, by decide, rfl, (pj_m4 225 rfl rfl), tinX11, ttyX11, nmX11⟩
theorem fl_Md_255 : pj_fl RX11 255 11 28 RX11 TX11 33 := ⟨rfl, by decide, rfl, (pj_m4 226 rfl rfl), tinX11, ttyX11, nmX11⟩
theorem fl_Md_295 : pj_fl RX11 295 11 32 RX11 TX11 33 := ⟨rfl, by decide, rfl, (pj_m4 230 rfl rfl), tinX11, ttyX11, nmX11⟩
theorem fl_Md_319 : pj_fl RX11 319 11 4 RX11 TX11 33 := ⟨rfl, by decide, rfl, (pj_m4 202 rfl rfl), tinX11, ttyX11, nmX11⟩
theorem fy_0_3 : parseFieldDescriptor (TX0 3).2.2.1 = some .int := by decide +kernel
theorem fy_1_0 : parseFieldDescriptor (TX1 0).2.2.1 = some .int := by decide +kernel
theorem fy_1_1 : parseFieldDescriptor (TX1 1).2.2.1 = some .int := by decide +kernel
theorem fy_1_2 : parseFieldDescriptor (TX1 2).2.2.1 = some .boolean := by decide +kernel
theorem fy_1_3 : parseFieldDescriptor (TX1 3).2.2.1 = some .long := by decide +kernel
theorem fy_1_4 : parseFieldDescriptor (TX1 4).2.2.1 = some .long := by decide +kernel
theorem fy_1_5 : parseFieldDescriptor (TX1 5).2.2.1 = some .long := by decide +kernel
theorem fy_1_6 : parseFieldDescriptor (TX1 6).2.2.1 = some .long := by decide +kernel
theorem fy_1_7 : parseFieldDescriptor (TX1 7).2.2.1 = some .long := by decide +kernel
theorem fy_1_8 : parseFieldDescriptor (TX1 8).2.2.1 = some .long := by decide +kernel
theorem fy_1_9 : parseFieldDescriptor (TX1 9).2.2.1 = some .long := by decide +kernel
theorem fy_2_2 : parseFieldDescriptor (TX2 2).2.2.1 = some .int := by decide +kernel
theorem fy_2_3 : parseFieldDescriptor (TX2 3).2.2.1 = some .int := by decide +kernel
theorem fy_2_4 : parseFieldDescriptor (TX2 4).2.2.1 = some .int := by decide +kernel
theorem fy_3_4 : parseFieldDescriptor (TX3 4).2.2.1 = some .int := by decide +kernel
theorem fy_3_5 : parseFieldDescriptor (TX3 5).2.2.1 = some .int := by decide +kernel
theorem fy_3_6 : parseFieldDescriptor (TX3 6).2.2.1 = some .int := by decide +kernel
theorem fy_3_7 : parseFieldDescriptor (TX3 7).2.2.1 = some .int := by decide +kernel
theorem fy_3_8 : parseFieldDescriptor (TX3 8).2.2.1 = some .int := by decide +kernel
theorem fy_3_9 : parseFieldDescriptor (TX3 9).2.2.1 = some .int := by decide +kernel
theorem fy_4_7 : parseFieldDescriptor (TX4 7).2.2.1 = some .int := by decide +kernel
theorem fy_4_8 : parseFieldDescriptor (TX4 8).2.2.1 = some .int := by decide +kernel
theorem fy_5_1 : parseFieldDescriptor (TX5 1).2.2.1 = some .int := by decide +kernel
theorem fy_5_2 : parseFieldDescriptor (TX5 2).2.2.1 = some .int := by decide +kernel
theorem fy_5_3 : parseFieldDescriptor (TX5 3).2.2.1 = some .long := by decide +kernel
theorem fy_5_4 : parseFieldDescriptor (TX5 4).2.2.1 = some .long := by decide +kernel
theorem fy_6_0 : parseFieldDescriptor (TX6 0).2.2.1 = some .int := by decide +kernel
theorem fy_6_1 : parseFieldDescriptor (TX6 1).2.2.1 = some .long := by decide +kernel
theorem fy_7_1 : parseFieldDescriptor (TX7 1).2.2.1 = some .int := by decide +kernel
theorem fy_8_4 : parseFieldDescriptor (TX8 4).2.2.1 = some .int := by decide +kernel
theorem fy_8_5 : parseFieldDescriptor (TX8 5).2.2.1 = some .int := by decide +kernel
theorem fy_9_1 : parseFieldDescriptor (TX9 1).2.2.1 = some .int := by decide +kernel
theorem fy_10_7 : parseFieldDescriptor (TX10 7).2.2.1 = some .boolean := by decide +kernel
theorem fy_11_3 : parseFieldDescriptor (TX11 3).2.2.1 = some .int := by decide +kernel
theorem fy_11_4 : parseFieldDescriptor (TX11 4).2.2.1 = some .boolean := by decide +kernel
theorem fy_11_10 : parseFieldDescriptor (TX11 10).2.2.1 = some .int := by decide +kernel
theorem fy_11_11 : parseFieldDescriptor (TX11 11).2.2.1 = some .int := by decide +kernel
theorem fy_11_12 : parseFieldDescriptor (TX11 12).2.2.1 = some .int := by decide +kernel
theorem fy_11_13 : parseFieldDescriptor (TX11 13).2.2.1 = some .int := by decide +kernel
theorem fy_11_14 : parseFieldDescriptor (TX11 14).2.2.1 = some .int := by decide +kernel
theorem fy_11_15 : parseFieldDescriptor (TX11 15).2.2.1 = some .int := by decide +kernel
theorem fy_11_16 : parseFieldDescriptor (TX11 16).2.2.1 = some .int := by decide +kernel
theorem fy_11_17 : parseFieldDescriptor (TX11 17).2.2.1 = some .int := by decide +kernel
theorem fy_11_18 : parseFieldDescriptor (TX11 18).2.2.1 = some .int := by decide +kernel
theorem fy_11_19 : parseFieldDescriptor (TX11 19).2.2.1 = some .int := by decide +kernel
theorem fy_11_20 : parseFieldDescriptor (TX11 20).2.2.1 = some .int := by decide +kernel
theorem fy_11_21 : parseFieldDescriptor (TX11 21).2.2.1 = some .int := by decide +kernel
theorem fy_11_26 : parseFieldDescriptor (TX11 26).2.2.1 = some .int := by decide +kernel
theorem fy_11_27 : parseFieldDescriptor (TX11 27).2.2.1 = some .int := by decide +kernel
theorem fy_11_28 : parseFieldDescriptor (TX11 28).2.2.1 = some .int := by decide +kernel
theorem fy_11_32 : parseFieldDescriptor (TX11 32).2.2.1 = some .int := by decide +kernel
theorem co_PJ_207 : Cond.constantLong RX10 207 (-1 : Int64) ∈ pj_tbl := (pj_m4 60 rfl rfl)
theorem co_Fabric_56 : Cond.constantLong RX1 56 (-1 : Int64) ∈ pj_tbl := (pj_m2 149 rfl rfl)
theorem co_Fabric_58 : Cond.constantLong RX1 58 (6148914691236517205 : Int64) ∈ pj_tbl := (pj_m2 224 rfl rfl)
theorem co_Fabric_60 : Cond.constantLong RX1 60 (-6148914691236517206 : Int64) ∈ pj_tbl := (pj_m2 225 rfl rfl)
theorem co_Puller_55 : Cond.constantLong RX5 55 (-1 : Int64) ∈ pj_tbl := (pj_m2 226 rfl rfl)
theorem co_Saver_18 : Cond.constantLong RX6 18 (-1 : Int64) ∈ pj_tbl := (pj_m4 77 rfl rfl)
theorem co_Whole_85 : Cond.constantLong RX8 85 (-1 : Int64) ∈ pj_tbl := (pj_m2 178 rfl rfl)
theorem co_Whole_110 : Cond.constant RX8 110 (1664525 : Int32) ∈ pj_tbl := (pj_m3 77 rfl rfl)
theorem co_Whole_111 : Cond.constant RX8 111 (1013904223 : Int32) ∈ pj_tbl := (pj_m3 78 rfl rfl)
theorem co_Whole_133 : Cond.constant RX8 133 (1000000 : Int32) ∈ pj_tbl := (pj_m4 132 rfl rfl)
theorem co_Md_74 : Cond.constant RX11 74 (1664525 : Int32) ∈ pj_tbl := (pj_m6 42 rfl rfl)
theorem co_Md_75 : Cond.constant RX11 75 (1013904223 : Int32) ∈ pj_tbl := (pj_m6 43 rfl rfl)
theorem co_Md_315 : Cond.constant RX11 315 (1000000 : Int32) ∈ pj_tbl := (pj_m6 116 rfl rfl)
theorem co_JLong_314 : Cond.constantLong RJ13 314 (6148914691236517205 : Int64) ∈ pj_tbl := (pj_m3 67 rfl rfl)
theorem co_JLong_316 : Cond.constantLong RJ13 316 (3689348814741910323 : Int64) ∈ pj_tbl := (pj_m3 68 rfl rfl)
theorem co_JLong_318 : Cond.constantLong RJ13 318 (1085102592571150095 : Int64) ∈ pj_tbl := (pj_m3 69 rfl rfl)
theorem wc_X8_begin : Cond.code yX8_begin cX8_begin 3 none ∈ pj_tbl := (pj_m2 77 rfl rfl)
theorem wi_X8 : Cond.initialized RX8 ∈ pj_tbl := (pj_m1 2 rfl rfl)
theorem nh_X8 : RX8 ≠ "java/lang/invoke/MethodHandle" ∧ RX8 ≠ "java/lang/invoke/VarHandle" := by decide +kernel
theorem pd_0 : (parseMethodDescriptor "(II)V").map (fun d => d.parameters.length) = some 2 := by decide +kernel
theorem wm_X8_begin : Cond.instanceMethod yX8_begin ∈ pj_tbl := (pj_m2 75 rfl rfl)
theorem ws_X8_begin : Cond.selects RX8 yX8_begin yX8_begin ∈ pj_tbl := (pj_m2 76 rfl rfl)
theorem cl_PJ_54 : pj_gV RX10 54 yX8_begin cX8_begin 3 none 2 := ⟨(pj_m2 74 rfl rfl), wm_X8_begin, ws_X8_begin, wi_X8, wc_X8_begin, nh_X8.1, nh_X8.2, pd_0⟩
theorem wc_X4_forget : Cond.code yX4_forget cX4_forget 1 none ∈ pj_tbl := (pj_m2 121 rfl rfl)
theorem wi_X4 : Cond.initialized RX4 ∈ pj_tbl := (pj_m1 7 rfl rfl)
theorem nh_X4 : RX4 ≠ "java/lang/invoke/MethodHandle" ∧ RX4 ≠ "java/lang/invoke/VarHandle" := by decide +kernel
theorem pd_1 : (parseMethodDescriptor "()V").map (fun d => d.parameters.length) = some 0 := by decide +kernel
theorem wm_X4_forget : Cond.instanceMethod yX4_forget ∈ pj_tbl := (pj_m2 119 rfl rfl)
theorem ws_X4_forget : Cond.selects RX4 yX4_forget yX4_forget ∈ pj_tbl := (pj_m2 120 rfl rfl)
theorem cl_PJ_62 : pj_gV RX10 62 yX4_forget cX4_forget 1 none 0 := ⟨(pj_m2 118 rfl rfl), wm_X4_forget, ws_X4_forget, wi_X4, wc_X4_forget, nh_X4.1, nh_X4.2, pd_1⟩
theorem wc_X1_tellBound : Cond.code yX1_tellBound cX1_tellBound 2 (some .boolean) ∈ pj_tbl := (pj_m2 133 rfl rfl)
theorem wi_X1 : Cond.initialized RX1 ∈ pj_tbl := (pj_m1 3 rfl rfl)
theorem nh_X1 : RX1 ≠ "java/lang/invoke/MethodHandle" ∧ RX1 ≠ "java/lang/invoke/VarHandle" := by decide +kernel
theorem pd_2 : (parseMethodDescriptor "(I)Z").map (fun d => d.parameters.length) = some 1 := by decide +kernel
theorem wm_X1_tellBound : Cond.instanceMethod yX1_tellBound ∈ pj_tbl := (pj_m2 131 rfl rfl)
theorem ws_X1_tellBound : Cond.selects RX1 yX1_tellBound yX1_tellBound ∈ pj_tbl := (pj_m2 132 rfl rfl)
theorem cl_PJ_69 : pj_gV RX10 69 yX1_tellBound cX1_tellBound 2 (some .boolean) 1 := ⟨(pj_m2 130 rfl rfl), wm_X1_tellBound, ws_X1_tellBound, wi_X1, wc_X1_tellBound, nh_X1.1, nh_X1.2, pd_2⟩
theorem wc_X10_tellOfStitch : Cond.code yX10_tellOfStitch cX10_tellOfStitch 4 (some .boolean) ∈ pj_tbl := (pj_m2 137 rfl rfl)
theorem wi_X10 : Cond.initialized RX10 ∈ pj_tbl := (pj_m1 1 rfl rfl)
theorem nh_X10 : RX10 ≠ "java/lang/invoke/MethodHandle" ∧ RX10 ≠ "java/lang/invoke/VarHandle" := by decide +kernel
theorem pd_3 : (parseMethodDescriptor "(III)Z").map (fun d => d.parameters.length) = some 3 := by decide +kernel
theorem wm_X10_tellOfStitch : Cond.instanceMethod yX10_tellOfStitch ∈ pj_tbl := (pj_m2 136 rfl rfl)
theorem ws_X10_tellOfStitch : Cond.selects RX10 yX10_tellOfStitch yX10_tellOfStitch ∈ pj_tbl := (pj_mem 0 rfl rfl)
theorem cl_PJ_75 : pj_gV RX10 75 yX10_tellOfStitch cX10_tellOfStitch 4 (some .boolean) 3 := ⟨(pj_m2 134 rfl rfl), wm_X10_tellOfStitch, ws_X10_tellOfStitch, wi_X10, wc_X10_tellOfStitch, nh_X10.1, nh_X10.2, pd_3⟩
theorem wc_X1_isHere : Cond.code yX1_isHere cX1_isHere 2 (some .boolean) ∈ pj_tbl := (pj_m2 165 rfl rfl)
theorem wm_X1_isHere : Cond.instanceMethod yX1_isHere ∈ pj_tbl := (pj_m2 163 rfl rfl)
theorem ws_X1_isHere : Cond.selects RX1 yX1_isHere yX1_isHere ∈ pj_tbl := (pj_m2 164 rfl rfl)
theorem cl_PJ_79 : pj_gV RX10 79 yX1_isHere cX1_isHere 2 (some .boolean) 1 := ⟨(pj_m2 162 rfl rfl), wm_X1_isHere, ws_X1_isHere, wi_X1, wc_X1_isHere, nh_X1.1, nh_X1.2, pd_2⟩
theorem wc_X4_keep : Cond.code yX4_keep cX4_keep 3 none ∈ pj_tbl := (pj_m2 170 rfl rfl)
theorem pd_4 : (parseMethodDescriptor "(LPulledJersey$Whole;)V").map (fun d => d.parameters.length) = some 1 := by decide +kernel
theorem wm_X4_keep : Cond.instanceMethod yX4_keep ∈ pj_tbl := (pj_m2 168 rfl rfl)
theorem ws_X4_keep : Cond.selects RX4 yX4_keep yX4_keep ∈ pj_tbl := (pj_m2 169 rfl rfl)
theorem cl_PJ_82 : pj_gV RX10 82 yX4_keep cX4_keep 3 none 1 := ⟨(pj_m2 167 rfl rfl), wm_X4_keep, ws_X4_keep, wi_X4, wc_X4_keep, nh_X4.1, nh_X4.2, pd_4⟩
theorem wc_X8_letGo : Cond.code yX8_letGo cX8_letGo 3 none ∈ pj_tbl := (pj_m2 177 rfl rfl)
theorem wm_X8_letGo : Cond.instanceMethod yX8_letGo ∈ pj_tbl := (pj_m2 175 rfl rfl)
theorem ws_X8_letGo : Cond.selects RX8 yX8_letGo yX8_letGo ∈ pj_tbl := (pj_m2 176 rfl rfl)
theorem cl_PJ_86 : pj_gV RX10 86 yX8_letGo cX8_letGo 3 none 2 := ⟨(pj_m2 174 rfl rfl), wm_X8_letGo, ws_X8_letGo, wi_X8, wc_X8_letGo, nh_X8.1, nh_X8.2, pd_0⟩
theorem wc_X1_canCut : Cond.code yX1_canCut cX1_canCut 2 (some .boolean) ∈ pj_tbl := (pj_m2 190 rfl rfl)
theorem wm_X1_canCut : Cond.instanceMethod yX1_canCut ∈ pj_tbl := (pj_m2 188 rfl rfl)
theorem ws_X1_canCut : Cond.selects RX1 yX1_canCut yX1_canCut ∈ pj_tbl := (pj_m2 189 rfl rfl)
theorem cl_PJ_89 : pj_gV RX10 89 yX1_canCut cX1_canCut 2 (some .boolean) 1 := ⟨(pj_m2 187 rfl rfl), wm_X1_canCut, ws_X1_canCut, wi_X1, wc_X1_canCut, nh_X1.1, nh_X1.2, pd_2⟩
theorem wc_X1_isEnd : Cond.code yX1_isEnd cX1_isEnd 3 (some .boolean) ∈ pj_tbl := (pj_m2 202 rfl rfl)
theorem pd_5 : (parseMethodDescriptor "(II)Z").map (fun d => d.parameters.length) = some 2 := by decide +kernel
theorem wm_X1_isEnd : Cond.instanceMethod yX1_isEnd ∈ pj_tbl := (pj_m2 200 rfl rfl)
theorem ws_X1_isEnd : Cond.selects RX1 yX1_isEnd yX1_isEnd ∈ pj_tbl := (pj_m2 201 rfl rfl)
theorem cl_PJ_96 : pj_gV RX10 96 yX1_isEnd cX1_isEnd 3 (some .boolean) 2 := ⟨(pj_m2 199 rfl rfl), wm_X1_isEnd, ws_X1_isEnd, wi_X1, wc_X1_isEnd, nh_X1.1, nh_X1.2, pd_5⟩
theorem wc_X5_walk : Cond.code yX5_walk cX5_walk 9 none ∈ pj_tbl := (pj_m2 206 rfl rfl)
theorem wi_X5 : Cond.initialized RX5 ∈ pj_tbl := (pj_m1 10 rfl rfl)
theorem nh_X5 : RX5 ≠ "java/lang/invoke/MethodHandle" ∧ RX5 ≠ "java/lang/invoke/VarHandle" := by decide +kernel
theorem pd_6 : (parseMethodDescriptor "(LPulledJersey$Fabric;III)V").map (fun d => d.parameters.length) = some 4 := by decide +kernel
theorem wm_X5_walk : Cond.instanceMethod yX5_walk ∈ pj_tbl := (pj_m2 204 rfl rfl)
theorem ws_X5_walk : Cond.selects RX5 yX5_walk yX5_walk ∈ pj_tbl := (pj_m2 205 rfl rfl)
theorem cl_PJ_100 : pj_gV RX10 100 yX5_walk cX5_walk 9 none 4 := ⟨(pj_m2 203 rfl rfl), wm_X5_walk, ws_X5_walk, wi_X5, wc_X5_walk, nh_X5.1, nh_X5.2, pd_6⟩
theorem wc_X8_windUp : Cond.code yX8_windUp cX8_windUp 3 none ∈ pj_tbl := (pj_m2 235 rfl rfl)
theorem pd_7 : (parseMethodDescriptor "(LPulledJersey$Puller;)V").map (fun d => d.parameters.length) = some 1 := by decide +kernel
theorem wm_X8_windUp : Cond.instanceMethod yX8_windUp ∈ pj_tbl := (pj_m2 233 rfl rfl)
theorem ws_X8_windUp : Cond.selects RX8 yX8_windUp yX8_windUp ∈ pj_tbl := (pj_m2 234 rfl rfl)
theorem cl_PJ_104 : pj_gV RX10 104 yX8_windUp cX8_windUp 3 none 1 := ⟨(pj_m2 232 rfl rfl), wm_X8_windUp, ws_X8_windUp, wi_X8, wc_X8_windUp, nh_X8.1, nh_X8.2, pd_7⟩
theorem wc_X8_passHour : Cond.code yX8_passHour cX8_passHour 7 (some .int) ∈ pj_tbl := (pj_m3 18 rfl rfl)
theorem pd_8 : (parseMethodDescriptor "()I").map (fun d => d.parameters.length) = some 0 := by decide +kernel
theorem wm_X8_passHour : Cond.instanceMethod yX8_passHour ∈ pj_tbl := (pj_m3 16 rfl rfl)
theorem ws_X8_passHour : Cond.selects RX8 yX8_passHour yX8_passHour ∈ pj_tbl := (pj_m3 17 rfl rfl)
theorem cl_PJ_114 : pj_gV RX10 114 yX8_passHour cX8_passHour 7 (some .int) 0 := ⟨(pj_m3 15 rfl rfl), wm_X8_passHour, ws_X8_passHour, wi_X8, wc_X8_passHour, nh_X8.1, nh_X8.2, pd_8⟩
theorem wc_X7_hasRoom : Cond.code yX7_hasRoom cX7_hasRoom 1 (some .boolean) ∈ pj_tbl := (pj_m3 87 rfl rfl)
theorem wi_X7 : Cond.initialized RX7 ∈ pj_tbl := (pj_m1 8 rfl rfl)
theorem nh_X7 : RX7 ≠ "java/lang/invoke/MethodHandle" ∧ RX7 ≠ "java/lang/invoke/VarHandle" := by decide +kernel
theorem pd_9 : (parseMethodDescriptor "()Z").map (fun d => d.parameters.length) = some 0 := by decide +kernel
theorem wm_X7_hasRoom : Cond.instanceMethod yX7_hasRoom ∈ pj_tbl := (pj_m3 85 rfl rfl)
theorem ws_X7_hasRoom : Cond.selects RX7 yX7_hasRoom yX7_hasRoom ∈ pj_tbl := (pj_m3 86 rfl rfl)
theorem cl_PJ_118 : pj_gV RX10 118 yX7_hasRoom cX7_hasRoom 1 (some .boolean) 0 := ⟨(pj_m3 84 rfl rfl), wm_X7_hasRoom, ws_X7_hasRoom, wi_X7, wc_X7_hasRoom, nh_X7.1, nh_X7.2, pd_9⟩
theorem wc_X7_add : Cond.code yX7_add cX7_add 3 none ∈ pj_tbl := (pj_m3 91 rfl rfl)
theorem pd_10 : (parseMethodDescriptor "(I)V").map (fun d => d.parameters.length) = some 1 := by decide +kernel
theorem wm_X7_add : Cond.instanceMethod yX7_add ∈ pj_tbl := (pj_m3 89 rfl rfl)
theorem ws_X7_add : Cond.selects RX7 yX7_add yX7_add ∈ pj_tbl := (pj_m3 90 rfl rfl)
theorem cl_PJ_122 : pj_gV RX10 122 yX7_add cX7_add 3 none 1 := ⟨(pj_m3 88 rfl rfl), wm_X7_add, ws_X7_add, wi_X7, wc_X7_add, nh_X7.1, nh_X7.2, pd_10⟩
theorem wc_X3_read : Cond.code yX3_read cX3_read 4 (some .boolean) ∈ pj_tbl := (pj_m3 103 rfl rfl)
theorem wi_X3 : Cond.initialized RX3 ∈ pj_tbl := (pj_m1 9 rfl rfl)
theorem nh_X3 : RX3 ≠ "java/lang/invoke/MethodHandle" ∧ RX3 ≠ "java/lang/invoke/VarHandle" := by decide +kernel
theorem pd_11 : (parseMethodDescriptor "(LPulledJersey$Tape;LPulledJersey$Law;)Z").map (fun d => d.parameters.length) = some 2 := by decide +kernel
theorem wm_X3_read : Cond.instanceMethod yX3_read ∈ pj_tbl := (pj_m3 101 rfl rfl)
theorem ws_X3_read : Cond.selects RX3 yX3_read yX3_read ∈ pj_tbl := (pj_m3 102 rfl rfl)
theorem cl_PJ_133 : pj_gV RX10 133 yX3_read cX3_read 4 (some .boolean) 2 := ⟨(pj_m3 100 rfl rfl), wm_X3_read, ws_X3_read, wi_X3, wc_X3_read, nh_X3.1, nh_X3.2, pd_11⟩
theorem wc_X1_has : Cond.code yX1_has cX1_has 2 (some .boolean) ∈ pj_tbl := (pj_m2 141 rfl rfl)
theorem wm_X1_has : Cond.instanceMethod yX1_has ∈ pj_tbl := (pj_m2 139 rfl rfl)
theorem ws_X1_has : Cond.selects RX1 yX1_has yX1_has ∈ pj_tbl := (pj_m2 140 rfl rfl)
theorem cl_PJ_148 : pj_gV RX10 148 yX1_has cX1_has 2 (some .boolean) 1 := ⟨(pj_m2 138 rfl rfl), wm_X1_has, ws_X1_has, wi_X1, wc_X1_has, nh_X1.1, nh_X1.2, pd_2⟩
theorem wc_X1_kindOf : Cond.code yX1_kindOf cX1_kindOf 2 (some .int) ∈ pj_tbl := (pj_m3 6 rfl rfl)
theorem pd_12 : (parseMethodDescriptor "(I)I").map (fun d => d.parameters.length) = some 1 := by decide +kernel
theorem wm_X1_kindOf : Cond.instanceMethod yX1_kindOf ∈ pj_tbl := (pj_m3 4 rfl rfl)
theorem ws_X1_kindOf : Cond.selects RX1 yX1_kindOf yX1_kindOf ∈ pj_tbl := (pj_m3 5 rfl rfl)
theorem cl_PJ_151 : pj_gV RX10 151 yX1_kindOf cX1_kindOf 2 (some .int) 1 := ⟨(pj_m4 25 rfl rfl), wm_X1_kindOf, ws_X1_kindOf, wi_X1, wc_X1_kindOf, nh_X1.1, nh_X1.2, pd_12⟩
theorem wc_X10_bitOf : Cond.code yX10_bitOf cX10_bitOf 3 (some .int) ∈ pj_tbl := (pj_m2 144 rfl rfl)
theorem pd_13 : (parseMethodDescriptor "(JI)I").map (fun d => d.parameters.length) = some 2 := by decide +kernel
theorem wt_X10_bitOf : Cond.static yX10_bitOf ∈ pj_tbl := (pj_m2 143 rfl rfl)
theorem cl_PJ_158 : pj_gS RX10 158 yX10_bitOf cX10_bitOf 3 (some .int) 2 := ⟨(pj_m4 26 rfl rfl), wt_X10_bitOf, wi_X10, wc_X10_bitOf, nh_X10.1, nh_X10.2, pd_13⟩
theorem wc_X1_heldOf : Cond.code yX1_heldOf cX1_heldOf 7 (some .long) ∈ pj_tbl := (pj_m2 219 rfl rfl)
theorem pd_14 : (parseMethodDescriptor "(JJ)J").map (fun d => d.parameters.length) = some 2 := by decide +kernel
theorem wm_X1_heldOf : Cond.instanceMethod yX1_heldOf ∈ pj_tbl := (pj_m2 217 rfl rfl)
theorem ws_X1_heldOf : Cond.selects RX1 yX1_heldOf yX1_heldOf ∈ pj_tbl := (pj_m2 218 rfl rfl)
theorem cl_PJ_165 : pj_gV RX10 165 yX1_heldOf cX1_heldOf 7 (some .long) 2 := ⟨(pj_m4 27 rfl rfl), wm_X1_heldOf, ws_X1_heldOf, wi_X1, wc_X1_heldOf, nh_X1.1, nh_X1.2, pd_14⟩
theorem wc_X1_placeOf : Cond.code yX1_placeOf cX1_placeOf 4 (some .int) ∈ pj_tbl := (pj_m4 31 rfl rfl)
theorem wm_X1_placeOf : Cond.instanceMethod yX1_placeOf ∈ pj_tbl := (pj_m4 29 rfl rfl)
theorem ws_X1_placeOf : Cond.selects RX1 yX1_placeOf yX1_placeOf ∈ pj_tbl := (pj_m4 30 rfl rfl)
theorem cl_PJ_169 : pj_gV RX10 169 yX1_placeOf cX1_placeOf 4 (some .int) 1 := ⟨(pj_m4 28 rfl rfl), wm_X1_placeOf, ws_X1_placeOf, wi_X1, wc_X1_placeOf, nh_X1.1, nh_X1.2, pd_12⟩
theorem wc_X1_loose : Cond.code yX1_loose cX1_loose 1 (some .long) ∈ pj_tbl := (pj_m3 22 rfl rfl)
theorem pd_15 : (parseMethodDescriptor "()J").map (fun d => d.parameters.length) = some 0 := by decide +kernel
theorem wm_X1_loose : Cond.instanceMethod yX1_loose ∈ pj_tbl := (pj_m3 20 rfl rfl)
theorem ws_X1_loose : Cond.selects RX1 yX1_loose yX1_loose ∈ pj_tbl := (pj_m3 21 rfl rfl)
theorem cl_PJ_172 : pj_gV RX10 172 yX1_loose cX1_loose 1 (some .long) 0 := ⟨(pj_m4 32 rfl rfl), wm_X1_loose, ws_X1_loose, wi_X1, wc_X1_loose, nh_X1.1, nh_X1.2, pd_15⟩
theorem wc_X2_oddsOf : Cond.code yX2_oddsOf cX2_oddsOf 8 (some .int) ∈ pj_tbl := (pj_m3 28 rfl rfl)
theorem wi_X2 : Cond.initialized RX2 ∈ pj_tbl := (pj_m1 4 rfl rfl)
theorem nh_X2 : RX2 ≠ "java/lang/invoke/MethodHandle" ∧ RX2 ≠ "java/lang/invoke/VarHandle" := by decide +kernel
theorem pd_16 : (parseMethodDescriptor "(LPulledJersey$Fabric;II)I").map (fun d => d.parameters.length) = some 3 := by decide +kernel
theorem wm_X2_oddsOf : Cond.instanceMethod yX2_oddsOf ∈ pj_tbl := (pj_m3 26 rfl rfl)
theorem ws_X2_oddsOf : Cond.selects RX2 yX2_oddsOf yX2_oddsOf ∈ pj_tbl := (pj_m3 27 rfl rfl)
theorem cl_PJ_176 : pj_gV RX10 176 yX2_oddsOf cX2_oddsOf 8 (some .int) 3 := ⟨(pj_m4 33 rfl rfl), wm_X2_oddsOf, ws_X2_oddsOf, wi_X2, wc_X2_oddsOf, nh_X2.1, nh_X2.2, pd_16⟩
theorem wc_X1_places : Cond.code yX1_places cX1_places 1 (some .int) ∈ pj_tbl := (pj_m2 194 rfl rfl)
theorem wm_X1_places : Cond.instanceMethod yX1_places ∈ pj_tbl := (pj_m2 192 rfl rfl)
theorem ws_X1_places : Cond.selects RX1 yX1_places yX1_places ∈ pj_tbl := (pj_m2 193 rfl rfl)
theorem cl_PJ_183 : pj_gV RX10 183 yX1_places cX1_places 1 (some .int) 0 := ⟨(pj_m4 38 rfl rfl), wm_X1_places, ws_X1_places, wi_X1, wc_X1_places, nh_X1.1, nh_X1.2, pd_8⟩
theorem wc_X1_stitchAt : Cond.code yX1_stitchAt cX1_stitchAt 4 (some .int) ∈ pj_tbl := (pj_m2 210 rfl rfl)
theorem wm_X1_stitchAt : Cond.instanceMethod yX1_stitchAt ∈ pj_tbl := (pj_m2 208 rfl rfl)
theorem ws_X1_stitchAt : Cond.selects RX1 yX1_stitchAt yX1_stitchAt ∈ pj_tbl := (pj_m2 209 rfl rfl)
theorem cl_PJ_186 : pj_gV RX10 186 yX1_stitchAt cX1_stitchAt 4 (some .int) 1 := ⟨(pj_m4 39 rfl rfl), wm_X1_stitchAt, ws_X1_stitchAt, wi_X1, wc_X1_stitchAt, nh_X1.1, nh_X1.2, pd_12⟩
theorem wc_X9_lengthOf : Cond.code yX9_lengthOf cX9_lengthOf 2 (some .int) ∈ pj_tbl := (pj_m4 47 rfl rfl)
theorem wi_X9 : Cond.initialized RX9 ∈ pj_tbl := (pj_m1 6 rfl rfl)
theorem nh_X9 : RX9 ≠ "java/lang/invoke/MethodHandle" ∧ RX9 ≠ "java/lang/invoke/VarHandle" := by decide +kernel
theorem wm_X9_lengthOf : Cond.instanceMethod yX9_lengthOf ∈ pj_tbl := (pj_m4 45 rfl rfl)
theorem ws_X9_lengthOf : Cond.selects RX9 yX9_lengthOf yX9_lengthOf ∈ pj_tbl := (pj_m4 46 rfl rfl)
theorem cl_PJ_193 : pj_gV RX10 193 yX9_lengthOf cX9_lengthOf 2 (some .int) 1 := ⟨(pj_m4 44 rfl rfl), wm_X9_lengthOf, ws_X9_lengthOf, wi_X9, wc_X9_lengthOf, nh_X9.1, nh_X9.2, pd_12⟩
theorem wc_X0_read : Cond.code yX0_read cX0_read 3 (some .int) ∈ pj_tbl := (pj_m4 55 rfl rfl)
theorem wi_X0 : Cond.initialized RX0 ∈ pj_tbl := (pj_m1 5 rfl rfl)
theorem nh_X0 : RX0 ≠ "java/lang/invoke/MethodHandle" ∧ RX0 ≠ "java/lang/invoke/VarHandle" := by decide +kernel
theorem pd_17 : (parseMethodDescriptor "(II)I").map (fun d => d.parameters.length) = some 2 := by decide +kernel
theorem wm_X0_read : Cond.instanceMethod yX0_read ∈ pj_tbl := (pj_m4 53 rfl rfl)
theorem ws_X0_read : Cond.selects RX0 yX0_read yX0_read ∈ pj_tbl := (pj_m4 54 rfl rfl)
theorem cl_PJ_202 : pj_gV RX10 202 yX0_read cX0_read 3 (some .int) 2 := ⟨(pj_m4 52 rfl rfl), wm_X0_read, ws_X0_read, wi_X0, wc_X0_read, nh_X0.1, nh_X0.2, pd_17⟩
theorem wc_X1_inTheEnd : Cond.code yX1_inTheEnd cX1_inTheEnd 10 (some .long) ∈ pj_tbl := (pj_m4 64 rfl rfl)
theorem wm_X1_inTheEnd : Cond.instanceMethod yX1_inTheEnd ∈ pj_tbl := (pj_m4 62 rfl rfl)
theorem ws_X1_inTheEnd : Cond.selects RX1 yX1_inTheEnd yX1_inTheEnd ∈ pj_tbl := (pj_m4 63 rfl rfl)
theorem cl_PJ_209 : pj_gV RX10 209 yX1_inTheEnd cX1_inTheEnd 10 (some .long) 2 := ⟨(pj_m4 61 rfl rfl), wm_X1_inTheEnd, ws_X1_inTheEnd, wi_X1, wc_X1_inTheEnd, nh_X1.1, nh_X1.2, pd_14⟩
theorem wc_J13_bitCount_95d88 : Cond.code yJ13_bitCount_95d88 cJ13_bitCount_95d88 2 (some .int) ∈ pj_tbl := (pj_m3 66 rfl rfl)
theorem wi_J13 : Cond.initialized RJ13 ∈ pj_tbl := (pj_m1 14 rfl rfl)
theorem nh_J13 : RJ13 ≠ "java/lang/invoke/MethodHandle" ∧ RJ13 ≠ "java/lang/invoke/VarHandle" := by decide +kernel
theorem pd_18 : (parseMethodDescriptor "(J)I").map (fun d => d.parameters.length) = some 1 := by decide +kernel
theorem wt_J13_bitCount_95d88 : Cond.static yJ13_bitCount_95d88 ∈ pj_tbl := (pj_m3 65 rfl rfl)
theorem cl_PJ_212 : pj_gS RX10 212 yJ13_bitCount_95d88 cJ13_bitCount_95d88 2 (some .int) 1 := ⟨(pj_m4 65 rfl rfl), wt_J13_bitCount_95d88, wi_J13, wc_J13_bitCount_95d88, nh_J13.1, nh_J13.2, pd_18⟩
theorem wc_X10_numberIn : Cond.code yX10_numberIn cX10_numberIn 5 (some .int) ∈ pj_tbl := (pj_m4 68 rfl rfl)
theorem wt_X10_numberIn : Cond.static yX10_numberIn ∈ pj_tbl := (pj_m4 67 rfl rfl)
theorem cl_PJ_218 : pj_gS RX10 218 yX10_numberIn cX10_numberIn 5 (some .int) 2 := ⟨(pj_m4 66 rfl rfl), wt_X10_numberIn, wi_X10, wc_X10_numberIn, nh_X10.1, nh_X10.2, pd_13⟩
theorem wc_X6_search : Cond.code yX6_search cX6_search 5 none ∈ pj_tbl := (pj_m4 76 rfl rfl)
theorem wi_X6 : Cond.initialized RX6 ∈ pj_tbl := (pj_m1 11 rfl rfl)
theorem nh_X6 : RX6 ≠ "java/lang/invoke/MethodHandle" ∧ RX6 ≠ "java/lang/invoke/VarHandle" := by decide +kernel
theorem pd_19 : (parseMethodDescriptor "(LPulledJersey$Fabric;I)V").map (fun d => d.parameters.length) = some 2 := by decide +kernel
theorem wm_X6_search : Cond.instanceMethod yX6_search ∈ pj_tbl := (pj_m4 74 rfl rfl)
theorem ws_X6_search : Cond.selects RX6 yX6_search yX6_search ∈ pj_tbl := (pj_m4 75 rfl rfl)
theorem cl_PJ_221 : pj_gV RX10 221 yX6_search cX6_search 5 none 2 := ⟨(pj_m4 73 rfl rfl), wm_X6_search, ws_X6_search, wi_X6, wc_X6_search, nh_X6.1, nh_X6.2, pd_19⟩
theorem wc_X10_undoesAll : Cond.code yX10_undoesAll cX10_undoesAll 3 (some .boolean) ∈ pj_tbl := (pj_m4 99 rfl rfl)
theorem wm_X10_undoesAll : Cond.instanceMethod yX10_undoesAll ∈ pj_tbl := (pj_m4 98 rfl rfl)
theorem ws_X10_undoesAll : Cond.selects RX10 yX10_undoesAll yX10_undoesAll ∈ pj_tbl := (pj_mem 19 rfl rfl)
theorem cl_PJ_234 : pj_gV RX10 234 yX10_undoesAll cX10_undoesAll 3 (some .boolean) 2 := ⟨(pj_m4 96 rfl rfl), wm_X10_undoesAll, ws_X10_undoesAll, wi_X10, wc_X10_undoesAll, nh_X10.1, nh_X10.2, pd_5⟩
theorem wc_X10_rectangle : Cond.code yX10_rectangle cX10_rectangle 9 (some .long) ∈ pj_tbl := (pj_m2 84 rfl rfl)
theorem pd_20 : (parseMethodDescriptor "(IIII)J").map (fun d => d.parameters.length) = some 4 := by decide +kernel
theorem wt_X10_rectangle : Cond.static yX10_rectangle ∈ pj_tbl := (pj_m2 83 rfl rfl)
theorem cl_PJ_243 : pj_gS RX10 243 yX10_rectangle cX10_rectangle 9 (some .long) 4 := ⟨(pj_m4 104 rfl rfl), wt_X10_rectangle, wi_X10, wc_X10_rectangle, nh_X10.1, nh_X10.2, pd_20⟩
theorem wc_X1_cutsAround : Cond.code yX1_cutsAround cX1_cutsAround 8 (some .int) ∈ pj_tbl := (pj_m4 108 rfl rfl)
theorem wm_X1_cutsAround : Cond.instanceMethod yX1_cutsAround ∈ pj_tbl := (pj_m4 106 rfl rfl)
theorem ws_X1_cutsAround : Cond.selects RX1 yX1_cutsAround yX1_cutsAround ∈ pj_tbl := (pj_m4 107 rfl rfl)
theorem cl_PJ_247 : pj_gV RX10 247 yX1_cutsAround cX1_cutsAround 8 (some .int) 1 := ⟨(pj_m4 105 rfl rfl), wm_X1_cutsAround, ws_X1_cutsAround, wi_X1, wc_X1_cutsAround, nh_X1.1, nh_X1.2, pd_18⟩
theorem wc_X9_fewestFor : Cond.code yX9_fewestFor cX9_fewestFor 6 (some .int) ∈ pj_tbl := (pj_m4 118 rfl rfl)
theorem wm_X9_fewestFor : Cond.instanceMethod yX9_fewestFor ∈ pj_tbl := (pj_m4 116 rfl rfl)
theorem ws_X9_fewestFor : Cond.selects RX9 yX9_fewestFor yX9_fewestFor ∈ pj_tbl := (pj_m4 117 rfl rfl)
theorem cl_PJ_250 : pj_gV RX10 250 yX9_fewestFor cX9_fewestFor 6 (some .int) 1 := ⟨(pj_m4 115 rfl rfl), wm_X9_fewestFor, ws_X9_fewestFor, wi_X9, wc_X9_fewestFor, nh_X9.1, nh_X9.2, pd_12⟩
theorem wc_X8_likelyQuiet : Cond.code yX8_likelyQuiet cX8_likelyQuiet 5 (some .int) ∈ pj_tbl := (pj_m4 131 rfl rfl)
theorem wm_X8_likelyQuiet : Cond.instanceMethod yX8_likelyQuiet ∈ pj_tbl := (pj_m4 129 rfl rfl)
theorem ws_X8_likelyQuiet : Cond.selects RX8 yX8_likelyQuiet yX8_likelyQuiet ∈ pj_tbl := (pj_m4 130 rfl rfl)
theorem cl_PJ_253 : pj_gV RX10 253 yX8_likelyQuiet cX8_likelyQuiet 5 (some .int) 0 := ⟨(pj_m4 128 rfl rfl), wm_X8_likelyQuiet, ws_X8_likelyQuiet, wi_X8, wc_X8_likelyQuiet, nh_X8.1, nh_X8.2, pd_8⟩
theorem wc_X1_firsts : Cond.code yX1_firsts cX1_firsts 6 (some .long) ∈ pj_tbl := (pj_m4 140 rfl rfl)
theorem wm_X1_firsts : Cond.instanceMethod yX1_firsts ∈ pj_tbl := (pj_m4 138 rfl rfl)
theorem ws_X1_firsts : Cond.selects RX1 yX1_firsts yX1_firsts ∈ pj_tbl := (pj_m4 139 rfl rfl)
theorem cl_PJ_256 : pj_gV RX10 256 yX1_firsts cX1_firsts 6 (some .long) 0 := ⟨(pj_m4 137 rfl rfl), wm_X1_firsts, ws_X1_firsts, wi_X1, wc_X1_firsts, nh_X1.1, nh_X1.2, pd_15⟩
theorem wc_X4_goBack : Cond.code yX4_goBack cX4_goBack 3 (some .boolean) ∈ pj_tbl := (pj_m4 149 rfl rfl)
theorem pd_21 : (parseMethodDescriptor "(LPulledJersey$Whole;)Z").map (fun d => d.parameters.length) = some 1 := by decide +kernel
theorem wm_X4_goBack : Cond.instanceMethod yX4_goBack ∈ pj_tbl := (pj_m4 147 rfl rfl)
theorem ws_X4_goBack : Cond.selects RX4 yX4_goBack yX4_goBack ∈ pj_tbl := (pj_m4 148 rfl rfl)
theorem cl_PJ_259 : pj_gV RX10 259 yX4_goBack cX4_goBack 3 (some .boolean) 1 := ⟨(pj_m4 146 rfl rfl), wm_X4_goBack, ws_X4_goBack, wi_X4, wc_X4_goBack, nh_X4.1, nh_X4.2, pd_21⟩
theorem wc_X8_copyFrom : Cond.code yX8_copyFrom cX8_copyFrom 2 none ∈ pj_tbl := (pj_m4 157 rfl rfl)
theorem wm_X8_copyFrom : Cond.instanceMethod yX8_copyFrom ∈ pj_tbl := (pj_m4 155 rfl rfl)
theorem ws_X8_copyFrom : Cond.selects RX8 yX8_copyFrom yX8_copyFrom ∈ pj_tbl := (pj_m4 156 rfl rfl)
theorem cl_PJ_263 : pj_gV RX10 263 yX8_copyFrom cX8_copyFrom 2 none 1 := ⟨(pj_m4 154 rfl rfl), wm_X8_copyFrom, ws_X8_copyFrom, wi_X8, wc_X8_copyFrom, nh_X8.1, nh_X8.2, pd_4⟩
theorem wc_X9_total : Cond.code yX9_total cX9_total 3 (some .int) ∈ pj_tbl := (pj_m4 180 rfl rfl)
theorem wm_X9_total : Cond.instanceMethod yX9_total ∈ pj_tbl := (pj_m4 178 rfl rfl)
theorem ws_X9_total : Cond.selects RX9 yX9_total yX9_total ∈ pj_tbl := (pj_m4 179 rfl rfl)
theorem cl_PJ_276 : pj_gV RX10 276 yX9_total cX9_total 3 (some .int) 0 := ⟨(pj_m4 177 rfl rfl), wm_X9_total, ws_X9_total, wi_X9, wc_X9_total, nh_X9.1, nh_X9.2, pd_8⟩
theorem wc_X1_tellKind : Cond.code yX1_tellKind cX1_tellKind 5 (some .boolean) ∈ pj_tbl := (pj_m2 148 rfl rfl)
theorem wm_X1_tellKind : Cond.instanceMethod yX1_tellKind ∈ pj_tbl := (pj_m2 146 rfl rfl)
theorem ws_X1_tellKind : Cond.selects RX1 yX1_tellKind yX1_tellKind ∈ pj_tbl := (pj_m2 147 rfl rfl)
theorem cl_PJ_279 : pj_gV RX10 279 yX1_tellKind cX1_tellKind 5 (some .boolean) 2 := ⟨(pj_m2 145 rfl rfl), wm_X1_tellKind, ws_X1_tellKind, wi_X1, wc_X1_tellKind, nh_X1.1, nh_X1.2, pd_5⟩
theorem wc_X1_tellCaught : Cond.code yX1_tellCaught cX1_tellCaught 5 (some .boolean) ∈ pj_tbl := (pj_m2 153 rfl rfl)
theorem wm_X1_tellCaught : Cond.instanceMethod yX1_tellCaught ∈ pj_tbl := (pj_m2 151 rfl rfl)
theorem ws_X1_tellCaught : Cond.selects RX1 yX1_tellCaught yX1_tellCaught ∈ pj_tbl := (pj_m2 152 rfl rfl)
theorem cl_PJ_282 : pj_gV RX10 282 yX1_tellCaught cX1_tellCaught 5 (some .boolean) 2 := ⟨(pj_m2 150 rfl rfl), wm_X1_tellCaught, ws_X1_tellCaught, wi_X1, wc_X1_tellCaught, nh_X1.1, nh_X1.2, pd_5⟩
theorem wc_X1_bringBack : Cond.code yX1_bringBack cX1_bringBack 2 none ∈ pj_tbl := (pj_m2 157 rfl rfl)
theorem wm_X1_bringBack : Cond.instanceMethod yX1_bringBack ∈ pj_tbl := (pj_m2 155 rfl rfl)
theorem ws_X1_bringBack : Cond.selects RX1 yX1_bringBack yX1_bringBack ∈ pj_tbl := (pj_m2 156 rfl rfl)
theorem cl_PJ_285 : pj_gV RX10 285 yX1_bringBack cX1_bringBack 2 none 1 := ⟨(pj_m2 154 rfl rfl), wm_X1_bringBack, ws_X1_bringBack, wi_X1, wc_X1_bringBack, nh_X1.1, nh_X1.2, pd_10⟩
theorem cl_Book_21 : pj_gA RX0 21 := ⟨(pj_m4 167 rfl rfl), (pj_m4 16 rfl rfl), (pj_m4 15 rfl rfl), (pj_m1 19 rfl rfl)⟩
theorem cl_Fabric_22 : pj_gN RX1 22 yX10_rectangle cX10_rectangle 9 (some .long) 4 := ⟨by decide +kernel, wt_X10_rectangle, wi_X10, wc_X10_rectangle, nh_X10.1, nh_X10.2, pd_20⟩
theorem cl_Fabric_48 : pj_gN RX1 48 yX10_bitOf cX10_bitOf 3 (some .int) 2 := ⟨by decide +kernel, wt_X10_bitOf, wi_X10, wc_X10_bitOf, nh_X10.1, nh_X10.2, pd_13⟩
theorem cl_Fabric_52 : pj_gV RX1 52 yX1_has cX1_has 2 (some .boolean) 1 := ⟨(pj_m2 166 rfl rfl), wm_X1_has, ws_X1_has, wi_X1, wc_X1_has, nh_X1.1, nh_X1.2, pd_2⟩
theorem wc_X1_loopsUnder : Cond.code yX1_loopsUnder cX1_loopsUnder 19 (some .long) ∈ pj_tbl := (pj_m2 223 rfl rfl)
theorem pd_22 : (parseMethodDescriptor "(J)J").map (fun d => d.parameters.length) = some 1 := by decide +kernel
theorem wm_X1_loopsUnder : Cond.instanceMethod yX1_loopsUnder ∈ pj_tbl := (pj_m2 221 rfl rfl)
theorem ws_X1_loopsUnder : Cond.selects RX1 yX1_loopsUnder yX1_loopsUnder ∈ pj_tbl := (pj_m2 222 rfl rfl)
theorem cl_Fabric_62 : pj_gV RX1 62 yX1_loopsUnder cX1_loopsUnder 19 (some .long) 1 := ⟨(pj_m2 220 rfl rfl), wm_X1_loopsUnder, ws_X1_loopsUnder, wi_X1, wc_X1_loopsUnder, nh_X1.1, nh_X1.2, pd_22⟩
theorem cl_Fabric_66 : pj_gV RX1 66 yX1_heldOf cX1_heldOf 7 (some .long) 2 := ⟨(pj_m3 23 rfl rfl), wm_X1_heldOf, ws_X1_heldOf, wi_X1, wc_X1_heldOf, nh_X1.1, nh_X1.2, pd_14⟩
theorem cl_Fabric_70 : pj_gV RX1 70 yX1_inTheEnd cX1_inTheEnd 10 (some .long) 2 := ⟨(pj_m4 141 rfl rfl), wm_X1_inTheEnd, ws_X1_inTheEnd, wi_X1, wc_X1_inTheEnd, nh_X1.1, nh_X1.2, pd_14⟩
theorem cl_Fabric_73 : pj_gV RX1 73 yX1_places cX1_places 1 (some .int) 0 := ⟨(pj_m2 191 rfl rfl), wm_X1_places, ws_X1_places, wi_X1, wc_X1_places, nh_X1.1, nh_X1.2, pd_8⟩
theorem wc_J9_min_7cf53 : Cond.code yJ9_min_7cf53 cJ9_min_7cf53 2 (some .int) ∈ pj_tbl := (pj_m2 173 rfl rfl)
theorem wi_J9 : Cond.initialized RJ9 ∈ pj_tbl := (pj_m1 13 rfl rfl)
theorem nh_J9 : RJ9 ≠ "java/lang/invoke/MethodHandle" ∧ RJ9 ≠ "java/lang/invoke/VarHandle" := by decide +kernel
theorem cl_Fabric_77 : pj_gS RX1 77 Lib.Math.min.name Lib.Math.min.code 2 (some .int) 2 := ⟨(pj_m2 231 rfl rfl), (pj_m2 172 rfl rfl), (pj_m1 13 rfl rfl), (pj_m2 173 rfl rfl), nh_J9.1, nh_J9.2, pd_17⟩
theorem cl_Fabric_83 : pj_gV RX1 83 yX1_stitchAt cX1_stitchAt 4 (some .int) 1 := ⟨(pj_m4 109 rfl rfl), wm_X1_stitchAt, ws_X1_stitchAt, wi_X1, wc_X1_stitchAt, nh_X1.1, nh_X1.2, pd_12⟩
theorem wc_X1_hasThreadBetween : Cond.code yX1_hasThreadBetween cX1_hasThreadBetween 3 (some .boolean) ∈ pj_tbl := (pj_m2 230 rfl rfl)
theorem wm_X1_hasThreadBetween : Cond.instanceMethod yX1_hasThreadBetween ∈ pj_tbl := (pj_m2 228 rfl rfl)
theorem ws_X1_hasThreadBetween : Cond.selects RX1 yX1_hasThreadBetween yX1_hasThreadBetween ∈ pj_tbl := (pj_m2 229 rfl rfl)
theorem cl_Fabric_87 : pj_gV RX1 87 yX1_hasThreadBetween cX1_hasThreadBetween 3 (some .boolean) 2 := ⟨(pj_m4 110 rfl rfl), wm_X1_hasThreadBetween, ws_X1_hasThreadBetween, wi_X1, wc_X1_hasThreadBetween, nh_X1.1, nh_X1.2, pd_5⟩
theorem cl_Fabric_95 : pj_gV RX1 95 yX1_kindOf cX1_kindOf 2 (some .int) 1 := ⟨(pj_m3 3 rfl rfl), wm_X1_kindOf, ws_X1_kindOf, wi_X1, wc_X1_kindOf, nh_X1.1, nh_X1.2, pd_12⟩
theorem cl_Fabric_98 : pj_gS RX1 98 yJ13_bitCount_95d88 cJ13_bitCount_95d88 2 (some .int) 1 := ⟨(pj_m3 64 rfl rfl), wt_J13_bitCount_95d88, wi_J13, wc_J13_bitCount_95d88, nh_J13.1, nh_J13.2, pd_18⟩
theorem cl_Law_25 : pj_gS RX2 25 Lib.Math.min.name Lib.Math.min.code 2 (some .int) 2 := ⟨(pj_m3 36 rfl rfl), (pj_m2 172 rfl rfl), (pj_m1 13 rfl rfl), (pj_m2 173 rfl rfl), nh_J9.1, nh_J9.2, pd_17⟩
theorem wc_J9_max_7cf53 : Cond.code yJ9_max_7cf53 cJ9_max_7cf53 2 (some .int) ∈ pj_tbl := (pj_m3 39 rfl rfl)
theorem cl_Law_31 : pj_gS RX2 31 Lib.Math.max.name Lib.Math.max.code 2 (some .int) 2 := ⟨(pj_m3 37 rfl rfl), (pj_m3 38 rfl rfl), (pj_m1 13 rfl rfl), (pj_m3 39 rfl rfl), nh_J9.1, nh_J9.2, pd_17⟩
theorem cl_Law_34 : pj_gA RX2 34 := ⟨(pj_m4 14 rfl rfl), (pj_m4 16 rfl rfl), (pj_m4 15 rfl rfl), (pj_m1 19 rfl rfl)⟩
theorem wc_X2_pop : Cond.code yX2_pop cX2_pop 1 (some .int) ∈ pj_tbl := (pj_m3 32 rfl rfl)
theorem wm_X2_pop : Cond.instanceMethod yX2_pop ∈ pj_tbl := (pj_m3 31 rfl rfl)
theorem ws_X2_pop : Cond.selects RX2 yX2_pop yX2_pop ∈ pj_tbl := (pj_mem 2 rfl rfl)
theorem cl_Law_43 : pj_gV RX2 43 yX2_pop cX2_pop 1 (some .int) 0 := ⟨(pj_m3 29 rfl rfl), wm_X2_pop, ws_X2_pop, wi_X2, wc_X2_pop, nh_X2.1, nh_X2.2, pd_8⟩
theorem wc_X2_heldToOdds : Cond.code yX2_heldToOdds cX2_heldToOdds 1 (some .int) ∈ pj_tbl := (pj_m3 35 rfl rfl)
theorem wt_X2_heldToOdds : Cond.static yX2_heldToOdds ∈ pj_tbl := (pj_m3 34 rfl rfl)
theorem cl_Law_47 : pj_gS RX2 47 yX2_heldToOdds cX2_heldToOdds 1 (some .int) 1 := ⟨(pj_m3 33 rfl rfl), wt_X2_heldToOdds, wi_X2, wc_X2_heldToOdds, nh_X2.1, nh_X2.2, pd_12⟩
theorem wc_X2_reckon : Cond.code yX2_reckon cX2_reckon 7 none ∈ pj_tbl := (pj_m3 43 rfl rfl)
theorem pd_23 : (parseMethodDescriptor "(ILPulledJersey$Fabric;II)V").map (fun d => d.parameters.length) = some 4 := by decide +kernel
theorem wm_X2_reckon : Cond.instanceMethod yX2_reckon ∈ pj_tbl := (pj_m3 42 rfl rfl)
theorem ws_X2_reckon : Cond.selects RX2 yX2_reckon yX2_reckon ∈ pj_tbl := (pj_mem 3 rfl rfl)
theorem cl_Law_51 : pj_gV RX2 51 yX2_reckon cX2_reckon 7 none 4 := ⟨(pj_m3 40 rfl rfl), wm_X2_reckon, ws_X2_reckon, wi_X2, wc_X2_reckon, nh_X2.1, nh_X2.2, pd_23⟩
theorem wc_X2_push : Cond.code yX2_push cX2_push 2 none ∈ pj_tbl := (pj_m3 47 rfl rfl)
theorem wm_X2_push : Cond.instanceMethod yX2_push ∈ pj_tbl := (pj_m3 46 rfl rfl)
theorem ws_X2_push : Cond.selects RX2 yX2_push yX2_push ∈ pj_tbl := (pj_mem 4 rfl rfl)
theorem cl_Law_55 : pj_gV RX2 55 yX2_push cX2_push 2 none 1 := ⟨(pj_m3 44 rfl rfl), wm_X2_push, ws_X2_push, wi_X2, wc_X2_push, nh_X2.1, nh_X2.2, pd_10⟩
theorem wc_X2_traitOf : Cond.code yX2_traitOf cX2_traitOf 4 (some .int) ∈ pj_tbl := (pj_m3 50 rfl rfl)
theorem pd_24 : (parseMethodDescriptor "(ILPulledJersey$Fabric;II)I").map (fun d => d.parameters.length) = some 4 := by decide +kernel
theorem wt_X2_traitOf : Cond.static yX2_traitOf ∈ pj_tbl := (pj_m3 49 rfl rfl)
theorem cl_Law_59 : pj_gS RX2 59 yX2_traitOf cX2_traitOf 4 (some .int) 4 := ⟨(pj_m3 48 rfl rfl), wt_X2_traitOf, wi_X2, wc_X2_traitOf, nh_X2.1, nh_X2.2, pd_24⟩
theorem wc_X2_ofTwo : Cond.code yX2_ofTwo cX2_ofTwo 3 (some .int) ∈ pj_tbl := (pj_m3 72 rfl rfl)
theorem pd_25 : (parseMethodDescriptor "(III)I").map (fun d => d.parameters.length) = some 3 := by decide +kernel
theorem wt_X2_ofTwo : Cond.static yX2_ofTwo ∈ pj_tbl := (pj_m3 71 rfl rfl)
theorem cl_Law_63 : pj_gS RX2 63 yX2_ofTwo cX2_ofTwo 3 (some .int) 3 := ⟨(pj_m3 70 rfl rfl), wt_X2_ofTwo, wi_X2, wc_X2_ofTwo, nh_X2.1, nh_X2.2, pd_25⟩
theorem cl_Law_67 : pj_gV RX2 67 yX1_kindOf cX1_kindOf 2 (some .int) 1 := ⟨(pj_m3 51 rfl rfl), wm_X1_kindOf, ws_X1_kindOf, wi_X1, wc_X1_kindOf, nh_X1.1, nh_X1.2, pd_12⟩
theorem wc_X1_besideOf : Cond.code yX1_besideOf cX1_besideOf 5 (some .int) ∈ pj_tbl := (pj_m3 55 rfl rfl)
theorem wm_X1_besideOf : Cond.instanceMethod yX1_besideOf ∈ pj_tbl := (pj_m3 53 rfl rfl)
theorem ws_X1_besideOf : Cond.selects RX1 yX1_besideOf yX1_besideOf ∈ pj_tbl := (pj_m3 54 rfl rfl)
theorem cl_Law_72 : pj_gV RX2 72 yX1_besideOf cX1_besideOf 5 (some .int) 1 := ⟨(pj_m3 52 rfl rfl), wm_X1_besideOf, ws_X1_besideOf, wi_X1, wc_X1_besideOf, nh_X1.1, nh_X1.2, pd_12⟩
theorem wc_X1_belowOf : Cond.code yX1_belowOf cX1_belowOf 2 (some .int) ∈ pj_tbl := (pj_m3 59 rfl rfl)
theorem wm_X1_belowOf : Cond.instanceMethod yX1_belowOf ∈ pj_tbl := (pj_m3 57 rfl rfl)
theorem ws_X1_belowOf : Cond.selects RX1 yX1_belowOf yX1_belowOf ∈ pj_tbl := (pj_m3 58 rfl rfl)
theorem cl_Law_75 : pj_gV RX2 75 yX1_belowOf cX1_belowOf 2 (some .int) 1 := ⟨(pj_m3 56 rfl rfl), wm_X1_belowOf, ws_X1_belowOf, wi_X1, wc_X1_belowOf, nh_X1.1, nh_X1.2, pd_12⟩
theorem wc_X1_goneInColumn : Cond.code yX1_goneInColumn cX1_goneInColumn 4 (some .int) ∈ pj_tbl := (pj_m3 63 rfl rfl)
theorem wm_X1_goneInColumn : Cond.instanceMethod yX1_goneInColumn ∈ pj_tbl := (pj_m3 61 rfl rfl)
theorem ws_X1_goneInColumn : Cond.selects RX1 yX1_goneInColumn yX1_goneInColumn ∈ pj_tbl := (pj_m3 62 rfl rfl)
theorem cl_Law_78 : pj_gV RX2 78 yX1_goneInColumn cX1_goneInColumn 4 (some .int) 1 := ⟨(pj_m3 60 rfl rfl), wm_X1_goneInColumn, ws_X1_goneInColumn, wi_X1, wc_X1_goneInColumn, nh_X1.1, nh_X1.2, pd_12⟩
theorem wc_X3_scan : Cond.code yX3_scan cX3_scan 6 none ∈ pj_tbl := (pj_m3 107 rfl rfl)
theorem pd_26 : (parseMethodDescriptor "(LPulledJersey$Tape;)V").map (fun d => d.parameters.length) = some 1 := by decide +kernel
theorem wm_X3_scan : Cond.instanceMethod yX3_scan ∈ pj_tbl := (pj_m3 106 rfl rfl)
theorem ws_X3_scan : Cond.selects RX3 yX3_scan yX3_scan ∈ pj_tbl := (pj_mem 6 rfl rfl)
theorem cl_Reader_40 : pj_gV RX3 40 yX3_scan cX3_scan 6 none 1 := ⟨(pj_m3 104 rfl rfl), wm_X3_scan, ws_X3_scan, wi_X3, wc_X3_scan, nh_X3.1, nh_X3.2, pd_26⟩
theorem wc_X3_token : Cond.code yX3_token cX3_token 1 (some .int) ∈ pj_tbl := (pj_m3 209 rfl rfl)
theorem wm_X3_token : Cond.instanceMethod yX3_token ∈ pj_tbl := (pj_m3 208 rfl rfl)
theorem ws_X3_token : Cond.selects RX3 yX3_token yX3_token ∈ pj_tbl := (pj_mem 7 rfl rfl)
theorem cl_Reader_44 : pj_gV RX3 44 yX3_token cX3_token 1 (some .int) 0 := ⟨(pj_m3 206 rfl rfl), wm_X3_token, ws_X3_token, wi_X3, wc_X3_token, nh_X3.1, nh_X3.2, pd_8⟩
theorem wc_X3_readLine : Cond.code yX3_readLine cX3_readLine 2 (some .boolean) ∈ pj_tbl := (pj_m3 213 rfl rfl)
theorem wm_X3_readLine : Cond.instanceMethod yX3_readLine ∈ pj_tbl := (pj_m3 212 rfl rfl)
theorem ws_X3_readLine : Cond.selects RX3 yX3_readLine yX3_readLine ∈ pj_tbl := (pj_mem 8 rfl rfl)
theorem cl_Reader_48 : pj_gV RX3 48 yX3_readLine cX3_readLine 2 (some .boolean) 0 := ⟨(pj_m3 210 rfl rfl), wm_X3_readLine, ws_X3_readLine, wi_X3, wc_X3_readLine, nh_X3.1, nh_X3.2, pd_9⟩
theorem wc_X2_take : Cond.code yX2_take cX2_take 4 none ∈ pj_tbl := (pj_m4 13 rfl rfl)
theorem pd_27 : (parseMethodDescriptor "([III)V").map (fun d => d.parameters.length) = some 3 := by decide +kernel
theorem wm_X2_take : Cond.instanceMethod yX2_take ∈ pj_tbl := (pj_m4 11 rfl rfl)
theorem ws_X2_take : Cond.selects RX2 yX2_take yX2_take ∈ pj_tbl := (pj_m4 12 rfl rfl)
theorem cl_Reader_52 : pj_gV RX3 52 yX2_take cX2_take 4 none 3 := ⟨(pj_m4 10 rfl rfl), wm_X2_take, ws_X2_take, wi_X2, wc_X2_take, nh_X2.1, nh_X2.2, pd_27⟩
theorem wc_X7_behindBlanks : Cond.code yX7_behindBlanks cX7_behindBlanks 3 (some .int) ∈ pj_tbl := (pj_m3 111 rfl rfl)
theorem wm_X7_behindBlanks : Cond.instanceMethod yX7_behindBlanks ∈ pj_tbl := (pj_m3 109 rfl rfl)
theorem ws_X7_behindBlanks : Cond.selects RX7 yX7_behindBlanks yX7_behindBlanks ∈ pj_tbl := (pj_m3 110 rfl rfl)
theorem cl_Reader_61 : pj_gV RX3 61 yX7_behindBlanks cX7_behindBlanks 3 (some .int) 1 := ⟨(pj_m3 108 rfl rfl), wm_X7_behindBlanks, ws_X7_behindBlanks, wi_X7, wc_X7_behindBlanks, nh_X7.1, nh_X7.2, pd_12⟩
theorem wc_X7_behindToken : Cond.code yX7_behindToken cX7_behindToken 4 (some .int) ∈ pj_tbl := (pj_m3 119 rfl rfl)
theorem wm_X7_behindToken : Cond.instanceMethod yX7_behindToken ∈ pj_tbl := (pj_m3 117 rfl rfl)
theorem ws_X7_behindToken : Cond.selects RX7 yX7_behindToken yX7_behindToken ∈ pj_tbl := (pj_m3 118 rfl rfl)
theorem cl_Reader_67 : pj_gV RX3 67 yX7_behindToken cX7_behindToken 4 (some .int) 1 := ⟨(pj_m3 116 rfl rfl), wm_X7_behindToken, ws_X7_behindToken, wi_X7, wc_X7_behindToken, nh_X7.1, nh_X7.2, pd_12⟩
theorem wc_X3_tokenOf : Cond.code yX3_tokenOf cX3_tokenOf 4 (some .int) ∈ pj_tbl := (pj_m3 128 rfl rfl)
theorem pd_28 : (parseMethodDescriptor "(LPulledJersey$Tape;II)I").map (fun d => d.parameters.length) = some 3 := by decide +kernel
theorem wt_X3_tokenOf : Cond.static yX3_tokenOf ∈ pj_tbl := (pj_m3 127 rfl rfl)
theorem cl_Reader_70 : pj_gS RX3 70 yX3_tokenOf cX3_tokenOf 4 (some .int) 3 := ⟨(pj_m3 126 rfl rfl), wt_X3_tokenOf, wi_X3, wc_X3_tokenOf, nh_X3.1, nh_X3.2, pd_28⟩
theorem wc_X7_numberAt : Cond.code yX7_numberAt cX7_numberAt 5 (some .int) ∈ pj_tbl := (pj_m3 205 rfl rfl)
theorem wm_X7_numberAt : Cond.instanceMethod yX7_numberAt ∈ pj_tbl := (pj_m3 203 rfl rfl)
theorem ws_X7_numberAt : Cond.selects RX7 yX7_numberAt yX7_numberAt ∈ pj_tbl := (pj_m3 204 rfl rfl)
theorem cl_Reader_74 : pj_gV RX3 74 yX7_numberAt cX7_numberAt 5 (some .int) 2 := ⟨(pj_m3 202 rfl rfl), wm_X7_numberAt, ws_X7_numberAt, wi_X7, wc_X7_numberAt, nh_X7.1, nh_X7.2, pd_17⟩
theorem wc_X7_signAt : Cond.code yX7_signAt cX7_signAt 2 (some .int) ∈ pj_tbl := (pj_m3 115 rfl rfl)
theorem wm_X7_signAt : Cond.instanceMethod yX7_signAt ∈ pj_tbl := (pj_m3 113 rfl rfl)
theorem ws_X7_signAt : Cond.selects RX7 yX7_signAt yX7_signAt ∈ pj_tbl := (pj_m3 114 rfl rfl)
theorem cl_Reader_78 : pj_gV RX3 78 yX7_signAt cX7_signAt 2 (some .int) 1 := ⟨(pj_m3 129 rfl rfl), wm_X7_signAt, ws_X7_signAt, wi_X7, wc_X7_signAt, nh_X7.1, nh_X7.2, pd_12⟩
theorem wc_X7_isLetter : Cond.code yX7_isLetter cX7_isLetter 1 (some .boolean) ∈ pj_tbl := (pj_m3 122 rfl rfl)
theorem wt_X7_isLetter : Cond.static yX7_isLetter ∈ pj_tbl := (pj_m3 121 rfl rfl)
theorem cl_Reader_81 : pj_gS RX3 81 yX7_isLetter cX7_isLetter 1 (some .boolean) 1 := ⟨(pj_m3 130 rfl rfl), wt_X7_isLetter, wi_X7, wc_X7_isLetter, nh_X7.1, nh_X7.2, pd_2⟩
theorem wc_X3_wordOf : Cond.code yX3_wordOf cX3_wordOf 3 (some .int) ∈ pj_tbl := (pj_m3 133 rfl rfl)
theorem wt_X3_wordOf : Cond.static yX3_wordOf ∈ pj_tbl := (pj_m3 132 rfl rfl)
theorem cl_Reader_85 : pj_gS RX3 85 yX3_wordOf cX3_wordOf 3 (some .int) 3 := ⟨(pj_m3 131 rfl rfl), wt_X3_wordOf, wi_X3, wc_X3_wordOf, nh_X3.1, nh_X3.2, pd_28⟩
theorem wc_X7_isDigit : Cond.code yX7_isDigit cX7_isDigit 1 (some .boolean) ∈ pj_tbl := (pj_m3 125 rfl rfl)
theorem wt_X7_isDigit : Cond.static yX7_isDigit ∈ pj_tbl := (pj_m3 124 rfl rfl)
theorem cl_Reader_88 : pj_gS RX3 88 yX7_isDigit cX7_isDigit 1 (some .boolean) 1 := ⟨(pj_m3 201 rfl rfl), wt_X7_isDigit, wi_X7, wc_X7_isDigit, nh_X7.1, nh_X7.2, pd_2⟩
theorem wc_X7_spells : Cond.code yX7_spells cX7_spells 5 (some .boolean) ∈ pj_tbl := (pj_m3 138 rfl rfl)
theorem pd_29 : (parseMethodDescriptor "(Ljava/lang/String;II)Z").map (fun d => d.parameters.length) = some 3 := by decide +kernel
theorem wm_X7_spells : Cond.instanceMethod yX7_spells ∈ pj_tbl := (pj_m3 136 rfl rfl)
theorem ws_X7_spells : Cond.selects RX7 yX7_spells yX7_spells ∈ pj_tbl := (pj_m3 137 rfl rfl)
theorem cl_Reader_93 : pj_gV RX3 93 yX7_spells cX7_spells 5 (some .boolean) 3 := ⟨(pj_m3 135 rfl rfl), wm_X7_spells, ws_X7_spells, wi_X7, wc_X7_spells, nh_X7.1, nh_X7.2, pd_29⟩
theorem wc_X3_traitWordOf : Cond.code yX3_traitWordOf cX3_traitWordOf 3 (some .int) ∈ pj_tbl := (pj_m3 193 rfl rfl)
theorem wt_X3_traitWordOf : Cond.static yX3_traitWordOf ∈ pj_tbl := (pj_m3 192 rfl rfl)
theorem cl_Reader_105 : pj_gS RX3 105 yX3_traitWordOf cX3_traitWordOf 3 (some .int) 3 := ⟨(pj_m3 191 rfl rfl), wt_X3_traitWordOf, wi_X3, wc_X3_traitWordOf, nh_X3.1, nh_X3.2, pd_28⟩
theorem wc_X3_fails : Cond.code yX3_fails cX3_fails 2 (some .boolean) ∈ pj_tbl := (pj_m3 217 rfl rfl)
theorem wm_X3_fails : Cond.instanceMethod yX3_fails ∈ pj_tbl := (pj_m3 216 rfl rfl)
theorem ws_X3_fails : Cond.selects RX3 yX3_fails yX3_fails ∈ pj_tbl := (pj_mem 9 rfl rfl)
theorem cl_Reader_122 : pj_gV RX3 122 yX3_fails cX3_fails 2 (some .boolean) 1 := ⟨(pj_m3 214 rfl rfl), wm_X3_fails, ws_X3_fails, wi_X3, wc_X3_fails, nh_X3.1, nh_X3.2, pd_2⟩
theorem wc_X3_readSum : Cond.code yX3_readSum cX3_readSum 4 (some .boolean) ∈ pj_tbl := (pj_m3 221 rfl rfl)
theorem wm_X3_readSum : Cond.instanceMethod yX3_readSum ∈ pj_tbl := (pj_m3 220 rfl rfl)
theorem ws_X3_readSum : Cond.selects RX3 yX3_readSum yX3_readSum ∈ pj_tbl := (pj_mem 10 rfl rfl)
theorem cl_Reader_125 : pj_gV RX3 125 yX3_readSum cX3_readSum 4 (some .boolean) 0 := ⟨(pj_m3 218 rfl rfl), wm_X3_readSum, ws_X3_readSum, wi_X3, wc_X3_readSum, nh_X3.1, nh_X3.2, pd_9⟩
theorem wc_X3_readCondition : Cond.code yX3_readCondition cX3_readCondition 5 (some .boolean) ∈ pj_tbl := (pj_m4 1 rfl rfl)
theorem wm_X3_readCondition : Cond.instanceMethod yX3_readCondition ∈ pj_tbl := (pj_m4 0 rfl rfl)
theorem ws_X3_readCondition : Cond.selects RX3 yX3_readCondition yX3_readCondition ∈ pj_tbl := (pj_mem 15 rfl rfl)
theorem cl_Reader_128 : pj_gV RX3 128 yX3_readCondition cX3_readCondition 5 (some .boolean) 1 := ⟨(pj_m3 238 rfl rfl), wm_X3_readCondition, ws_X3_readCondition, wi_X3, wc_X3_readCondition, nh_X3.1, nh_X3.2, pd_2⟩
theorem wc_X3_emit : Cond.code yX3_emit cX3_emit 2 none ∈ pj_tbl := (pj_m3 233 rfl rfl)
theorem wm_X3_emit : Cond.instanceMethod yX3_emit ∈ pj_tbl := (pj_m3 232 rfl rfl)
theorem ws_X3_emit : Cond.selects RX3 yX3_emit yX3_emit ∈ pj_tbl := (pj_mem 13 rfl rfl)
theorem cl_Reader_131 : pj_gV RX3 131 yX3_emit cX3_emit 2 none 1 := ⟨(pj_m3 230 rfl rfl), wm_X3_emit, ws_X3_emit, wi_X3, wc_X3_emit, nh_X3.1, nh_X3.2, pd_10⟩
theorem wc_X3_readSign : Cond.code yX3_readSign cX3_readSign 2 (some .boolean) ∈ pj_tbl := (pj_m4 9 rfl rfl)
theorem wm_X3_readSign : Cond.instanceMethod yX3_readSign ∈ pj_tbl := (pj_m4 8 rfl rfl)
theorem ws_X3_readSign : Cond.selects RX3 yX3_readSign yX3_readSign ∈ pj_tbl := (pj_mem 17 rfl rfl)
theorem cl_Reader_135 : pj_gV RX3 135 yX3_readSign cX3_readSign 2 (some .boolean) 1 := ⟨(pj_m4 6 rfl rfl), wm_X3_readSign, ws_X3_readSign, wi_X3, wc_X3_readSign, nh_X3.1, nh_X3.2, pd_2⟩
theorem wc_X3_readClause : Cond.code yX3_readClause cX3_readClause 4 (some .boolean) ∈ pj_tbl := (pj_m4 5 rfl rfl)
theorem wm_X3_readClause : Cond.instanceMethod yX3_readClause ∈ pj_tbl := (pj_m4 4 rfl rfl)
theorem ws_X3_readClause : Cond.selects RX3 yX3_readClause yX3_readClause ∈ pj_tbl := (pj_mem 16 rfl rfl)
theorem cl_Reader_138 : pj_gV RX3 138 yX3_readClause cX3_readClause 4 (some .boolean) 1 := ⟨(pj_m4 2 rfl rfl), wm_X3_readClause, ws_X3_readClause, wi_X3, wc_X3_readClause, nh_X3.1, nh_X3.2, pd_2⟩
theorem wc_X3_readUnit : Cond.code yX3_readUnit cX3_readUnit 2 (some .boolean) ∈ pj_tbl := (pj_m3 225 rfl rfl)
theorem wm_X3_readUnit : Cond.instanceMethod yX3_readUnit ∈ pj_tbl := (pj_m3 224 rfl rfl)
theorem ws_X3_readUnit : Cond.selects RX3 yX3_readUnit yX3_readUnit ∈ pj_tbl := (pj_mem 11 rfl rfl)
theorem cl_Reader_141 : pj_gV RX3 141 yX3_readUnit cX3_readUnit 2 (some .boolean) 0 := ⟨(pj_m3 222 rfl rfl), wm_X3_readUnit, ws_X3_readUnit, wi_X3, wc_X3_readUnit, nh_X3.1, nh_X3.2, pd_9⟩
theorem wc_X3_readDivisor : Cond.code yX3_readDivisor cX3_readDivisor 1 (some .boolean) ∈ pj_tbl := (pj_m3 237 rfl rfl)
theorem wm_X3_readDivisor : Cond.instanceMethod yX3_readDivisor ∈ pj_tbl := (pj_m3 236 rfl rfl)
theorem ws_X3_readDivisor : Cond.selects RX3 yX3_readDivisor yX3_readDivisor ∈ pj_tbl := (pj_mem 14 rfl rfl)
theorem cl_Reader_144 : pj_gV RX3 144 yX3_readDivisor cX3_readDivisor 1 (some .boolean) 0 := ⟨(pj_m3 234 rfl rfl), wm_X3_readDivisor, ws_X3_readDivisor, wi_X3, wc_X3_readDivisor, nh_X3.1, nh_X3.2, pd_9⟩
theorem wc_X3_value : Cond.code yX3_value cX3_value 1 (some .int) ∈ pj_tbl := (pj_m3 229 rfl rfl)
theorem wm_X3_value : Cond.instanceMethod yX3_value ∈ pj_tbl := (pj_m3 228 rfl rfl)
theorem ws_X3_value : Cond.selects RX3 yX3_value yX3_value ∈ pj_tbl := (pj_mem 12 rfl rfl)
theorem cl_Reader_147 : pj_gV RX3 147 yX3_value cX3_value 1 (some .int) 0 := ⟨(pj_m3 226 rfl rfl), wm_X3_value, ws_X3_value, wi_X3, wc_X3_value, nh_X3.1, nh_X3.2, pd_8⟩
theorem cl_Past_74 : pj_gS RX4 74 Lib.Math.min.name Lib.Math.min.code 2 (some .int) 2 := ⟨(pj_m2 171 rfl rfl), (pj_m2 172 rfl rfl), (pj_m1 13 rfl rfl), (pj_m2 173 rfl rfl), nh_J9.1, nh_J9.2, pd_17⟩
theorem cl_Puller_32 : pj_gV RX5 32 yX1_stitchAt cX1_stitchAt 4 (some .int) 1 := ⟨(pj_m2 207 rfl rfl), wm_X1_stitchAt, ws_X1_stitchAt, wi_X1, wc_X1_stitchAt, nh_X1.1, nh_X1.2, pd_12⟩
theorem wc_X5_comesUndone : Cond.code yX5_comesUndone cX5_comesUndone 3 (some .boolean) ∈ pj_tbl := (pj_m2 214 rfl rfl)
theorem pd_30 : (parseMethodDescriptor "(LPulledJersey$Fabric;I)Z").map (fun d => d.parameters.length) = some 2 := by decide +kernel
theorem wm_X5_comesUndone : Cond.instanceMethod yX5_comesUndone ∈ pj_tbl := (pj_m2 213 rfl rfl)
theorem ws_X5_comesUndone : Cond.selects RX5 yX5_comesUndone yX5_comesUndone ∈ pj_tbl := (pj_mem 1 rfl rfl)
theorem cl_Puller_36 : pj_gV RX5 36 yX5_comesUndone cX5_comesUndone 3 (some .boolean) 2 := ⟨(pj_m2 211 rfl rfl), wm_X5_comesUndone, ws_X5_comesUndone, wi_X5, wc_X5_comesUndone, nh_X5.1, nh_X5.2, pd_30⟩
theorem cl_Puller_40 : pj_gV RX5 40 yX1_hasThreadBetween cX1_hasThreadBetween 3 (some .boolean) 2 := ⟨(pj_m2 227 rfl rfl), wm_X1_hasThreadBetween, ws_X1_hasThreadBetween, wi_X1, wc_X1_hasThreadBetween, nh_X1.1, nh_X1.2, pd_5⟩
theorem cl_Puller_44 : pj_gN RX5 44 yX10_bitOf cX10_bitOf 3 (some .int) 2 := ⟨by decide +kernel, wt_X10_bitOf, wi_X10, wc_X10_bitOf, nh_X10.1, nh_X10.2, pd_13⟩
theorem cl_Puller_51 : pj_gV RX5 51 yX1_heldOf cX1_heldOf 7 (some .long) 2 := ⟨(pj_m2 216 rfl rfl), wm_X1_heldOf, ws_X1_heldOf, wi_X1, wc_X1_heldOf, nh_X1.1, nh_X1.2, pd_14⟩
theorem cl_Saver_29 : pj_gS RX6 29 yJ13_bitCount_95d88 cJ13_bitCount_95d88 2 (some .int) 1 := ⟨(pj_m4 78 rfl rfl), wt_J13_bitCount_95d88, wi_J13, wc_J13_bitCount_95d88, nh_J13.1, nh_J13.2, pd_18⟩
theorem cl_Saver_35 : pj_gS RX6 35 Lib.Math.min.name Lib.Math.min.code 2 (some .int) 2 := ⟨(pj_m4 79 rfl rfl), (pj_m2 172 rfl rfl), (pj_m1 13 rfl rfl), (pj_m2 173 rfl rfl), nh_J9.1, nh_J9.2, pd_17⟩
theorem wc_X6_goingWith : Cond.code yX6_goingWith cX6_goingWith 3 (some .long) ∈ pj_tbl := (pj_m4 82 rfl rfl)
theorem pd_31 : (parseMethodDescriptor "(LPulledJersey$Fabric;J)J").map (fun d => d.parameters.length) = some 2 := by decide +kernel
theorem wt_X6_goingWith : Cond.static yX6_goingWith ∈ pj_tbl := (pj_m4 81 rfl rfl)
theorem cl_Saver_41 : pj_gS RX6 41 yX6_goingWith cX6_goingWith 3 (some .long) 2 := ⟨(pj_m4 80 rfl rfl), wt_X6_goingWith, wi_X6, wc_X6_goingWith, nh_X6.1, nh_X6.2, pd_31⟩
theorem wc_X6_choose : Cond.code yX6_choose cX6_choose 16 none ∈ pj_tbl := (pj_m4 87 rfl rfl)
theorem pd_32 : (parseMethodDescriptor "(LPulledJersey$Fabric;JIJJ)V").map (fun d => d.parameters.length) = some 5 := by decide +kernel
theorem wm_X6_choose : Cond.instanceMethod yX6_choose ∈ pj_tbl := (pj_m4 86 rfl rfl)
theorem ws_X6_choose : Cond.selects RX6 yX6_choose yX6_choose ∈ pj_tbl := (pj_mem 18 rfl rfl)
theorem cl_Saver_45 : pj_gV RX6 45 yX6_choose cX6_choose 16 none 5 := ⟨(pj_m4 84 rfl rfl), wm_X6_choose, ws_X6_choose, wi_X6, wc_X6_choose, nh_X6.1, nh_X6.2, pd_32⟩
theorem cl_Saver_49 : pj_gV RX6 49 yX1_inTheEnd cX1_inTheEnd 10 (some .long) 2 := ⟨(pj_m4 83 rfl rfl), wm_X1_inTheEnd, ws_X1_inTheEnd, wi_X1, wc_X1_inTheEnd, nh_X1.1, nh_X1.2, pd_14⟩
theorem cl_Tape_19 : pj_gV RX7 19 yX7_signAt cX7_signAt 2 (some .int) 1 := ⟨(pj_m3 112 rfl rfl), wm_X7_signAt, ws_X7_signAt, wi_X7, wc_X7_signAt, nh_X7.1, nh_X7.2, pd_12⟩
theorem cl_Tape_23 : pj_gS RX7 23 yX7_isLetter cX7_isLetter 1 (some .boolean) 1 := ⟨(pj_m3 120 rfl rfl), wt_X7_isLetter, wi_X7, wc_X7_isLetter, nh_X7.1, nh_X7.2, pd_2⟩
theorem cl_Tape_27 : pj_gS RX7 27 yX7_isDigit cX7_isDigit 1 (some .boolean) 1 := ⟨(pj_m3 123 rfl rfl), wt_X7_isDigit, wi_X7, wc_X7_isDigit, nh_X7.1, nh_X7.2, pd_2⟩
theorem wc_J0_length_8abf5 : Cond.code yJ0_length_8abf5 cJ0_length_8abf5 1 (some .int) ∈ pj_tbl := (pj_m3 142 rfl rfl)
theorem wi_J0 : Cond.initialized RJ0 ∈ pj_tbl := (pj_m1 15 rfl rfl)
theorem nh_J0 : RJ0 ≠ "java/lang/invoke/MethodHandle" ∧ RJ0 ≠ "java/lang/invoke/VarHandle" := by decide +kernel
theorem wm_J0_length_8abf5 : Cond.instanceMethod yJ0_length_8abf5 ∈ pj_tbl := (pj_m3 140 rfl rfl)
theorem ws_J0_length_8abf5 : Cond.selects RJ0 yJ0_length_8abf5 yJ0_length_8abf5 ∈ pj_tbl := (pj_m3 141 rfl rfl)
theorem cl_Tape_30 : pj_gV RX7 30 yJ0_length_8abf5 cJ0_length_8abf5 1 (some .int) 0 := ⟨(pj_m3 139 rfl rfl), wm_J0_length_8abf5, ws_J0_length_8abf5, wi_J0, wc_J0_length_8abf5, nh_J0.1, nh_J0.2, pd_8⟩
theorem wc_J0_charAt_5068e : Cond.code yJ0_charAt_5068e cJ0_charAt_5068e 2 (some .char) ∈ pj_tbl := (pj_m3 152 rfl rfl)
theorem pd_33 : (parseMethodDescriptor "(I)C").map (fun d => d.parameters.length) = some 1 := by decide +kernel
theorem wm_J0_charAt_5068e : Cond.instanceMethod yJ0_charAt_5068e ∈ pj_tbl := (pj_m3 150 rfl rfl)
theorem ws_J0_charAt_5068e : Cond.selects RJ0 yJ0_charAt_5068e yJ0_charAt_5068e ∈ pj_tbl := (pj_m3 151 rfl rfl)
theorem cl_Tape_35 : pj_gV RX7 35 yJ0_charAt_5068e cJ0_charAt_5068e 2 (some .char) 1 := ⟨(pj_m3 149 rfl rfl), wm_J0_charAt_5068e, ws_J0_charAt_5068e, wi_J0, wc_J0_charAt_5068e, nh_J0.1, nh_J0.2, pd_33⟩
theorem wc_X1_begin : Cond.code yX1_begin cX1_begin 3 none ∈ pj_tbl := (pj_m2 81 rfl rfl)
theorem wm_X1_begin : Cond.instanceMethod yX1_begin ∈ pj_tbl := (pj_m2 79 rfl rfl)
theorem ws_X1_begin : Cond.selects RX1 yX1_begin yX1_begin ∈ pj_tbl := (pj_m2 80 rfl rfl)
theorem cl_Whole_39 : pj_gV RX8 39 yX1_begin cX1_begin 3 none 2 := ⟨(pj_m2 78 rfl rfl), wm_X1_begin, ws_X1_begin, wi_X1, wc_X1_begin, nh_X1.1, nh_X1.2, pd_0⟩
theorem wc_X2_clear : Cond.code yX2_clear cX2_clear 1 none ∈ pj_tbl := (pj_m2 88 rfl rfl)
theorem wm_X2_clear : Cond.instanceMethod yX2_clear ∈ pj_tbl := (pj_m2 86 rfl rfl)
theorem ws_X2_clear : Cond.selects RX2 yX2_clear yX2_clear ∈ pj_tbl := (pj_m2 87 rfl rfl)
theorem cl_Whole_43 : pj_gV RX8 43 yX2_clear cX2_clear 1 none 0 := ⟨(pj_m2 85 rfl rfl), wm_X2_clear, ws_X2_clear, wi_X2, wc_X2_clear, nh_X2.1, nh_X2.2, pd_1⟩
theorem wc_X1_copyFrom : Cond.code yX1_copyFrom cX1_copyFrom 2 none ∈ pj_tbl := (pj_m4 161 rfl rfl)
theorem pd_34 : (parseMethodDescriptor "(LPulledJersey$Fabric;)V").map (fun d => d.parameters.length) = some 1 := by decide +kernel
theorem wm_X1_copyFrom : Cond.instanceMethod yX1_copyFrom ∈ pj_tbl := (pj_m4 159 rfl rfl)
theorem ws_X1_copyFrom : Cond.selects RX1 yX1_copyFrom yX1_copyFrom ∈ pj_tbl := (pj_m4 160 rfl rfl)
theorem cl_Whole_54 : pj_gV RX8 54 yX1_copyFrom cX1_copyFrom 2 none 1 := ⟨(pj_m4 158 rfl rfl), wm_X1_copyFrom, ws_X1_copyFrom, wi_X1, wc_X1_copyFrom, nh_X1.1, nh_X1.2, pd_34⟩
theorem cl_Whole_68 : pj_gV RX8 68 yX2_take cX2_take 4 none 3 := ⟨(pj_m4 162 rfl rfl), wm_X2_take, ws_X2_take, wi_X2, wc_X2_take, nh_X2.1, nh_X2.2, pd_27⟩
theorem wc_X0_copyFrom : Cond.code yX0_copyFrom cX0_copyFrom 2 none ∈ pj_tbl := (pj_m4 166 rfl rfl)
theorem pd_35 : (parseMethodDescriptor "(LPulledJersey$Book;)V").map (fun d => d.parameters.length) = some 1 := by decide +kernel
theorem wm_X0_copyFrom : Cond.instanceMethod yX0_copyFrom ∈ pj_tbl := (pj_m4 164 rfl rfl)
theorem ws_X0_copyFrom : Cond.selects RX0 yX0_copyFrom yX0_copyFrom ∈ pj_tbl := (pj_m4 165 rfl rfl)
theorem cl_Whole_72 : pj_gV RX8 72 yX0_copyFrom cX0_copyFrom 2 none 1 := ⟨(pj_m4 163 rfl rfl), wm_X0_copyFrom, ws_X0_copyFrom, wi_X0, wc_X0_copyFrom, nh_X0.1, nh_X0.2, pd_35⟩
theorem wc_X9_copyFrom : Cond.code yX9_copyFrom cX9_copyFrom 2 none ∈ pj_tbl := (pj_m4 171 rfl rfl)
theorem pd_36 : (parseMethodDescriptor "(LPulledJersey$Wool;)V").map (fun d => d.parameters.length) = some 1 := by decide +kernel
theorem wm_X9_copyFrom : Cond.instanceMethod yX9_copyFrom ∈ pj_tbl := (pj_m4 169 rfl rfl)
theorem ws_X9_copyFrom : Cond.selects RX9 yX9_copyFrom yX9_copyFrom ∈ pj_tbl := (pj_m4 170 rfl rfl)
theorem cl_Whole_75 : pj_gV RX8 75 yX9_copyFrom cX9_copyFrom 2 none 1 := ⟨(pj_m4 168 rfl rfl), wm_X9_copyFrom, ws_X9_copyFrom, wi_X9, wc_X9_copyFrom, nh_X9.1, nh_X9.2, pd_36⟩
theorem wc_X0_note : Cond.code yX0_note cX0_note 4 none ∈ pj_tbl := (pj_m2 182 rfl rfl)
theorem pd_37 : (parseMethodDescriptor "(III)V").map (fun d => d.parameters.length) = some 3 := by decide +kernel
theorem wm_X0_note : Cond.instanceMethod yX0_note ∈ pj_tbl := (pj_m2 180 rfl rfl)
theorem ws_X0_note : Cond.selects RX0 yX0_note yX0_note ∈ pj_tbl := (pj_m2 181 rfl rfl)
theorem cl_Whole_87 : pj_gV RX8 87 yX0_note cX0_note 4 none 3 := ⟨(pj_m2 179 rfl rfl), wm_X0_note, ws_X0_note, wi_X0, wc_X0_note, nh_X0.1, nh_X0.2, pd_37⟩
theorem cl_Whole_97 : pj_gV RX8 97 yX8_letGo cX8_letGo 3 none 2 := ⟨(pj_m2 236 rfl rfl), wm_X8_letGo, ws_X8_letGo, wi_X8, wc_X8_letGo, nh_X8.1, nh_X8.2, pd_0⟩
theorem wc_X1_wind : Cond.code yX1_wind cX1_wind 5 (some .int) ∈ pj_tbl := (pj_m3 0 rfl rfl)
theorem wm_X1_wind : Cond.instanceMethod yX1_wind ∈ pj_tbl := (pj_m2 238 rfl rfl)
theorem ws_X1_wind : Cond.selects RX1 yX1_wind yX1_wind ∈ pj_tbl := (pj_m2 239 rfl rfl)
theorem cl_Whole_103 : pj_gV RX8 103 yX1_wind cX1_wind 5 (some .int) 1 := ⟨(pj_m2 237 rfl rfl), wm_X1_wind, ws_X1_wind, wi_X1, wc_X1_wind, nh_X1.1, nh_X1.2, pd_18⟩
theorem wc_X9_note : Cond.code yX9_note cX9_note 2 none ∈ pj_tbl := (pj_m3 10 rfl rfl)
theorem wm_X9_note : Cond.instanceMethod yX9_note ∈ pj_tbl := (pj_m3 8 rfl rfl)
theorem ws_X9_note : Cond.selects RX9 yX9_note yX9_note ∈ pj_tbl := (pj_m3 9 rfl rfl)
theorem cl_Whole_107 : pj_gV RX8 107 yX9_note cX9_note 2 none 1 := ⟨(pj_m3 7 rfl rfl), wm_X9_note, ws_X9_note, wi_X9, wc_X9_note, nh_X9.1, nh_X9.2, pd_10⟩
theorem cl_Whole_112 : pj_gV RX8 112 yX1_loose cX1_loose 1 (some .long) 0 := ⟨(pj_m3 19 rfl rfl), wm_X1_loose, ws_X1_loose, wi_X1, wc_X1_loose, nh_X1.1, nh_X1.2, pd_15⟩
theorem cl_Whole_116 : pj_gN RX8 116 yX10_bitOf cX10_bitOf 3 (some .int) 2 := ⟨by decide +kernel, wt_X10_bitOf, wi_X10, wc_X10_bitOf, nh_X10.1, nh_X10.2, pd_13⟩
theorem cl_Whole_120 : pj_gV RX8 120 yX2_oddsOf cX2_oddsOf 8 (some .int) 3 := ⟨(pj_m3 25 rfl rfl), wm_X2_oddsOf, ws_X2_oddsOf, wi_X2, wc_X2_oddsOf, nh_X2.1, nh_X2.2, pd_16⟩
theorem wc_X8_draw : Cond.code yX8_draw cX8_draw 2 (some .int) ∈ pj_tbl := (pj_m3 76 rfl rfl)
theorem wm_X8_draw : Cond.instanceMethod yX8_draw ∈ pj_tbl := (pj_m3 75 rfl rfl)
theorem ws_X8_draw : Cond.selects RX8 yX8_draw yX8_draw ∈ pj_tbl := (pj_mem 5 rfl rfl)
theorem cl_Whole_124 : pj_gV RX8 124 yX8_draw cX8_draw 2 (some .int) 1 := ⟨(pj_m3 73 rfl rfl), wm_X8_draw, ws_X8_draw, wi_X8, wc_X8_draw, nh_X8.1, nh_X8.2, pd_12⟩
theorem cl_Whole_128 : pj_gS RX8 128 yJ13_bitCount_95d88 cJ13_bitCount_95d88 2 (some .int) 1 := ⟨(pj_m3 79 rfl rfl), wt_J13_bitCount_95d88, wi_J13, wc_J13_bitCount_95d88, nh_J13.1, nh_J13.2, pd_18⟩
theorem cl_Wool_15 : pj_gA RX9 15 := ⟨(pj_m4 172 rfl rfl), (pj_m4 16 rfl rfl), (pj_m4 15 rfl rfl), (pj_m1 19 rfl rfl)⟩
theorem cl_Wool_25 : pj_gV RX9 25 yX9_lengthOf cX9_lengthOf 2 (some .int) 1 := ⟨(pj_m4 123 rfl rfl), wm_X9_lengthOf, ws_X9_lengthOf, wi_X9, wc_X9_lengthOf, nh_X9.1, nh_X9.2, pd_12⟩
theorem wc_X9_longestBut : Cond.code yX9_longestBut cX9_longestBut 5 (some .int) ∈ pj_tbl := (pj_m4 122 rfl rfl)
theorem wm_X9_longestBut : Cond.instanceMethod yX9_longestBut ∈ pj_tbl := (pj_m4 121 rfl rfl)
theorem ws_X9_longestBut : Cond.selects RX9 yX9_longestBut yX9_longestBut ∈ pj_tbl := (pj_mem 20 rfl rfl)
theorem cl_Wool_29 : pj_gV RX9 29 yX9_longestBut cX9_longestBut 5 (some .int) 1 := ⟨(pj_m4 119 rfl rfl), wm_X9_longestBut, ws_X9_longestBut, wi_X9, wc_X9_longestBut, nh_X9.1, nh_X9.2, pd_12⟩
theorem wc_X11_begins : Cond.code yX11_begins cX11_begins 5 none ∈ pj_tbl := (pj_m4 190 rfl rfl)
theorem wi_X11 : Cond.initialized RX11 ∈ pj_tbl := (pj_m1 12 rfl rfl)
theorem nh_X11 : RX11 ≠ "java/lang/invoke/MethodHandle" ∧ RX11 ≠ "java/lang/invoke/VarHandle" := by decide +kernel
theorem wm_X11_begins : Cond.instanceMethod yX11_begins ∈ pj_tbl := (pj_m4 189 rfl rfl)
theorem ws_X11_begins : Cond.selects RX11 yX11_begins yX11_begins ∈ pj_tbl := (pj_mem 21 rfl rfl)
theorem cl_Md_59 : pj_gV RX11 59 yX11_begins cX11_begins 5 none 2 := ⟨(pj_m4 187 rfl rfl), wm_X11_begins, ws_X11_begins, wi_X11, wc_X11_begins, nh_X11.1, nh_X11.2, pd_0⟩
theorem wc_X11_isStitch : Cond.code yX11_isStitch cX11_isStitch 2 (some .boolean) ∈ pj_tbl := (pj_m4 194 rfl rfl)
theorem wm_X11_isStitch : Cond.instanceMethod yX11_isStitch ∈ pj_tbl := (pj_m4 193 rfl rfl)
theorem ws_X11_isStitch : Cond.selects RX11 yX11_isStitch yX11_isStitch ∈ pj_tbl := (pj_mem 22 rfl rfl)
theorem cl_Md_63 : pj_gV RX11 63 yX11_isStitch cX11_isStitch 2 (some .boolean) 1 := ⟨(pj_m4 191 rfl rfl), wm_X11_isStitch, ws_X11_isStitch, wi_X11, wc_X11_isStitch, nh_X11.1, nh_X11.2, pd_2⟩
theorem wc_X11_isIn : Cond.code yX11_isIn cX11_isIn 3 (some .boolean) ∈ pj_tbl := (pj_m4 197 rfl rfl)
theorem wt_X11_isIn : Cond.static yX11_isIn ∈ pj_tbl := (pj_m4 196 rfl rfl)
theorem cl_Md_70 : pj_gS RX11 70 yX11_isIn cX11_isIn 3 (some .boolean) 3 := ⟨(pj_m4 195 rfl rfl), wt_X11_isIn, wi_X11, wc_X11_isIn, nh_X11.1, nh_X11.2, pd_3⟩
theorem wc_X11_comesBack : Cond.code yX11_comesBack cX11_comesBack 2 none ∈ pj_tbl := (pj_m5 73 rfl rfl)
theorem wm_X11_comesBack : Cond.instanceMethod yX11_comesBack ∈ pj_tbl := (pj_m5 72 rfl rfl)
theorem ws_X11_comesBack : Cond.selects RX11 yX11_comesBack yX11_comesBack ∈ pj_tbl := (pj_mem 23 rfl rfl)
theorem cl_Md_76 : pj_gV RX11 76 yX11_comesBack cX11_comesBack 2 none 1 := ⟨(pj_m5 70 rfl rfl), wm_X11_comesBack, ws_X11_comesBack, wi_X11, wc_X11_comesBack, nh_X11.1, nh_X11.2, pd_10⟩
theorem cl_Md_89 : pj_gV RX11 89 yJ0_length_8abf5 cJ0_length_8abf5 1 (some .int) 0 := ⟨(pj_m5 106 rfl rfl), wm_J0_length_8abf5, ws_J0_length_8abf5, wi_J0, wc_J0_length_8abf5, nh_J0.1, nh_J0.2, pd_8⟩
theorem cl_Md_95 : pj_gV RX11 95 yJ0_charAt_5068e cJ0_charAt_5068e 2 (some .char) 1 := ⟨(pj_m5 107 rfl rfl), wm_J0_charAt_5068e, ws_J0_charAt_5068e, wi_J0, wc_J0_charAt_5068e, nh_J0.1, nh_J0.2, pd_33⟩
theorem wc_X11_is : Cond.code yX11_is cX11_is 4 (some .boolean) ∈ pj_tbl := (pj_m5 105 rfl rfl)
theorem pd_38 : (parseMethodDescriptor "(Ljava/lang/String;)Z").map (fun d => d.parameters.length) = some 1 := by decide +kernel
theorem wm_X11_is : Cond.instanceMethod yX11_is ∈ pj_tbl := (pj_m5 104 rfl rfl)
theorem ws_X11_is : Cond.selects RX11 yX11_is yX11_is ∈ pj_tbl := (pj_mem 27 rfl rfl)
theorem cl_Md_101 : pj_gV RX11 101 yX11_is cX11_is 4 (some .boolean) 1 := ⟨(pj_m5 102 rfl rfl), wm_X11_is, ws_X11_is, wi_X11, wc_X11_is, nh_X11.1, nh_X11.2, pd_38⟩
theorem wc_X11_nameWord : Cond.code yX11_nameWord cX11_nameWord 1 (some .int) ∈ pj_tbl := (pj_m5 115 rfl rfl)
theorem wm_X11_nameWord : Cond.instanceMethod yX11_nameWord ∈ pj_tbl := (pj_m5 114 rfl rfl)
theorem ws_X11_nameWord : Cond.selects RX11 yX11_nameWord yX11_nameWord ∈ pj_tbl := (pj_mem 28 rfl rfl)
theorem cl_Md_127 : pj_gV RX11 127 yX11_nameWord cX11_nameWord 1 (some .int) 0 := ⟨(pj_m5 112 rfl rfl), wm_X11_nameWord, ws_X11_nameWord, wi_X11, wc_X11_nameWord, nh_X11.1, nh_X11.2, pd_8⟩
theorem wc_X11_see : Cond.code yX11_see cX11_see 2 (some .int) ∈ pj_tbl := (pj_m5 93 rfl rfl)
theorem wm_X11_see : Cond.instanceMethod yX11_see ∈ pj_tbl := (pj_m5 92 rfl rfl)
theorem ws_X11_see : Cond.selects RX11 yX11_see yX11_see ∈ pj_tbl := (pj_mem 25 rfl rfl)
theorem cl_Md_130 : pj_gV RX11 130 yX11_see cX11_see 2 (some .int) 1 := ⟨(pj_m5 90 rfl rfl), wm_X11_see, ws_X11_see, wi_X11, wc_X11_see, nh_X11.1, nh_X11.2, pd_12⟩
theorem wc_X11_isLetter : Cond.code yX11_isLetter cX11_isLetter 1 (some .boolean) ∈ pj_tbl := (pj_m5 96 rfl rfl)
theorem wt_X11_isLetter : Cond.static yX11_isLetter ∈ pj_tbl := (pj_m5 95 rfl rfl)
theorem cl_Md_137 : pj_gS RX11 137 yX11_isLetter cX11_isLetter 1 (some .boolean) 1 := ⟨(pj_m5 94 rfl rfl), wt_X11_isLetter, wi_X11, wc_X11_isLetter, nh_X11.1, nh_X11.2, pd_2⟩
theorem wc_X11_word : Cond.code yX11_word cX11_word 1 (some .int) ∈ pj_tbl := (pj_m5 100 rfl rfl)
theorem wm_X11_word : Cond.instanceMethod yX11_word ∈ pj_tbl := (pj_m5 99 rfl rfl)
theorem ws_X11_word : Cond.selects RX11 yX11_word yX11_word ∈ pj_tbl := (pj_mem 26 rfl rfl)
theorem cl_Md_140 : pj_gV RX11 140 yX11_word cX11_word 1 (some .int) 0 := ⟨(pj_m5 97 rfl rfl), wm_X11_word, ws_X11_word, wi_X11, wc_X11_word, nh_X11.1, nh_X11.2, pd_8⟩
theorem wc_X11_isDigit : Cond.code yX11_isDigit cX11_isDigit 1 (some .boolean) ∈ pj_tbl := (pj_m5 125 rfl rfl)
theorem wt_X11_isDigit : Cond.static yX11_isDigit ∈ pj_tbl := (pj_m5 124 rfl rfl)
theorem cl_Md_143 : pj_gS RX11 143 yX11_isDigit cX11_isDigit 1 (some .boolean) 1 := ⟨(pj_m5 123 rfl rfl), wt_X11_isDigit, wi_X11, wc_X11_isDigit, nh_X11.1, nh_X11.2, pd_2⟩
theorem wc_X11_bad : Cond.code yX11_bad cX11_bad 2 (some .boolean) ∈ pj_tbl := (pj_m5 133 rfl rfl)
theorem wm_X11_bad : Cond.instanceMethod yX11_bad ∈ pj_tbl := (pj_m5 132 rfl rfl)
theorem ws_X11_bad : Cond.selects RX11 yX11_bad yX11_bad ∈ pj_tbl := (pj_mem 30 rfl rfl)
theorem cl_Md_155 : pj_gV RX11 155 yX11_bad cX11_bad 2 (some .boolean) 1 := ⟨(pj_m5 130 rfl rfl), wm_X11_bad, ws_X11_bad, wi_X11, wc_X11_bad, nh_X11.1, nh_X11.2, pd_2⟩
theorem wc_X11_next0 : Cond.code yX11_next0 cX11_next0 3 none ∈ pj_tbl := (pj_m5 89 rfl rfl)
theorem wm_X11_next0 : Cond.instanceMethod yX11_next0 ∈ pj_tbl := (pj_m5 88 rfl rfl)
theorem ws_X11_next0 : Cond.selects RX11 yX11_next0 yX11_next0 ∈ pj_tbl := (pj_mem 24 rfl rfl)
theorem cl_Md_158 : pj_gV RX11 158 yX11_next0 cX11_next0 3 none 0 := ⟨(pj_m5 86 rfl rfl), wm_X11_next0, ws_X11_next0, wi_X11, wc_X11_next0, nh_X11.1, nh_X11.2, pd_1⟩
theorem wc_X11_product : Cond.code yX11_product cX11_product 3 (some .boolean) ∈ pj_tbl := (pj_m5 141 rfl rfl)
theorem wm_X11_product : Cond.instanceMethod yX11_product ∈ pj_tbl := (pj_m5 140 rfl rfl)
theorem ws_X11_product : Cond.selects RX11 yX11_product yX11_product ∈ pj_tbl := (pj_mem 32 rfl rfl)
theorem cl_Md_167 : pj_gV RX11 167 yX11_product cX11_product 3 (some .boolean) 0 := ⟨(pj_m5 138 rfl rfl), wm_X11_product, ws_X11_product, wi_X11, wc_X11_product, nh_X11.1, nh_X11.2, pd_9⟩
theorem wc_X11_lay : Cond.code yX11_lay cX11_lay 3 none ∈ pj_tbl := (pj_m5 149 rfl rfl)
theorem wm_X11_lay : Cond.instanceMethod yX11_lay ∈ pj_tbl := (pj_m5 148 rfl rfl)
theorem ws_X11_lay : Cond.selects RX11 yX11_lay yX11_lay ∈ pj_tbl := (pj_mem 34 rfl rfl)
theorem cl_Md_171 : pj_gV RX11 171 yX11_lay cX11_lay 3 none 2 := ⟨(pj_m5 146 rfl rfl), wm_X11_lay, ws_X11_lay, wi_X11, wc_X11_lay, nh_X11.1, nh_X11.2, pd_0⟩
theorem wc_X11_unit : Cond.code yX11_unit cX11_unit 2 (some .boolean) ∈ pj_tbl := (pj_m5 145 rfl rfl)
theorem wm_X11_unit : Cond.instanceMethod yX11_unit ∈ pj_tbl := (pj_m5 144 rfl rfl)
theorem ws_X11_unit : Cond.selects RX11 yX11_unit yX11_unit ∈ pj_tbl := (pj_mem 33 rfl rfl)
theorem cl_Md_174 : pj_gV RX11 174 yX11_unit cX11_unit 2 (some .boolean) 0 := ⟨(pj_m5 142 rfl rfl), wm_X11_unit, ws_X11_unit, wi_X11, wc_X11_unit, nh_X11.1, nh_X11.2, pd_9⟩
theorem wc_X11_every : Cond.code yX11_every cX11_every 1 (some .boolean) ∈ pj_tbl := (pj_m5 157 rfl rfl)
theorem wm_X11_every : Cond.instanceMethod yX11_every ∈ pj_tbl := (pj_m5 156 rfl rfl)
theorem ws_X11_every : Cond.selects RX11 yX11_every yX11_every ∈ pj_tbl := (pj_mem 36 rfl rfl)
theorem cl_Md_177 : pj_gV RX11 177 yX11_every cX11_every 1 (some .boolean) 0 := ⟨(pj_m5 154 rfl rfl), wm_X11_every, ws_X11_every, wi_X11, wc_X11_every, nh_X11.1, nh_X11.2, pd_9⟩
theorem wc_X11_oneTest : Cond.code yX11_oneTest cX11_oneTest 2 (some .boolean) ∈ pj_tbl := (pj_m5 161 rfl rfl)
theorem wm_X11_oneTest : Cond.instanceMethod yX11_oneTest ∈ pj_tbl := (pj_m5 160 rfl rfl)
theorem ws_X11_oneTest : Cond.selects RX11 yX11_oneTest yX11_oneTest ∈ pj_tbl := (pj_mem 37 rfl rfl)
theorem cl_Md_180 : pj_gV RX11 180 yX11_oneTest cX11_oneTest 2 (some .boolean) 0 := ⟨(pj_m5 158 rfl rfl), wm_X11_oneTest, ws_X11_oneTest, wi_X11, wc_X11_oneTest, nh_X11.1, nh_X11.2, pd_9⟩
theorem wc_X11_opens : Cond.code yX11_opens cX11_opens 1 (some .boolean) ∈ pj_tbl := (pj_m5 165 rfl rfl)
theorem wm_X11_opens : Cond.instanceMethod yX11_opens ∈ pj_tbl := (pj_m5 164 rfl rfl)
theorem ws_X11_opens : Cond.selects RX11 yX11_opens yX11_opens ∈ pj_tbl := (pj_mem 38 rfl rfl)
theorem cl_Md_183 : pj_gV RX11 183 yX11_opens cX11_opens 1 (some .boolean) 0 := ⟨(pj_m5 162 rfl rfl), wm_X11_opens, ws_X11_opens, wi_X11, wc_X11_opens, nh_X11.1, nh_X11.2, pd_9⟩
theorem wc_X11_any : Cond.code yX11_any cX11_any 1 (some .boolean) ∈ pj_tbl := (pj_m5 153 rfl rfl)
theorem wm_X11_any : Cond.instanceMethod yX11_any ∈ pj_tbl := (pj_m5 152 rfl rfl)
theorem ws_X11_any : Cond.selects RX11 yX11_any yX11_any ∈ pj_tbl := (pj_mem 35 rfl rfl)
theorem cl_Md_186 : pj_gV RX11 186 yX11_any cX11_any 1 (some .boolean) 0 := ⟨(pj_m5 150 rfl rfl), wm_X11_any, ws_X11_any, wi_X11, wc_X11_any, nh_X11.1, nh_X11.2, pd_9⟩
theorem wc_X11_need : Cond.code yX11_need cX11_need 2 (some .boolean) ∈ pj_tbl := (pj_m5 169 rfl rfl)
theorem wm_X11_need : Cond.instanceMethod yX11_need ∈ pj_tbl := (pj_m5 168 rfl rfl)
theorem ws_X11_need : Cond.selects RX11 yX11_need yX11_need ∈ pj_tbl := (pj_mem 39 rfl rfl)
theorem cl_Md_189 : pj_gV RX11 189 yX11_need cX11_need 2 (some .boolean) 1 := ⟨(pj_m5 166 rfl rfl), wm_X11_need, ws_X11_need, wi_X11, wc_X11_need, nh_X11.1, nh_X11.2, pd_2⟩
theorem wc_X11_sumUp : Cond.code yX11_sumUp cX11_sumUp 2 (some .boolean) ∈ pj_tbl := (pj_m5 137 rfl rfl)
theorem wm_X11_sumUp : Cond.instanceMethod yX11_sumUp ∈ pj_tbl := (pj_m5 136 rfl rfl)
theorem ws_X11_sumUp : Cond.selects RX11 yX11_sumUp yX11_sumUp ∈ pj_tbl := (pj_mem 31 rfl rfl)
theorem cl_Md_192 : pj_gV RX11 192 yX11_sumUp cX11_sumUp 2 (some .boolean) 0 := ⟨(pj_m5 134 rfl rfl), wm_X11_sumUp, ws_X11_sumUp, wi_X11, wc_X11_sumUp, nh_X11.1, nh_X11.2, pd_9⟩
theorem wc_X11_aLine : Cond.code yX11_aLine cX11_aLine 1 (some .boolean) ∈ pj_tbl := (pj_m5 129 rfl rfl)
theorem wm_X11_aLine : Cond.instanceMethod yX11_aLine ∈ pj_tbl := (pj_m5 128 rfl rfl)
theorem ws_X11_aLine : Cond.selects RX11 yX11_aLine yX11_aLine ∈ pj_tbl := (pj_mem 29 rfl rfl)
theorem cl_Md_198 : pj_gV RX11 198 yX11_aLine cX11_aLine 1 (some .boolean) 0 := ⟨(pj_m5 126 rfl rfl), wm_X11_aLine, ws_X11_aLine, wi_X11, wc_X11_aLine, nh_X11.1, nh_X11.2, pd_9⟩
theorem wc_X11_both : Cond.code yX11_both cX11_both 3 (some .int) ∈ pj_tbl := (pj_m6 31 rfl rfl)
theorem wt_X11_both : Cond.static yX11_both ∈ pj_tbl := (pj_m6 30 rfl rfl)
theorem cl_Md_204 : pj_gS RX11 204 yX11_both cX11_both 3 (some .int) 3 := ⟨(pj_m6 29 rfl rfl), wt_X11_both, wi_X11, wc_X11_both, nh_X11.1, nh_X11.2, pd_25⟩
theorem wc_X11_drawnOne : Cond.code yX11_drawnOne cX11_drawnOne 4 (some .int) ∈ pj_tbl := (pj_m5 221 rfl rfl)
theorem wm_X11_drawnOne : Cond.instanceMethod yX11_drawnOne ∈ pj_tbl := (pj_m5 220 rfl rfl)
theorem ws_X11_drawnOne : Cond.selects RX11 yX11_drawnOne yX11_drawnOne ∈ pj_tbl := (pj_mem 47 rfl rfl)
theorem cl_Md_208 : pj_gV RX11 208 yX11_drawnOne cX11_drawnOne 4 (some .int) 1 := ⟨(pj_m5 218 rfl rfl), wm_X11_drawnOne, ws_X11_drawnOne, wi_X11, wc_X11_drawnOne, nh_X11.1, nh_X11.2, pd_12⟩
theorem wc_X11_drawnOther : Cond.code yX11_drawnOther cX11_drawnOther 2 (some .int) ∈ pj_tbl := (pj_m5 225 rfl rfl)
theorem wm_X11_drawnOther : Cond.instanceMethod yX11_drawnOther ∈ pj_tbl := (pj_m5 224 rfl rfl)
theorem ws_X11_drawnOther : Cond.selects RX11 yX11_drawnOther yX11_drawnOther ∈ pj_tbl := (pj_mem 48 rfl rfl)
theorem cl_Md_211 : pj_gV RX11 211 yX11_drawnOther cX11_drawnOther 2 (some .int) 1 := ⟨(pj_m5 222 rfl rfl), wm_X11_drawnOther, ws_X11_drawnOther, wi_X11, wc_X11_drawnOther, nh_X11.1, nh_X11.2, pd_12⟩
theorem wc_X11_holds : Cond.code yX11_holds cX11_holds 5 none ∈ pj_tbl := (pj_m5 217 rfl rfl)
theorem wm_X11_holds : Cond.instanceMethod yX11_holds ∈ pj_tbl := (pj_m5 216 rfl rfl)
theorem ws_X11_holds : Cond.selects RX11 yX11_holds yX11_holds ∈ pj_tbl := (pj_mem 46 rfl rfl)
theorem cl_Md_214 : pj_gV RX11 214 yX11_holds cX11_holds 5 none 2 := ⟨(pj_m5 214 rfl rfl), wm_X11_holds, ws_X11_holds, wi_X11, wc_X11_holds, nh_X11.1, nh_X11.2, pd_0⟩
theorem wc_X11_isHeld : Cond.code yX11_isHeld cX11_isHeld 2 (some .boolean) ∈ pj_tbl := (pj_m5 237 rfl rfl)
theorem wm_X11_isHeld : Cond.instanceMethod yX11_isHeld ∈ pj_tbl := (pj_m5 236 rfl rfl)
theorem ws_X11_isHeld : Cond.selects RX11 yX11_isHeld yX11_isHeld ∈ pj_tbl := (pj_mem 51 rfl rfl)
theorem cl_Md_217 : pj_gV RX11 217 yX11_isHeld cX11_isHeld 2 (some .boolean) 1 := ⟨(pj_m5 234 rfl rfl), wm_X11_isHeld, ws_X11_isHeld, wi_X11, wc_X11_isHeld, nh_X11.1, nh_X11.2, pd_2⟩
theorem wc_X11_isLoose : Cond.code yX11_isLoose cX11_isLoose 2 (some .boolean) ∈ pj_tbl := (pj_m6 20 rfl rfl)
theorem wm_X11_isLoose : Cond.instanceMethod yX11_isLoose ∈ pj_tbl := (pj_m6 19 rfl rfl)
theorem ws_X11_isLoose : Cond.selects RX11 yX11_isLoose yX11_isLoose ∈ pj_tbl := (pj_mem 55 rfl rfl)
theorem cl_Md_220 : pj_gV RX11 220 yX11_isLoose cX11_isLoose 2 (some .boolean) 1 := ⟨(pj_m6 17 rfl rfl), wm_X11_isLoose, ws_X11_isLoose, wi_X11, wc_X11_isLoose, nh_X11.1, nh_X11.2, pd_2⟩
theorem wc_X11_goes : Cond.code yX11_goes cX11_goes 2 none ∈ pj_tbl := (pj_m6 1 rfl rfl)
theorem wm_X11_goes : Cond.instanceMethod yX11_goes ∈ pj_tbl := (pj_m6 0 rfl rfl)
theorem ws_X11_goes : Cond.selects RX11 yX11_goes yX11_goes ∈ pj_tbl := (pj_mem 52 rfl rfl)
theorem cl_Md_223 : pj_gV RX11 223 yX11_goes cX11_goes 2 none 1 := ⟨(pj_m5 238 rfl rfl), wm_X11_goes, ws_X11_goes, wi_X11, wc_X11_goes, nh_X11.1, nh_X11.2, pd_10⟩
theorem wc_X11_isQueued : Cond.code yX11_isQueued cX11_isQueued 4 (some .boolean) ∈ pj_tbl := (pj_m6 75 rfl rfl)
theorem wm_X11_isQueued : Cond.instanceMethod yX11_isQueued ∈ pj_tbl := (pj_m6 74 rfl rfl)
theorem ws_X11_isQueued : Cond.selects RX11 yX11_isQueued yX11_isQueued ∈ pj_tbl := (pj_mem 61 rfl rfl)
theorem cl_Md_226 : pj_gV RX11 226 yX11_isQueued cX11_isQueued 4 (some .boolean) 2 := ⟨(pj_m6 72 rfl rfl), wm_X11_isQueued, ws_X11_isQueued, wi_X11, wc_X11_isQueued, nh_X11.1, nh_X11.2, pd_5⟩
theorem wc_X11_comesTo : Cond.code yX11_comesTo cX11_comesTo 7 (some .int) ∈ pj_tbl := (pj_m6 28 rfl rfl)
theorem wm_X11_comesTo : Cond.instanceMethod yX11_comesTo ∈ pj_tbl := (pj_m6 27 rfl rfl)
theorem ws_X11_comesTo : Cond.selects RX11 yX11_comesTo yX11_comesTo ∈ pj_tbl := (pj_mem 57 rfl rfl)
theorem cl_Md_230 : pj_gV RX11 230 yX11_comesTo cX11_comesTo 7 (some .int) 2 := ⟨(pj_m6 25 rfl rfl), wm_X11_comesTo, ws_X11_comesTo, wi_X11, wc_X11_comesTo, nh_X11.1, nh_X11.2, pd_17⟩
theorem wc_X11_least : Cond.code yX11_least cX11_least 2 (some .int) ∈ pj_tbl := (pj_m6 34 rfl rfl)
theorem wt_X11_least : Cond.static yX11_least ∈ pj_tbl := (pj_m6 33 rfl rfl)
theorem cl_Md_234 : pj_gS RX11 234 yX11_least cX11_least 2 (some .int) 2 := ⟨(pj_m6 32 rfl rfl), wt_X11_least, wi_X11, wc_X11_least, nh_X11.1, nh_X11.2, pd_17⟩
theorem wc_X11_most : Cond.code yX11_most cX11_most 2 (some .int) ∈ pj_tbl := (pj_m6 37 rfl rfl)
theorem wt_X11_most : Cond.static yX11_most ∈ pj_tbl := (pj_m6 36 rfl rfl)
theorem cl_Md_237 : pj_gS RX11 237 yX11_most cX11_most 2 (some .int) 2 := ⟨(pj_m6 35 rfl rfl), wt_X11_most, wi_X11, wc_X11_most, nh_X11.1, nh_X11.2, pd_17⟩
theorem wc_X11_keeps : Cond.code yX11_keeps cX11_keeps 3 none ∈ pj_tbl := (pj_m5 185 rfl rfl)
theorem wm_X11_keeps : Cond.instanceMethod yX11_keeps ∈ pj_tbl := (pj_m5 184 rfl rfl)
theorem ws_X11_keeps : Cond.selects RX11 yX11_keeps yX11_keeps ∈ pj_tbl := (pj_mem 40 rfl rfl)
theorem cl_Md_240 : pj_gV RX11 240 yX11_keeps cX11_keeps 3 none 0 := ⟨(pj_m5 182 rfl rfl), wm_X11_keeps, ws_X11_keeps, wi_X11, wc_X11_keeps, nh_X11.1, nh_X11.2, pd_1⟩
theorem wc_X11_isGone : Cond.code yX11_isGone cX11_isGone 4 none ∈ pj_tbl := (pj_m5 189 rfl rfl)
theorem wm_X11_isGone : Cond.instanceMethod yX11_isGone ∈ pj_tbl := (pj_m5 188 rfl rfl)
theorem ws_X11_isGone : Cond.selects RX11 yX11_isGone yX11_isGone ∈ pj_tbl := (pj_mem 41 rfl rfl)
theorem cl_Md_243 : pj_gV RX11 243 yX11_isGone cX11_isGone 4 none 2 := ⟨(pj_m5 186 rfl rfl), wm_X11_isGone, ws_X11_isGone, wi_X11, wc_X11_isGone, nh_X11.1, nh_X11.2, pd_0⟩
theorem wc_X11_isPlace : Cond.code yX11_isPlace cX11_isPlace 2 (some .boolean) ∈ pj_tbl := (pj_m5 205 rfl rfl)
theorem wm_X11_isPlace : Cond.instanceMethod yX11_isPlace ∈ pj_tbl := (pj_m5 204 rfl rfl)
theorem ws_X11_isPlace : Cond.selects RX11 yX11_isPlace yX11_isPlace ∈ pj_tbl := (pj_mem 43 rfl rfl)
theorem cl_Md_246 : pj_gV RX11 246 yX11_isPlace cX11_isPlace 2 (some .boolean) 1 := ⟨(pj_m5 202 rfl rfl), wm_X11_isPlace, ws_X11_isPlace, wi_X11, wc_X11_isPlace, nh_X11.1, nh_X11.2, pd_2⟩
theorem wc_X11_stitchAt : Cond.code yX11_stitchAt cX11_stitchAt 4 (some .int) ∈ pj_tbl := (pj_m5 233 rfl rfl)
theorem wm_X11_stitchAt : Cond.instanceMethod yX11_stitchAt ∈ pj_tbl := (pj_m5 232 rfl rfl)
theorem ws_X11_stitchAt : Cond.selects RX11 yX11_stitchAt yX11_stitchAt ∈ pj_tbl := (pj_mem 50 rfl rfl)
theorem cl_Md_258 : pj_gV RX11 258 yX11_stitchAt cX11_stitchAt 4 (some .int) 1 := ⟨(pj_m5 230 rfl rfl), wm_X11_stitchAt, ws_X11_stitchAt, wi_X11, wc_X11_stitchAt, nh_X11.1, nh_X11.2, pd_12⟩
theorem wc_X11_isEnd : Cond.code yX11_isEnd cX11_isEnd 3 (some .boolean) ∈ pj_tbl := (pj_m5 201 rfl rfl)
theorem wm_X11_isEnd : Cond.instanceMethod yX11_isEnd ∈ pj_tbl := (pj_m5 200 rfl rfl)
theorem ws_X11_isEnd : Cond.selects RX11 yX11_isEnd yX11_isEnd ∈ pj_tbl := (pj_mem 42 rfl rfl)
theorem cl_Md_261 : pj_gV RX11 261 yX11_isEnd cX11_isEnd 3 (some .boolean) 2 := ⟨(pj_m5 198 rfl rfl), wm_X11_isEnd, ws_X11_isEnd, wi_X11, wc_X11_isEnd, nh_X11.1, nh_X11.2, pd_5⟩
theorem wc_X11_lengthOf : Cond.code yX11_lengthOf cX11_lengthOf 1 (some .int) ∈ pj_tbl := (pj_m6 8 rfl rfl)
theorem wt_X11_lengthOf : Cond.static yX11_lengthOf ∈ pj_tbl := (pj_m6 7 rfl rfl)
theorem cl_Md_264 : pj_gS RX11 264 yX11_lengthOf cX11_lengthOf 1 (some .int) 1 := ⟨(pj_m6 6 rfl rfl), wt_X11_lengthOf, wi_X11, wc_X11_lengthOf, nh_X11.1, nh_X11.2, pd_12⟩
theorem wc_X11_laysNow : Cond.code yX11_laysNow cX11_laysNow 2 none ∈ pj_tbl := (pj_m5 209 rfl rfl)
theorem wm_X11_laysNow : Cond.instanceMethod yX11_laysNow ∈ pj_tbl := (pj_m5 208 rfl rfl)
theorem ws_X11_laysNow : Cond.selects RX11 yX11_laysNow yX11_laysNow ∈ pj_tbl := (pj_mem 44 rfl rfl)
theorem cl_Md_267 : pj_gV RX11 267 yX11_laysNow cX11_laysNow 2 none 0 := ⟨(pj_m5 206 rfl rfl), wm_X11_laysNow, ws_X11_laysNow, wi_X11, wc_X11_laysNow, nh_X11.1, nh_X11.2, pd_1⟩
theorem wc_X11_laysHolders : Cond.code yX11_laysHolders cX11_laysHolders 2 none ∈ pj_tbl := (pj_m5 213 rfl rfl)
theorem wm_X11_laysHolders : Cond.instanceMethod yX11_laysHolders ∈ pj_tbl := (pj_m5 212 rfl rfl)
theorem ws_X11_laysHolders : Cond.selects RX11 yX11_laysHolders yX11_laysHolders ∈ pj_tbl := (pj_mem 45 rfl rfl)
theorem cl_Md_270 : pj_gV RX11 270 yX11_laysHolders cX11_laysHolders 2 none 0 := ⟨(pj_m5 210 rfl rfl), wm_X11_laysHolders, ws_X11_laysHolders, wi_X11, wc_X11_laysHolders, nh_X11.1, nh_X11.2, pd_1⟩
theorem wc_X11_pulls : Cond.code yX11_pulls cX11_pulls 9 none ∈ pj_tbl := (pj_m5 229 rfl rfl)
theorem pd_39 : (parseMethodDescriptor "(IIIZ)V").map (fun d => d.parameters.length) = some 4 := by decide +kernel
theorem wm_X11_pulls : Cond.instanceMethod yX11_pulls ∈ pj_tbl := (pj_m5 228 rfl rfl)
theorem ws_X11_pulls : Cond.selects RX11 yX11_pulls yX11_pulls ∈ pj_tbl := (pj_mem 49 rfl rfl)
theorem cl_Md_273 : pj_gV RX11 273 yX11_pulls cX11_pulls 9 none 4 := ⟨(pj_m5 226 rfl rfl), wm_X11_pulls, ws_X11_pulls, wi_X11, wc_X11_pulls, nh_X11.1, nh_X11.2, pd_39⟩
theorem wc_X11_winds : Cond.code yX11_winds cX11_winds 6 none ∈ pj_tbl := (pj_m6 5 rfl rfl)
theorem wm_X11_winds : Cond.instanceMethod yX11_winds ∈ pj_tbl := (pj_m6 4 rfl rfl)
theorem ws_X11_winds : Cond.selects RX11 yX11_winds yX11_winds ∈ pj_tbl := (pj_mem 53 rfl rfl)
theorem cl_Md_277 : pj_gV RX11 277 yX11_winds cX11_winds 6 none 2 := ⟨(pj_m6 2 rfl rfl), wm_X11_winds, ws_X11_winds, wi_X11, wc_X11_winds, nh_X11.1, nh_X11.2, pd_0⟩
theorem wc_X11_oddsOf : Cond.code yX11_oddsOf cX11_oddsOf 4 (some .int) ∈ pj_tbl := (pj_m6 24 rfl rfl)
theorem wm_X11_oddsOf : Cond.instanceMethod yX11_oddsOf ∈ pj_tbl := (pj_m6 23 rfl rfl)
theorem ws_X11_oddsOf : Cond.selects RX11 yX11_oddsOf yX11_oddsOf ∈ pj_tbl := (pj_mem 56 rfl rfl)
theorem cl_Md_280 : pj_gV RX11 280 yX11_oddsOf cX11_oddsOf 4 (some .int) 1 := ⟨(pj_m6 21 rfl rfl), wm_X11_oddsOf, ws_X11_oddsOf, wi_X11, wc_X11_oddsOf, nh_X11.1, nh_X11.2, pd_12⟩
theorem wc_X11_draw : Cond.code yX11_draw cX11_draw 2 (some .int) ∈ pj_tbl := (pj_m6 41 rfl rfl)
theorem wm_X11_draw : Cond.instanceMethod yX11_draw ∈ pj_tbl := (pj_m6 40 rfl rfl)
theorem ws_X11_draw : Cond.selects RX11 yX11_draw yX11_draw ∈ pj_tbl := (pj_mem 58 rfl rfl)
theorem cl_Md_283 : pj_gV RX11 283 yX11_draw cX11_draw 2 (some .int) 1 := ⟨(pj_m6 38 rfl rfl), wm_X11_draw, ws_X11_draw, wi_X11, wc_X11_draw, nh_X11.1, nh_X11.2, pd_12⟩
theorem wc_X11_anHour : Cond.code yX11_anHour cX11_anHour 3 (some .int) ∈ pj_tbl := (pj_m6 16 rfl rfl)
theorem wm_X11_anHour : Cond.instanceMethod yX11_anHour ∈ pj_tbl := (pj_m6 15 rfl rfl)
theorem ws_X11_anHour : Cond.selects RX11 yX11_anHour yX11_anHour ∈ pj_tbl := (pj_mem 54 rfl rfl)
theorem cl_Md_286 : pj_gV RX11 286 yX11_anHour cX11_anHour 3 (some .int) 0 := ⟨(pj_m6 13 rfl rfl), wm_X11_anHour, ws_X11_anHour, wi_X11, wc_X11_anHour, nh_X11.1, nh_X11.2, pd_8⟩
theorem wc_X11_placeOf : Cond.code yX11_placeOf cX11_placeOf 4 (some .int) ∈ pj_tbl := (pj_m6 51 rfl rfl)
theorem wm_X11_placeOf : Cond.instanceMethod yX11_placeOf ∈ pj_tbl := (pj_m6 50 rfl rfl)
theorem ws_X11_placeOf : Cond.selects RX11 yX11_placeOf yX11_placeOf ∈ pj_tbl := (pj_mem 59 rfl rfl)
theorem cl_Md_289 : pj_gV RX11 289 yX11_placeOf cX11_placeOf 4 (some .int) 1 := ⟨(pj_m6 48 rfl rfl), wm_X11_placeOf, ws_X11_placeOf, wi_X11, wc_X11_placeOf, nh_X11.1, nh_X11.2, pd_12⟩
theorem wc_X11_allRun : Cond.code yX11_allRun cX11_allRun 6 (some .int) ∈ pj_tbl := (pj_m6 71 rfl rfl)
theorem wm_X11_allRun : Cond.instanceMethod yX11_allRun ∈ pj_tbl := (pj_m6 70 rfl rfl)
theorem ws_X11_allRun : Cond.selects RX11 yX11_allRun yX11_allRun ∈ pj_tbl := (pj_mem 60 rfl rfl)
theorem cl_Md_292 : pj_gV RX11 292 yX11_allRun cX11_allRun 6 (some .int) 0 := ⟨(pj_m6 68 rfl rfl), wm_X11_allRun, ws_X11_allRun, wi_X11, wc_X11_allRun, nh_X11.1, nh_X11.2, pd_8⟩
theorem wc_X11_canCatch : Cond.code yX11_canCatch cX11_canCatch 2 (some .boolean) ∈ pj_tbl := (pj_m6 83 rfl rfl)
theorem wm_X11_canCatch : Cond.instanceMethod yX11_canCatch ∈ pj_tbl := (pj_m6 82 rfl rfl)
theorem ws_X11_canCatch : Cond.selects RX11 yX11_canCatch yX11_canCatch ∈ pj_tbl := (pj_mem 62 rfl rfl)
theorem cl_Md_298 : pj_gV RX11 298 yX11_canCatch cX11_canCatch 2 (some .boolean) 1 := ⟨(pj_m6 80 rfl rfl), wm_X11_canCatch, ws_X11_canCatch, wi_X11, wc_X11_canCatch, nh_X11.1, nh_X11.2, pd_2⟩
theorem wc_X11_saves : Cond.code yX11_saves cX11_saves 6 none ∈ pj_tbl := (pj_m6 87 rfl rfl)
theorem wm_X11_saves : Cond.instanceMethod yX11_saves ∈ pj_tbl := (pj_m6 86 rfl rfl)
theorem ws_X11_saves : Cond.selects RX11 yX11_saves yX11_saves ∈ pj_tbl := (pj_mem 63 rfl rfl)
theorem cl_Md_301 : pj_gV RX11 301 yX11_saves cX11_saves 6 none 3 := ⟨(pj_m6 84 rfl rfl), wm_X11_saves, ws_X11_saves, wi_X11, wc_X11_saves, nh_X11.1, nh_X11.2, pd_37⟩
theorem wc_X11_hereMany : Cond.code yX11_hereMany cX11_hereMany 3 (some .int) ∈ pj_tbl := (pj_m6 99 rfl rfl)
theorem wm_X11_hereMany : Cond.instanceMethod yX11_hereMany ∈ pj_tbl := (pj_m6 98 rfl rfl)
theorem ws_X11_hereMany : Cond.selects RX11 yX11_hereMany yX11_hereMany ∈ pj_tbl := (pj_mem 64 rfl rfl)
theorem cl_Md_305 : pj_gV RX11 305 yX11_hereMany cX11_hereMany 3 (some .int) 0 := ⟨(pj_m6 96 rfl rfl), wm_X11_hereMany, ws_X11_hereMany, wi_X11, wc_X11_hereMany, nh_X11.1, nh_X11.2, pd_8⟩
theorem wc_X11_comes : Cond.code yX11_comes cX11_comes 4 (some .int) ∈ pj_tbl := (pj_m6 91 rfl rfl)
theorem wm_X11_comes : Cond.instanceMethod yX11_comes ∈ pj_tbl := (pj_m6 89 rfl rfl)
theorem ws_X11_comes : Cond.selects RX11 yX11_comes yX11_comes ∈ pj_tbl := (pj_m6 90 rfl rfl)
theorem cl_Md_308 : pj_gV RX11 308 yX11_comes cX11_comes 4 (some .int) 3 := ⟨(pj_m6 100 rfl rfl), wm_X11_comes, ws_X11_comes, wi_X11, wc_X11_comes, nh_X11.1, nh_X11.2, pd_25⟩
theorem wc_X11_isInside : Cond.code yX11_isInside cX11_isInside 5 (some .boolean) ∈ pj_tbl := (pj_m6 107 rfl rfl)
theorem pd_40 : (parseMethodDescriptor "(IIIII)Z").map (fun d => d.parameters.length) = some 5 := by decide +kernel
theorem wt_X11_isInside : Cond.static yX11_isInside ∈ pj_tbl := (pj_m6 106 rfl rfl)
theorem cl_Md_311 : pj_gS RX11 311 yX11_isInside cX11_isInside 5 (some .boolean) 5 := ⟨(pj_m6 105 rfl rfl), wt_X11_isInside, wi_X11, wc_X11_isInside, nh_X11.1, nh_X11.2, pd_40⟩
theorem wc_X11_isSoBy : Cond.code yX11_isSoBy cX11_isSoBy 3 (some .boolean) ∈ pj_tbl := (pj_m6 124 rfl rfl)
theorem wm_X11_isSoBy : Cond.instanceMethod yX11_isSoBy ∈ pj_tbl := (pj_m6 123 rfl rfl)
theorem ws_X11_isSoBy : Cond.selects RX11 yX11_isSoBy yX11_isSoBy ∈ pj_tbl := (pj_mem 65 rfl rfl)
theorem cl_Md_316 : pj_gV RX11 316 yX11_isSoBy cX11_isSoBy 3 (some .boolean) 1 := ⟨(pj_m6 121 rfl rfl), wm_X11_isSoBy, ws_X11_isSoBy, wi_X11, wc_X11_isSoBy, nh_X11.1, nh_X11.2, pd_2⟩
theorem wc_X11_cuts : Cond.code yX11_cuts cX11_cuts 3 (some .int) ∈ pj_tbl := (pj_m6 136 rfl rfl)
theorem wm_X11_cuts : Cond.instanceMethod yX11_cuts ∈ pj_tbl := (pj_m6 135 rfl rfl)
theorem ws_X11_cuts : Cond.selects RX11 yX11_cuts yX11_cuts ∈ pj_tbl := (pj_mem 66 rfl rfl)
theorem cl_Md_323 : pj_gV RX11 323 yX11_cuts cX11_cuts 3 (some .int) 0 := ⟨(pj_m6 133 rfl rfl), wm_X11_cuts, ws_X11_cuts, wi_X11, wc_X11_cuts, nh_X11.1, nh_X11.2, pd_8⟩
theorem wc_J0_coder_7d493 : Cond.code yJ0_coder_7d493 cJ0_coder_7d493 1 (some .byte) ∈ pj_tbl := (pj_m3 146 rfl rfl)
theorem pd_41 : (parseMethodDescriptor "()B").map (fun d => d.parameters.length) = some 0 := by decide +kernel
theorem wm_J0_coder_7d493 : Cond.instanceMethod yJ0_coder_7d493 ∈ pj_tbl := (pj_m3 144 rfl rfl)
theorem ws_J0_coder_7d493 : Cond.selects RJ0 yJ0_coder_7d493 yJ0_coder_7d493 ∈ pj_tbl := (pj_m3 145 rfl rfl)
theorem cl_JStr_335 : pj_gV RJ0 335 yJ0_coder_7d493 cJ0_coder_7d493 1 (some .byte) 0 := ⟨(pj_m3 143 rfl rfl), wm_J0_coder_7d493, ws_J0_coder_7d493, wi_J0, wc_J0_coder_7d493, nh_J0.1, nh_J0.2, pd_41⟩
theorem wc_J0_isLatin1_aae02 : Cond.code yJ0_isLatin1_aae02 cJ0_isLatin1_aae02 1 (some .boolean) ∈ pj_tbl := (pj_m3 156 rfl rfl)
theorem wm_J0_isLatin1_aae02 : Cond.instanceMethod yJ0_isLatin1_aae02 ∈ pj_tbl := (pj_m3 154 rfl rfl)
theorem ws_J0_isLatin1_aae02 : Cond.selects RJ0 yJ0_isLatin1_aae02 yJ0_isLatin1_aae02 ∈ pj_tbl := (pj_m3 155 rfl rfl)
theorem cl_JStr_492 : pj_gV RJ0 492 yJ0_isLatin1_aae02 cJ0_isLatin1_aae02 1 (some .boolean) 0 := ⟨(pj_m3 153 rfl rfl), wm_J0_isLatin1_aae02, ws_J0_isLatin1_aae02, wi_J0, wc_J0_isLatin1_aae02, nh_J0.1, nh_J0.2, pd_9⟩
theorem wc_J1_charAt_3b067 : Cond.code yJ1_charAt_3b067 cJ1_charAt_3b067 2 (some .char) ∈ pj_tbl := (pj_m3 159 rfl rfl)
theorem wi_J1 : Cond.initialized RJ1 ∈ pj_tbl := (pj_m1 16 rfl rfl)
theorem nh_J1 : RJ1 ≠ "java/lang/invoke/MethodHandle" ∧ RJ1 ≠ "java/lang/invoke/VarHandle" := by decide +kernel
theorem pd_42 : (parseMethodDescriptor "([BI)C").map (fun d => d.parameters.length) = some 2 := by decide +kernel
theorem wt_J1_charAt_3b067 : Cond.static yJ1_charAt_3b067 ∈ pj_tbl := (pj_m3 158 rfl rfl)
theorem cl_JStr_495 : pj_gS RJ0 495 yJ1_charAt_3b067 cJ1_charAt_3b067 2 (some .char) 2 := ⟨(pj_m3 157 rfl rfl), wt_J1_charAt_3b067, wi_J1, wc_J1_charAt_3b067, nh_J1.1, nh_J1.2, pd_42⟩
theorem wc_J3_checkIndex_8e157 : Cond.code yJ3_checkIndex_8e157 cJ3_checkIndex_8e157 3 (some .int) ∈ pj_tbl := (pj_m3 167 rfl rfl)
theorem wi_J3 : Cond.initialized RJ3 ∈ pj_tbl := (pj_m1 17 rfl rfl)
theorem nh_J3 : RJ3 ≠ "java/lang/invoke/MethodHandle" ∧ RJ3 ≠ "java/lang/invoke/VarHandle" := by decide +kernel
theorem pd_43 : (parseMethodDescriptor "(IILjava/util/function/BiFunction;)I").map (fun d => d.parameters.length) = some 3 := by decide +kernel
theorem wt_J3_checkIndex_8e157 : Cond.static yJ3_checkIndex_8e157 ∈ pj_tbl := (pj_m3 166 rfl rfl)
theorem cl_JStr_1059 : pj_gS RJ0 1059 yJ3_checkIndex_8e157 cJ3_checkIndex_8e157 3 (some .int) 3 := ⟨(pj_m3 165 rfl rfl), wt_J3_checkIndex_8e157, wi_J3, wc_J3_checkIndex_8e157, nh_J3.1, nh_J3.2, pd_43⟩
theorem wc_J0_checkIndex_df160 : Cond.code yJ0_checkIndex_df160 cJ0_checkIndex_df160 2 none ∈ pj_tbl := (pj_m3 162 rfl rfl)
theorem wt_J0_checkIndex_df160 : Cond.static yJ0_checkIndex_df160 ∈ pj_tbl := (pj_m3 161 rfl rfl)
theorem cl_JLat_9 : pj_gS RJ1 9 yJ0_checkIndex_df160 cJ0_checkIndex_df160 2 none 2 := ⟨(pj_m3 160 rfl rfl), wt_J0_checkIndex_df160, wi_J0, wc_J0_checkIndex_df160, nh_J0.1, nh_J0.2, pd_0⟩
end
section
/-! Strings: a constant by its place -/
def pj_ch (i : Nat) (k : Nat) : Int32 := (pj_bytS.getD i []).getD k 0
def JStr_length (i : Nat) (z : pj_S) : Option (Int32 × pj_S) := pj_g (decide (i < 12)) (some (Int32.ofNat (pj_lenS.getD i 0), z))
def JStr_charAt (i : Nat) (k : Int32) (z : pj_S) : Option (Int32 × pj_S) := pj_g (decide (i < 12)) <| pj_g (pj_in k (pj_lenS.getD i 0)) (some (pj_ch i k.toNatClampNeg, z))
theorem JStr_hi_length {i : Nat} {z z2 : pj_S} {r : Int32} (h : JStr_length i z = some (r, z2)) : i < 12 := of_decide_eq_true (pj_gE h).1
theorem JStr_hi_charAt {i : Nat} {k : Int32} {z z2 : pj_S} {r : Int32} (h : JStr_charAt i k z = some (r, z2)) : i < 12 := of_decide_eq_true (pj_gE h).1
set_option maxHeartbeats 2000000 in
theorem pj_cKi {B : pj_B} {A : Nat → Prop} {K : pj_K} {cc : ByteArray} {nL : Nat} {own : String} {lvl : Nat} {H : Heap} {lo : List Loc} {ls : Array Slot} {st : List Value} {pc q : Nat} {y : MethodName} {c2 : ByteArray} {n2 lv2 na idx : Nat} {ret : Option FieldType} {z z2 : pj_S} {r : Int32} (As : List Value) (C : pj_C B A K cc nL own lvl) (P : pj_P B A K z H lo) (i : Nat) (hi : i < 12) (hM : pj_Mi K.2.1 y c2 n2 ret lv2 (.ref (B.2.2.2.2.2.1 i) :: As) B z r z2) (g : pj_gV own idx y c2 n2 ret na) (hna : As.length = na) (hl : lv2 + 1 ≤ lvl) (hn : n2 ≤ 45) (hls : ls.size = nL) (hst : (st.map fun v => v.category).sum ≤ 8) (d : pj_d cc pc (.invokevirtual idx) 3 q) (kk : ∀ (H2 : Heap) (lo2 : List Loc), pj_P B A K z2 H2 lo2 → pj_W K H2 lo2 q ls (.int r :: st)) (hy : y.cls = "java/lang/String" := by rfl) : pj_W K H lo pc ls (As.reverse ++ .ref (B.2.2.2.2.2.1 i) :: st) := by
  obtain ⟨d, rfl⟩ := d
  obtain ⟨g1, g2, g3, g4, g5, g6, g7, g8⟩ := g
  have hts := C.2.2.2.2.1
  refine va_calli (va_runV (C := y.cls) (As := As) (rest := st) ⟨C.1, C.2.1, C.2.2.1, C.2.2.2.1, hts⟩ (hM H.size) ⟨callB_of na hts (pj_good g5) rfl rfl rfl (hts _ g4) (hts _ g1) ⟨g6, g7, g8⟩ (pj_room C hl hn), hts _ g2, hts _ g3⟩ ⟨pj_Pre.blind, by rw [hy]; exact vk_recv C.2.2.2.2.2.1.2.2.2.2.2.2.2.2 hi P.2, fun U hU hW => pj_pre C P hU hW _⟩ rfl hna hls rfl (lv_room hst) d C.2.2.2.2.2.2.2.2.2.1) P.2 (fun x _ h => pj_area C P x h) (pj_area C P) (fun r2 u t H1 lo1 ht hvm hp hB hz hk hS => ?_)
  obtain ⟨rfl, rfl⟩ := hp
  exact kk H1 lo1 ⟨by rw [← ht]; exact hB, hS⟩
theorem pj_nret {B : pj_B} {A : Nat → Prop} {K : pj_K} {cc : ByteArray} {nL : Nat} {own : String} {lvl : Nat} {H : Heap} {lo : List Loc} {ls : Array Slot} {pc q : Nat} {z z0 : pj_S} {v r0 : Int32} {ty : FieldType} (C : pj_C B A K cc nL own lvl) (Q : pj_Qi B A K (some ty) r0 z0) (P : pj_P B A K z H lo) (hn : narrow ty (.int v) = .int v) (h : some (v, z) = some (r0, z0)) (d : pj_d cc pc .ireturn 1 q) : pj_W K H lo pc ls [.int v] := by
  cases h
  unfold pj_W
  rw [Q.1]
  exact W.zret C.1 C.2.1 Q.2.1 hn (fun t ht hW => ⟨⟨v, z, rfl, ⟨rfl, rfl⟩, by show va_P B.1 vwCl (pj_w B z) t.heap; rw [ht]; exact P.1⟩, P.2.F ht⟩) P.2.2.2 d.1 Q.2.2
theorem pj_sV {B : pj_B} {A : Nat → Prop} {K : pj_K} {cc : ByteArray} {nL : Nat} {own : String} {lvl : Nat} {H : Heap} {lo : List Loc} {ls : Array Slot} {st : List Value} {pc q : Nat} {z : pj_S} {index : Nat} (C : pj_C B A K cc nL own lvl) (P : pj_P B A K z H lo) (i : Nat) (hi : i < 12) (hf : Cond.fieldLink own index "java/lang/String" "value" "[B" ∈ pj_tbl) (d : pj_d cc pc (.getfield index) 3 q) (k : pj_W K H lo q ls (.ref (B.2.2.2.2.2.2 i) :: st)) : pj_W K H lo pc ls (.ref (B.2.2.2.2.2.1 i) :: st) := by
  obtain ⟨d, rfl⟩ := d
  exact vk_getf C.1 C.2.1 ((C.2.2.2.2.2.1.2.2.2.2.2.2.2.2.1 i hi).2.2.1) P.2 C.2.2.2.1 (C.2.2.2.2.1 _ hf) (fun _ h => h) d k
theorem pj_sK {B : pj_B} {A : Nat → Prop} {K : pj_K} {cc : ByteArray} {nL : Nat} {own : String} {lvl : Nat} {H : Heap} {lo : List Loc} {ls : Array Slot} {st : List Value} {pc q : Nat} {z : pj_S} {index : Nat} (C : pj_C B A K cc nL own lvl) (P : pj_P B A K z H lo) (i : Nat) (hi : i < 12) (hf : Cond.fieldLink own index "java/lang/String" "coder" "B" ∈ pj_tbl) (d : pj_d cc pc (.getfield index) 3 q) (k : pj_W K H lo q ls (.int 0 :: st)) : pj_W K H lo pc ls (.ref (B.2.2.2.2.2.1 i) :: st) := by
  obtain ⟨d, rfl⟩ := d
  exact vk_getf C.1 C.2.1 ((C.2.2.2.2.2.1.2.2.2.2.2.2.2.2.1 i hi).2.1) P.2 C.2.2.2.1 (C.2.2.2.2.1 _ hf) (fun _ h => h) d k
theorem pj_sL {B : pj_B} {A : Nat → Prop} {K : pj_K} {cc : ByteArray} {nL : Nat} {own : String} {lvl : Nat} {H : Heap} {lo : List Loc} {ls : Array Slot} {st : List Value} {pc q : Nat} {z : pj_S} (C : pj_C B A K cc nL own lvl) (P : pj_P B A K z H lo) (i : Nat) (hi : i < 12) (d : pj_d cc pc .arraylength 1 q) (k : pj_W K H lo q ls (.int (Int32.ofNat (pj_lenS.getD i 0)) :: st)) : pj_W K H lo pc ls (.ref (B.2.2.2.2.2.2 i) :: st) := by
  obtain ⟨d, rfl⟩ := d
  exact va_tlen C.1 C.2.1 ((C.2.2.2.2.2.1.2.2.2.2.2.2.2.2.1 i hi).2.2.2) P.2 rfl d k
theorem pj_sB {B : pj_B} {A : Nat → Prop} {K : pj_K} {cc : ByteArray} {nL : Nat} {own : String} {lvl : Nat} {H : Heap} {lo : List Loc} {ls : Array Slot} {st : List Value} {pc q : Nat} {z : pj_S} {j : Int32} (C : pj_C B A K cc nL own lvl) (P : pj_P B A K z H lo) (i : Nat) (hi : i < 12) (hj : vp_in j (pj_lenS.getD i 0)) (d : pj_d cc pc .baload 1 q) (k : pj_W K H lo q ls (.int (pj_ch i j.toNatClampNeg) :: st)) : pj_W K H lo pc ls (.int j :: .ref (B.2.2.2.2.2.2 i) :: st) := by
  obtain ⟨d, rfl⟩ := d
  exact va_tb C.1 C.2.1 ((C.2.2.2.2.2.1.2.2.2.2.2.2.2.2.1 i hi).2.2.2) P.2 hj rfl d k
theorem pj_sC1 {B : pj_B} {A : Nat → Prop} {K : pj_K} {cc : ByteArray} {nL : Nat} {own : String} {lvl : Nat} {H : Heap} {lo : List Loc} {ls : Array Slot} {st : List Value} {pc q : Nat} {z : pj_S} {index : Nat} (C : pj_C B A K cc nL own lvl) (P : pj_P B A K z H lo) (hf : Cond.fieldLink own index "java/lang/String" "COMPACT_STRINGS" "Z" ∈ pj_tbl) (d : pj_d cc pc (.getstatic index) 3 q) (k : pj_W K H lo q ls (.int 1 :: st)) : pj_W K H lo pc ls st := by
  obtain ⟨d, rfl⟩ := d
  exact va_gets C.1 C.2.1 C.2.2.2.2.2.1.2.2.2.2.2.1 P.2 C.2.2.2.1 (C.2.2.2.2.1 _ hf) (fun _ h => h) d k
theorem pj_sF {B : pj_B} {A : Nat → Prop} {K : pj_K} {cc : ByteArray} {nL : Nat} {own : String} {lvl : Nat} {H : Heap} {lo : List Loc} {ls : Array Slot} {st : List Value} {pc q : Nat} {z : pj_S} {index : Nat} (C : pj_C B A K cc nL own lvl) (P : pj_P B A K z H lo) (hf : Cond.fieldLink own index "jdk/internal/util/Preconditions" "SIOOBE_FORMATTER" "Ljava/util/function/BiFunction;" ∈ pj_tbl) (d : pj_d cc pc (.getstatic index) 3 q) (kn : pj_W K H lo q ls (.null :: st)) (kr : ∀ t : Nat, pj_W K H lo q ls (.ref t :: st)) : pj_W K H lo pc ls st := by
  obtain ⟨d, rfl⟩ := d
  rcases C.2.2.2.2.2.1.2.2.2.2.2.2.1 with h | ⟨t, h⟩
  · exact va_gets C.1 C.2.1 h P.2 C.2.2.2.1 (C.2.2.2.2.1 _ hf) (fun _ h => h) d kn
  · exact va_gets C.1 C.2.1 h P.2 C.2.2.2.1 (C.2.2.2.2.1 _ hf) (fun _ h => h) d (kr t)
theorem eJ0_length_8abf5_0 : pj_d cJ0_length_8abf5 0 (.aload_n 0) 1 1 := ⟨by decide +kernel, rfl⟩
theorem eJ0_length_8abf5_1 : pj_d cJ0_length_8abf5 1 (.getfield 9) 3 4 := ⟨by decide +kernel, rfl⟩
theorem eJ0_length_8abf5_4 : pj_d cJ0_length_8abf5 4 (.arraylength) 1 5 := ⟨by decide +kernel, rfl⟩
theorem eJ0_length_8abf5_5 : pj_d cJ0_length_8abf5 5 (.aload_n 0) 1 6 := ⟨by decide +kernel, rfl⟩
theorem eJ0_length_8abf5_6 : pj_d cJ0_length_8abf5 6 (.invokevirtual 335) 3 9 := ⟨by decide +kernel, rfl⟩
theorem eJ0_length_8abf5_9 : pj_d cJ0_length_8abf5 9 (.ishr) 1 10 := ⟨by decide +kernel, rfl⟩
theorem eJ0_length_8abf5_10 : pj_d cJ0_length_8abf5 10 (.ireturn) 1 11 := ⟨by decide +kernel, rfl⟩
theorem eJ0_charAt_5068e_0 : pj_d cJ0_charAt_5068e 0 (.aload_n 0) 1 1 := ⟨by decide +kernel, rfl⟩
theorem eJ0_charAt_5068e_1 : pj_d cJ0_charAt_5068e 1 (.invokevirtual 492) 3 4 := ⟨by decide +kernel, rfl⟩
theorem eJ0_charAt_5068e_4 : pj_dj cJ0_charAt_5068e 4 (.ifCond .eq 12) 12 7 16 := ⟨by decide +kernel, rfl, by decide⟩
theorem eJ0_charAt_5068e_7 : pj_d cJ0_charAt_5068e 7 (.aload_n 0) 1 8 := ⟨by decide +kernel, rfl⟩
theorem eJ0_charAt_5068e_8 : pj_d cJ0_charAt_5068e 8 (.getfield 9) 3 11 := ⟨by decide +kernel, rfl⟩
theorem eJ0_charAt_5068e_11 : pj_d cJ0_charAt_5068e 11 (.iload_n 1) 1 12 := ⟨by decide +kernel, rfl⟩
theorem eJ0_charAt_5068e_12 : pj_d cJ0_charAt_5068e 12 (.invokestatic 495) 3 15 := ⟨by decide +kernel, rfl⟩
theorem eJ0_charAt_5068e_15 : pj_d cJ0_charAt_5068e 15 (.ireturn) 1 16 := ⟨by decide +kernel, rfl⟩
theorem eJ0_charAt_5068e_16 : pj_d cJ0_charAt_5068e 16 (.aload_n 0) 1 17 := ⟨by decide +kernel, rfl⟩
theorem eJ0_charAt_5068e_17 : pj_d cJ0_charAt_5068e 17 (.getfield 9) 3 20 := ⟨by decide +kernel, rfl⟩
theorem eJ0_charAt_5068e_20 : pj_d cJ0_charAt_5068e 20 (.iload_n 1) 1 21 := ⟨by decide +kernel, rfl⟩
theorem eJ0_charAt_5068e_21 : pj_d cJ0_charAt_5068e 21 (.invokestatic 498) 3 24 := ⟨by decide +kernel, rfl⟩
theorem eJ0_charAt_5068e_24 : pj_d cJ0_charAt_5068e 24 (.ireturn) 1 25 := ⟨by decide +kernel, rfl⟩
theorem eJ0_coder_7d493_0 : pj_d cJ0_coder_7d493 0 (.getstatic 38) 3 3 := ⟨by decide +kernel, rfl⟩
theorem eJ0_coder_7d493_3 : pj_dj cJ0_coder_7d493 3 (.ifCond .eq 10) 10 6 13 := ⟨by decide +kernel, rfl, by decide⟩
theorem eJ0_coder_7d493_6 : pj_d cJ0_coder_7d493 6 (.aload_n 0) 1 7 := ⟨by decide +kernel, rfl⟩
theorem eJ0_coder_7d493_7 : pj_d cJ0_coder_7d493 7 (.getfield 15) 3 10 := ⟨by decide +kernel, rfl⟩
theorem eJ0_coder_7d493_10 : pj_dj cJ0_coder_7d493 10 (.goto 4) 4 13 14 := ⟨by decide +kernel, rfl, by decide⟩
theorem eJ0_coder_7d493_13 : pj_d cJ0_coder_7d493 13 (.iconst 1) 1 14 := ⟨by decide +kernel, rfl⟩
theorem eJ0_coder_7d493_14 : pj_d cJ0_coder_7d493 14 (.ireturn) 1 15 := ⟨by decide +kernel, rfl⟩
theorem eJ0_isLatin1_aae02_0 : pj_d cJ0_isLatin1_aae02 0 (.getstatic 38) 3 3 := ⟨by decide +kernel, rfl⟩
theorem eJ0_isLatin1_aae02_3 : pj_dj cJ0_isLatin1_aae02 3 (.ifCond .eq 14) 14 6 17 := ⟨by decide +kernel, rfl, by decide⟩
theorem eJ0_isLatin1_aae02_6 : pj_d cJ0_isLatin1_aae02 6 (.aload_n 0) 1 7 := ⟨by decide +kernel, rfl⟩
theorem eJ0_isLatin1_aae02_7 : pj_d cJ0_isLatin1_aae02 7 (.getfield 15) 3 10 := ⟨by decide +kernel, rfl⟩
theorem eJ0_isLatin1_aae02_10 : pj_dj cJ0_isLatin1_aae02 10 (.ifCond .ne 7) 7 13 17 := ⟨by decide +kernel, rfl, by decide⟩
theorem eJ0_isLatin1_aae02_13 : pj_d cJ0_isLatin1_aae02 13 (.iconst 1) 1 14 := ⟨by decide +kernel, rfl⟩
theorem eJ0_isLatin1_aae02_14 : pj_dj cJ0_isLatin1_aae02 14 (.goto 4) 4 17 18 := ⟨by decide +kernel, rfl, by decide⟩
theorem eJ0_isLatin1_aae02_17 : pj_d cJ0_isLatin1_aae02 17 (.iconst 0) 1 18 := ⟨by decide +kernel, rfl⟩
theorem eJ0_isLatin1_aae02_18 : pj_d cJ0_isLatin1_aae02 18 (.ireturn) 1 19 := ⟨by decide +kernel, rfl⟩
theorem eJ0_checkIndex_df160_0 : pj_d cJ0_checkIndex_df160 0 (.iload_n 0) 1 1 := ⟨by decide +kernel, rfl⟩
theorem eJ0_checkIndex_df160_1 : pj_d cJ0_checkIndex_df160 1 (.iload_n 1) 1 2 := ⟨by decide +kernel, rfl⟩
theorem eJ0_checkIndex_df160_2 : pj_d cJ0_checkIndex_df160 2 (.getstatic 1053) 3 5 := ⟨by decide +kernel, rfl⟩
theorem eJ0_checkIndex_df160_5 : pj_d cJ0_checkIndex_df160 5 (.invokestatic 1059) 3 8 := ⟨by decide +kernel, rfl⟩
theorem eJ0_checkIndex_df160_8 : pj_d cJ0_checkIndex_df160 8 (.pop) 1 9 := ⟨by decide +kernel, rfl⟩
theorem eJ0_checkIndex_df160_9 : pj_d cJ0_checkIndex_df160 9 (.return_) 1 10 := ⟨by decide +kernel, rfl⟩
theorem eJ1_charAt_3b067_0 : pj_d cJ1_charAt_3b067 0 (.iload_n 1) 1 1 := ⟨by decide +kernel, rfl⟩
theorem eJ1_charAt_3b067_1 : pj_d cJ1_charAt_3b067 1 (.aload_n 0) 1 2 := ⟨by decide +kernel, rfl⟩
theorem eJ1_charAt_3b067_2 : pj_d cJ1_charAt_3b067 2 (.arraylength) 1 3 := ⟨by decide +kernel, rfl⟩
theorem eJ1_charAt_3b067_3 : pj_d cJ1_charAt_3b067 3 (.invokestatic 9) 3 6 := ⟨by decide +kernel, rfl⟩
theorem eJ1_charAt_3b067_6 : pj_d cJ1_charAt_3b067 6 (.aload_n 0) 1 7 := ⟨by decide +kernel, rfl⟩
theorem eJ1_charAt_3b067_7 : pj_d cJ1_charAt_3b067 7 (.iload_n 1) 1 8 := ⟨by decide +kernel, rfl⟩
theorem eJ1_charAt_3b067_8 : pj_d cJ1_charAt_3b067 8 (.baload) 1 9 := ⟨by decide +kernel, rfl⟩
theorem eJ1_charAt_3b067_9 : pj_d cJ1_charAt_3b067 9 (.sipush 255) 3 12 := ⟨by decide +kernel, rfl⟩
theorem eJ1_charAt_3b067_12 : pj_d cJ1_charAt_3b067 12 (.iand) 1 13 := ⟨by decide +kernel, rfl⟩
theorem eJ1_charAt_3b067_13 : pj_d cJ1_charAt_3b067 13 (.i2c) 1 14 := ⟨by decide +kernel, rfl⟩
theorem eJ1_charAt_3b067_14 : pj_d cJ1_charAt_3b067 14 (.ireturn) 1 15 := ⟨by decide +kernel, rfl⟩
theorem eJ3_checkIndex_8e157_0 : pj_d cJ3_checkIndex_8e157 0 (.iload_n 0) 1 1 := ⟨by decide +kernel, rfl⟩
theorem eJ3_checkIndex_8e157_1 : pj_dj cJ3_checkIndex_8e157 1 (.ifCond .lt 8) 8 4 9 := ⟨by decide +kernel, rfl, by decide⟩
theorem eJ3_checkIndex_8e157_4 : pj_d cJ3_checkIndex_8e157 4 (.iload_n 0) 1 5 := ⟨by decide +kernel, rfl⟩
theorem eJ3_checkIndex_8e157_5 : pj_d cJ3_checkIndex_8e157 5 (.iload_n 1) 1 6 := ⟨by decide +kernel, rfl⟩
theorem eJ3_checkIndex_8e157_6 : pj_dj cJ3_checkIndex_8e157 6 (.if_icmp .lt 10) 10 9 16 := ⟨by decide +kernel, rfl, by decide⟩
theorem eJ3_checkIndex_8e157_9 : pj_d cJ3_checkIndex_8e157 9 (.aload_n 2) 1 10 := ⟨by decide +kernel, rfl⟩
theorem eJ3_checkIndex_8e157_10 : pj_d cJ3_checkIndex_8e157 10 (.iload_n 0) 1 11 := ⟨by decide +kernel, rfl⟩
theorem eJ3_checkIndex_8e157_11 : pj_d cJ3_checkIndex_8e157 11 (.iload_n 1) 1 12 := ⟨by decide +kernel, rfl⟩
theorem eJ3_checkIndex_8e157_12 : pj_d cJ3_checkIndex_8e157 12 (.invokestatic 95) 3 15 := ⟨by decide +kernel, rfl⟩
theorem eJ3_checkIndex_8e157_15 : pj_d cJ3_checkIndex_8e157 15 (.athrow) 1 16 := ⟨by decide +kernel, rfl⟩
theorem eJ3_checkIndex_8e157_16 : pj_d cJ3_checkIndex_8e157 16 (.iload_n 0) 1 17 := ⟨by decide +kernel, rfl⟩
theorem eJ3_checkIndex_8e157_17 : pj_d cJ3_checkIndex_8e157 17 (.ireturn) 1 18 := ⟨by decide +kernel, rfl⟩
theorem ct_JStr_coder {l : Launch} {B : pj_B} {i : Nat} (hi : i < 12) {z : pj_S} : pj_Mi l yJ0_coder_7d493 cJ0_coder_7d493 1 (some .byte) 1 [.ref (B.2.2.2.2.2.1 i)] B z 0 z := by
  refine pj_meti (own := RJ0) (by decide +kernel) rfl (Nat.le_of_ble_eq_true rfl) ?_
  intro A K hK C Q H lo ls P hl
  have hl : lv_has ls 1 [(0, .ref (B.2.2.2.2.2.1 i))] := hl
  refine pj_sC1 C P jf_38 eJ0_coder_7d493_0 ?_
  refine pj_if_eq (X := none) (Y := some ()) (r := ()) C (by decide) eJ0_coder_7d493_3 (fun h => by cases h) (fun _ => ?_)
  refine pj_aload_n C eJ0_coder_7d493_6 rfl hl 0 rfl ?_
  refine pj_sK C P i hi jf_15 eJ0_coder_7d493_7 ?_
  refine pj_goto C eJ0_coder_7d493_10 ?_
  exact pj_nret C Q P (by decide) rfl eJ0_coder_7d493_14
theorem ct_JStr_isLatin1 {l : Launch} {B : pj_B} {i : Nat} (hi : i < 12) {z : pj_S} : pj_Mi l yJ0_isLatin1_aae02 cJ0_isLatin1_aae02 1 (some .boolean) 1 [.ref (B.2.2.2.2.2.1 i)] B z 1 z := by
  refine pj_meti (own := RJ0) (by decide +kernel) rfl (Nat.le_of_ble_eq_true rfl) ?_
  intro A K hK C Q H lo ls P hl
  have hl : lv_has ls 1 [(0, .ref (B.2.2.2.2.2.1 i))] := hl
  refine pj_sC1 C P jf_38 eJ0_isLatin1_aae02_0 ?_
  refine pj_if_eq (X := none) (Y := some ()) (r := ()) C (by decide) eJ0_isLatin1_aae02_3 (fun h => by cases h) (fun _ => ?_)
  refine pj_aload_n C eJ0_isLatin1_aae02_6 rfl hl 0 rfl ?_
  refine pj_sK C P i hi jf_15 eJ0_isLatin1_aae02_7 ?_
  refine pj_if_ne (X := none) (Y := some ()) (r := ()) C (by decide) eJ0_isLatin1_aae02_10 (fun h => by cases h) (fun _ => ?_)
  refine pj_iconst (v := 1) C eJ0_isLatin1_aae02_13 rfl ?_
  refine pj_goto C eJ0_isLatin1_aae02_14 ?_
  exact pj_nret C Q P (by decide) rfl eJ0_isLatin1_aae02_18
theorem pj_chk {a : Int32} {n : Nat} (hn : n < 2 ^ 31) (h : vp_in a n) : ¬ a < 0 ∧ a < Int32.ofNat n := by
  obtain ⟨j, hj, rfl⟩ := vp_in_of h hn
  exact ⟨nI_pos (by omega), nI_lt hj hn⟩
theorem ct_JPre_n {l : Launch} {B : pj_B} {a b : Int32} (h1 : ¬ a < 0) (h2 : a < b) {z : pj_S} : pj_Mi l yJ3_checkIndex_8e157 cJ3_checkIndex_8e157 3 (some .int) 1 [.int a, .int b, .null] B z a z := by
  refine pj_meti (own := RJ3) (by decide +kernel) rfl (Nat.le_of_ble_eq_true rfl) ?_
  intro A K hK C Q H lo ls P hl
  have hl : lv_has ls 3 [(0, .int a), (1, .int b), (2, .null)] := hl
  refine pj_iload_n C eJ3_checkIndex_8e157_0 rfl hl 0 rfl ?_
  refine pj_if_lt (X := none) (Y := some ()) (r := ()) C (by rw [if_neg h1]) eJ3_checkIndex_8e157_1 (fun h => by cases h) (fun _ => ?_)
  refine pj_iload_n C eJ3_checkIndex_8e157_4 rfl hl 0 rfl ?_
  refine pj_iload_n C eJ3_checkIndex_8e157_5 rfl hl 1 rfl ?_
  refine pj_ic_lt (X := some ()) (Y := none) (r := ()) C (by rw [if_pos h2]) eJ3_checkIndex_8e157_6 (fun _ => ?_) (fun h => by cases h)
  refine pj_iload_n C eJ3_checkIndex_8e157_16 rfl hl 0 rfl ?_
  exact pj_iret C Q P rfl eJ3_checkIndex_8e157_17
theorem ct_JPre_r {l : Launch} {B : pj_B} {a b : Int32} {t : Nat} (h1 : ¬ a < 0) (h2 : a < b) {z : pj_S} : pj_Mi l yJ3_checkIndex_8e157 cJ3_checkIndex_8e157 3 (some .int) 1 [.int a, .int b, .ref t] B z a z := by
  refine pj_meti (own := RJ3) (by decide +kernel) rfl (Nat.le_of_ble_eq_true rfl) ?_
  intro A K hK C Q H lo ls P hl
  have hl : lv_has ls 3 [(0, .int a), (1, .int b), (2, .ref t)] := hl
  refine pj_iload_n C eJ3_checkIndex_8e157_0 rfl hl 0 rfl ?_
  refine pj_if_lt (X := none) (Y := some ()) (r := ()) C (by rw [if_neg h1]) eJ3_checkIndex_8e157_1 (fun h => by cases h) (fun _ => ?_)
  refine pj_iload_n C eJ3_checkIndex_8e157_4 rfl hl 0 rfl ?_
  refine pj_iload_n C eJ3_checkIndex_8e157_5 rfl hl 1 rfl ?_
  refine pj_ic_lt (X := some ()) (Y := none) (r := ()) C (by rw [if_pos h2]) eJ3_checkIndex_8e157_6 (fun _ => ?_) (fun h => by cases h)
  refine pj_iload_n C eJ3_checkIndex_8e157_16 rfl hl 0 rfl ?_
  exact pj_iret C Q P rfl eJ3_checkIndex_8e157_17
theorem ct_JStr_checkIndex {l : Launch} {B : pj_B} {a b : Int32} (h1 : ¬ a < 0) (h2 : a < b) {z : pj_S} : pj_Mv l yJ0_checkIndex_df160 cJ0_checkIndex_df160 2 none 2 [.int a, .int b] B z () z := by
  refine pj_metv (own := RJ0) (by decide +kernel) rfl (Nat.le_of_ble_eq_true rfl) ?_
  intro A K hK C Q H lo ls P hl
  have hl : lv_has ls 2 [(0, .int a), (1, .int b)] := hl
  refine pj_iload_n C eJ0_checkIndex_df160_0 rfl hl 0 rfl ?_
  refine pj_iload_n C eJ0_checkIndex_df160_1 rfl hl 1 rfl ?_
  refine pj_sF C P jf_1053 eJ0_checkIndex_df160_2 ?_ (fun t => ?_)
  · refine pj_cSi (st := []) [.int a, .int b, .null] C P (ct_JPre_n h1 h2) cl_JStr_1059 rfl (by decide) (by decide) hl.1 (Nat.le_of_ble_eq_true rfl) eJ0_checkIndex_df160_5 (fun H lo P => ?_)
    refine pj_pop C eJ0_checkIndex_df160_8 rfl ?_
    exact pj_vret C Q P rfl eJ0_checkIndex_df160_9
  · refine pj_cSi (st := []) [.int a, .int b, .ref t] C P (ct_JPre_r h1 h2) cl_JStr_1059 rfl (by decide) (by decide) hl.1 (Nat.le_of_ble_eq_true rfl) eJ0_checkIndex_df160_5 (fun H lo P => ?_)
    refine pj_pop C eJ0_checkIndex_df160_8 rfl ?_
    exact pj_vret C Q P rfl eJ0_checkIndex_df160_9
theorem pj_chA : ∀ i, i < 12 → ∀ k, k < pj_lenS.getD i 0 → (((pj_ch i k &&& 255).toUInt32 % 65536).toInt32 = pj_ch i k ∧ narrow .char (.int (pj_ch i k)) = .int (pj_ch i k)) := by decide +kernel
theorem pj_lenA : ∀ i, i < 12 → pj_lenS.getD i 0 < 2 ^ 31 := by decide +kernel
theorem ct_JLat_charAt {l : Launch} {B : pj_B} {i : Nat} {j : Int32} (hi : i < 12) (hj : vp_in j (pj_lenS.getD i 0)) {z : pj_S} : pj_Mi l yJ1_charAt_3b067 cJ1_charAt_3b067 2 (some .char) 3 [.ref (B.2.2.2.2.2.2 i), .int j] B z (pj_ch i j.toNatClampNeg) z := by
  refine pj_meti (own := RJ1) (by decide +kernel) rfl (Nat.le_of_ble_eq_true rfl) ?_
  intro A K hK C Q H lo ls P hl
  have hl : lv_has ls 2 [(0, .ref (B.2.2.2.2.2.2 i)), (1, .int j)] := hl
  obtain ⟨g1, g2⟩ := pj_chk (pj_lenA i hi) hj
  refine pj_iload_n C eJ1_charAt_3b067_0 rfl hl 1 rfl ?_
  refine pj_aload_n C eJ1_charAt_3b067_1 rfl hl 0 rfl ?_
  refine pj_sL C P i hi eJ1_charAt_3b067_2 ?_
  refine pj_cSv (st := []) [.int j, .int (Int32.ofNat (pj_lenS.getD i 0))] C P (ct_JStr_checkIndex g1 g2) cl_JLat_9 rfl (by decide) (by decide) hl.1 (Nat.le_of_ble_eq_true rfl) eJ1_charAt_3b067_3 (fun H lo P => ?_)
  refine pj_aload_n C eJ1_charAt_3b067_6 rfl hl 0 rfl ?_
  refine pj_iload_n C eJ1_charAt_3b067_7 rfl hl 1 rfl ?_
  refine pj_sB C P i hi hj eJ1_charAt_3b067_8 ?_
  refine pj_sipush (v := 255) C eJ1_charAt_3b067_9 rfl ?_
  refine pj_iand C eJ1_charAt_3b067_12 ?_
  refine pj_i2c C eJ1_charAt_3b067_13 ?_
  have hk : j.toNatClampNeg < pj_lenS.getD i 0 := by
    obtain ⟨k, hk, rfl⟩ := vp_in_of hj (pj_lenA i hi)
    have := pj_lenA i hi
    rw [nI_clamp (by omega)]
    exact hk
  obtain ⟨c1, c2⟩ := pj_chA i hi _ hk
  rw [c1]
  exact pj_nret C Q P c2 rfl eJ1_charAt_3b067_14
theorem ct_JStr_length {l : Launch} {B : pj_B} {L : List pj_Y} (hB : B.2.2.2.1 = L) {v0 : Nat} {z : pj_S} {r0 : Int32} {z0 : pj_S} (h : JStr_length v0 z = some (r0, z0)) : pj_Mi l yJ0_length_8abf5 cJ0_length_8abf5 1 (some .int) 6 [.ref (B.2.2.2.2.2.1 v0)] B z r0 z0 := by
  have hi := JStr_hi_length h
  replace h := (pj_gE h).2
  refine pj_meti (own := RJ0) (by decide +kernel) rfl (Nat.le_of_ble_eq_true rfl) ?_
  intro A K hK C Q H lo ls P hl
  have hl : lv_has ls 1 [(0, .ref (B.2.2.2.2.2.1 v0))] := hl
  refine pj_aload_n C eJ0_length_8abf5_0 rfl hl 0 rfl ?_
  refine pj_sV C P v0 hi jf_9 eJ0_length_8abf5_1 ?_
  refine pj_sL C P v0 hi eJ0_length_8abf5_4 ?_
  refine pj_aload_n C eJ0_length_8abf5_5 rfl hl 0 rfl ?_
  refine pj_cKi (st := [.int (Int32.ofNat (pj_lenS.getD v0 0))]) [] C P v0 hi (ct_JStr_coder hi) cl_JStr_335 rfl (by decide) (by decide) hl.1 (Nat.le_of_ble_eq_true rfl) eJ0_length_8abf5_6 (fun H lo P => ?_)
  refine pj_ishr C eJ0_length_8abf5_9 ?_
  rw [sb_shr0]
  exact pj_iret C Q P h eJ0_length_8abf5_10
theorem ct_JStr_charAt {l : Launch} {B : pj_B} {L : List pj_Y} (hB : B.2.2.2.1 = L) {v0 : Nat} {v1 : Int32} {z : pj_S} {r0 : Int32} {z0 : pj_S} (h : JStr_charAt v0 v1 z = some (r0, z0)) : pj_Mi l yJ0_charAt_5068e cJ0_charAt_5068e 2 (some .char) 6 [.ref (B.2.2.2.2.2.1 v0), .int v1] B z r0 z0 := by
  have hi := JStr_hi_charAt h
  obtain ⟨hj, h⟩ := pj_gE (pj_gE h).2
  replace hj := pj_inE hj
  refine pj_meti (own := RJ0) (by decide +kernel) rfl (Nat.le_of_ble_eq_true rfl) ?_
  intro A K hK C Q H lo ls P hl
  have hl : lv_has ls 2 [(0, .ref (B.2.2.2.2.2.1 v0)), (1, .int v1)] := hl
  have hk : v1.toNatClampNeg < pj_lenS.getD v0 0 := by
    obtain ⟨k, hk, rfl⟩ := vp_in_of hj (pj_lenA v0 hi)
    have := pj_lenA v0 hi
    rw [nI_clamp (by omega)]
    exact hk
  refine pj_aload_n C eJ0_charAt_5068e_0 rfl hl 0 rfl ?_
  refine pj_cKi (st := []) [] C P v0 hi (ct_JStr_isLatin1 hi) cl_JStr_492 rfl (by decide) (by decide) hl.1 (Nat.le_of_ble_eq_true rfl) eJ0_charAt_5068e_1 (fun H lo P => ?_)
  refine pj_if_eq (X := none) (Y := some ()) (r := ()) C (by decide) eJ0_charAt_5068e_4 (fun h => by cases h) (fun _ => ?_)
  refine pj_aload_n C eJ0_charAt_5068e_7 rfl hl 0 rfl ?_
  refine pj_sV C P v0 hi jf_9 eJ0_charAt_5068e_8 ?_
  refine pj_iload_n C eJ0_charAt_5068e_11 rfl hl 1 rfl ?_
  refine pj_cSi (st := []) [.ref (B.2.2.2.2.2.2 v0), .int v1] C P (ct_JLat_charAt hi hj) cl_JStr_495 rfl (by decide) (by decide) hl.1 (Nat.le_of_ble_eq_true rfl) eJ0_charAt_5068e_12 (fun H lo P => ?_)
  exact pj_nret C Q P (pj_chA v0 hi _ hk).2 h eJ0_charAt_5068e_15
end
