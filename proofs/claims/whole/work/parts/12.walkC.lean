theorem dd_Law_ofTwo_0 : pj_d cX2_ofTwo 0 (.iload_n 0) 1 1 := ⟨by decide +kernel, rfl⟩
theorem dd_Law_ofTwo_1 : pj_d cX2_ofTwo 1 (.tableswitch 108 (-8) (-1) #[104, 93, 82, 71, 59, 55, 51, 47]) 47 48 := ⟨by decide +kernel, rfl⟩
theorem dd_Law_ofTwo_48 : pj_d cX2_ofTwo 48 (.iload_n 1) 1 49 := ⟨by decide +kernel, rfl⟩
theorem dd_Law_ofTwo_49 : pj_d cX2_ofTwo 49 (.iload_n 2) 1 50 := ⟨by decide +kernel, rfl⟩
theorem dd_Law_ofTwo_50 : pj_d cX2_ofTwo 50 (.iadd) 1 51 := ⟨by decide +kernel, rfl⟩
theorem dd_Law_ofTwo_51 : pj_d cX2_ofTwo 51 (.ireturn) 1 52 := ⟨by decide +kernel, rfl⟩
theorem dd_Law_ofTwo_52 : pj_d cX2_ofTwo 52 (.iload_n 1) 1 53 := ⟨by decide +kernel, rfl⟩
theorem dd_Law_ofTwo_53 : pj_d cX2_ofTwo 53 (.iload_n 2) 1 54 := ⟨by decide +kernel, rfl⟩
theorem dd_Law_ofTwo_54 : pj_d cX2_ofTwo 54 (.isub) 1 55 := ⟨by decide +kernel, rfl⟩
theorem dd_Law_ofTwo_55 : pj_d cX2_ofTwo 55 (.ireturn) 1 56 := ⟨by decide +kernel, rfl⟩
theorem dd_Law_ofTwo_56 : pj_d cX2_ofTwo 56 (.iload_n 1) 1 57 := ⟨by decide +kernel, rfl⟩
theorem dd_Law_ofTwo_57 : pj_d cX2_ofTwo 57 (.iload_n 2) 1 58 := ⟨by decide +kernel, rfl⟩
theorem dd_Law_ofTwo_58 : pj_d cX2_ofTwo 58 (.imul) 1 59 := ⟨by decide +kernel, rfl⟩
theorem dd_Law_ofTwo_59 : pj_d cX2_ofTwo 59 (.ireturn) 1 60 := ⟨by decide +kernel, rfl⟩
theorem dd_Law_ofTwo_60 : pj_d cX2_ofTwo 60 (.iload_n 2) 1 61 := ⟨by decide +kernel, rfl⟩
theorem dd_Law_ofTwo_61 : pj_dj cX2_ofTwo 61 (.ifCond .ne 7) 7 64 68 := ⟨by decide +kernel, rfl, by decide⟩
theorem dd_Law_ofTwo_64 : pj_d cX2_ofTwo 64 (.iconst 0) 1 65 := ⟨by decide +kernel, rfl⟩
theorem dd_Law_ofTwo_65 : pj_dj cX2_ofTwo 65 (.goto 6) 6 68 71 := ⟨by decide +kernel, rfl, by decide⟩
theorem dd_Law_ofTwo_68 : pj_d cX2_ofTwo 68 (.iload_n 1) 1 69 := ⟨by decide +kernel, rfl⟩
theorem dd_Law_ofTwo_69 : pj_d cX2_ofTwo 69 (.iload_n 2) 1 70 := ⟨by decide +kernel, rfl⟩
theorem dd_Law_ofTwo_70 : pj_d cX2_ofTwo 70 (.idiv) 1 71 := ⟨by decide +kernel, rfl⟩
theorem dd_Law_ofTwo_71 : pj_d cX2_ofTwo 71 (.ireturn) 1 72 := ⟨by decide +kernel, rfl⟩
theorem dd_Law_ofTwo_72 : pj_d cX2_ofTwo 72 (.iload_n 1) 1 73 := ⟨by decide +kernel, rfl⟩
theorem dd_Law_ofTwo_73 : pj_d cX2_ofTwo 73 (.iload_n 2) 1 74 := ⟨by decide +kernel, rfl⟩
theorem dd_Law_ofTwo_74 : pj_dj cX2_ofTwo 74 (.if_icmp .ge 7) 7 77 81 := ⟨by decide +kernel, rfl, by decide⟩
theorem dd_Law_ofTwo_77 : pj_d cX2_ofTwo 77 (.iconst 1) 1 78 := ⟨by decide +kernel, rfl⟩
theorem dd_Law_ofTwo_78 : pj_dj cX2_ofTwo 78 (.goto 4) 4 81 82 := ⟨by decide +kernel, rfl, by decide⟩
theorem dd_Law_ofTwo_81 : pj_d cX2_ofTwo 81 (.iconst 0) 1 82 := ⟨by decide +kernel, rfl⟩
theorem dd_Law_ofTwo_82 : pj_d cX2_ofTwo 82 (.ireturn) 1 83 := ⟨by decide +kernel, rfl⟩
theorem dd_Law_ofTwo_83 : pj_d cX2_ofTwo 83 (.iload_n 1) 1 84 := ⟨by decide +kernel, rfl⟩
theorem dd_Law_ofTwo_84 : pj_d cX2_ofTwo 84 (.iload_n 2) 1 85 := ⟨by decide +kernel, rfl⟩
theorem dd_Law_ofTwo_85 : pj_dj cX2_ofTwo 85 (.if_icmp .ne 7) 7 88 92 := ⟨by decide +kernel, rfl, by decide⟩
theorem dd_Law_ofTwo_88 : pj_d cX2_ofTwo 88 (.iconst 1) 1 89 := ⟨by decide +kernel, rfl⟩
theorem dd_Law_ofTwo_89 : pj_dj cX2_ofTwo 89 (.goto 4) 4 92 93 := ⟨by decide +kernel, rfl, by decide⟩
theorem dd_Law_ofTwo_92 : pj_d cX2_ofTwo 92 (.iconst 0) 1 93 := ⟨by decide +kernel, rfl⟩
theorem dd_Law_ofTwo_93 : pj_d cX2_ofTwo 93 (.ireturn) 1 94 := ⟨by decide +kernel, rfl⟩
theorem dd_Law_ofTwo_94 : pj_d cX2_ofTwo 94 (.iload_n 1) 1 95 := ⟨by decide +kernel, rfl⟩
theorem dd_Law_ofTwo_95 : pj_d cX2_ofTwo 95 (.iload_n 2) 1 96 := ⟨by decide +kernel, rfl⟩
theorem dd_Law_ofTwo_96 : pj_dj cX2_ofTwo 96 (.if_icmp .le 7) 7 99 103 := ⟨by decide +kernel, rfl, by decide⟩
theorem dd_Law_ofTwo_99 : pj_d cX2_ofTwo 99 (.iconst 1) 1 100 := ⟨by decide +kernel, rfl⟩
theorem dd_Law_ofTwo_100 : pj_dj cX2_ofTwo 100 (.goto 4) 4 103 104 := ⟨by decide +kernel, rfl, by decide⟩
theorem dd_Law_ofTwo_103 : pj_d cX2_ofTwo 103 (.iconst 0) 1 104 := ⟨by decide +kernel, rfl⟩
theorem dd_Law_ofTwo_104 : pj_d cX2_ofTwo 104 (.ireturn) 1 105 := ⟨by decide +kernel, rfl⟩
theorem dd_Law_ofTwo_105 : pj_d cX2_ofTwo 105 (.iload_n 1) 1 106 := ⟨by decide +kernel, rfl⟩
theorem dd_Law_ofTwo_106 : pj_d cX2_ofTwo 106 (.iload_n 2) 1 107 := ⟨by decide +kernel, rfl⟩
theorem dd_Law_ofTwo_107 : pj_d cX2_ofTwo 107 (.iand) 1 108 := ⟨by decide +kernel, rfl⟩
theorem dd_Law_ofTwo_108 : pj_d cX2_ofTwo 108 (.ireturn) 1 109 := ⟨by decide +kernel, rfl⟩
theorem dd_Law_ofTwo_109 : pj_d cX2_ofTwo 109 (.iload_n 1) 1 110 := ⟨by decide +kernel, rfl⟩
theorem dd_Law_ofTwo_110 : pj_d cX2_ofTwo 110 (.iload_n 2) 1 111 := ⟨by decide +kernel, rfl⟩
theorem dd_Law_ofTwo_111 : pj_d cX2_ofTwo 111 (.ior) 1 112 := ⟨by decide +kernel, rfl⟩
theorem dd_Law_ofTwo_112 : pj_d cX2_ofTwo 112 (.ireturn) 1 113 := ⟨by decide +kernel, rfl⟩
set_option maxHeartbeats 4000000 in
set_option maxRecDepth 100000 in
theorem ct_Law_ofTwo {l : Launch} {B : pj_B} (hB : B.2.2.2.1 = pj_LC) {v0 : Int32} {v1 : Int32} {v2 : Int32} {z : pj_S} {r0 : Int32} {z0 : pj_S} (h : Law_ofTwo v0 v1 v2 z = some (r0, z0)) : pj_Mi l yX2_ofTwo cX2_ofTwo 3 (some .int) 1 [.int v0, .int v1, .int v2] B z r0 z0 := by
  refine pj_meti (own := RX2) (by decide +kernel) rfl (Nat.le_of_ble_eq_true rfl) ?_
  intro A K hK C Q H lo ls P hl
  have hl : lv_has ls 3 [(0, .int v0), (1, .int v1), (2, .int v2)] := hl
  unfold Law_ofTwo at h
  refine pj_iload_n C dd_Law_ofTwo_0 rfl hl 0 rfl ?_
  refine pj_sw h (fun c0 h => ?_) (fun c0 h => ?_)
  · refine pj_swI (-8 : Int32) (104) 105 C dd_Law_ofTwo_1 c0 (by decide) ?_
    refine pj_iload_n C dd_Law_ofTwo_105 rfl hl 1 rfl ?_
    refine pj_iload_n C dd_Law_ofTwo_106 rfl hl 2 rfl ?_
    refine pj_iand C dd_Law_ofTwo_107 ?_
    exact pj_iret C Q P h dd_Law_ofTwo_108
  refine pj_sw h (fun c1 h => ?_) (fun c1 h => ?_)
  · refine pj_swI (-7 : Int32) (93) 94 C dd_Law_ofTwo_1 c1 (by decide) ?_
    refine pj_iload_n C dd_Law_ofTwo_94 rfl hl 1 rfl ?_
    refine pj_iload_n C dd_Law_ofTwo_95 rfl hl 2 rfl ?_
    refine pj_ic_le C h dd_Law_ofTwo_96 (fun h => ?_) (fun h => ?_)
    · refine pj_iconst (v := (nI 0)) C dd_Law_ofTwo_103 rfl ?_
      exact pj_iret C Q P h dd_Law_ofTwo_104
    · refine pj_iconst (v := (nI 1)) C dd_Law_ofTwo_99 rfl ?_
      refine pj_goto C dd_Law_ofTwo_100 ?_
      exact pj_iret C Q P h dd_Law_ofTwo_104
  refine pj_sw h (fun c2 h => ?_) (fun c2 h => ?_)
  · refine pj_swI (-6 : Int32) (82) 83 C dd_Law_ofTwo_1 c2 (by decide) ?_
    refine pj_iload_n C dd_Law_ofTwo_83 rfl hl 1 rfl ?_
    refine pj_iload_n C dd_Law_ofTwo_84 rfl hl 2 rfl ?_
    refine pj_ic_ne C h dd_Law_ofTwo_85 (fun h => ?_) (fun h => ?_)
    · refine pj_iconst (v := (nI 0)) C dd_Law_ofTwo_92 rfl ?_
      exact pj_iret C Q P h dd_Law_ofTwo_93
    · refine pj_iconst (v := (nI 1)) C dd_Law_ofTwo_88 rfl ?_
      refine pj_goto C dd_Law_ofTwo_89 ?_
      exact pj_iret C Q P h dd_Law_ofTwo_93
  refine pj_sw h (fun c3 h => ?_) (fun c3 h => ?_)
  · refine pj_swI (-5 : Int32) (71) 72 C dd_Law_ofTwo_1 c3 (by decide) ?_
    refine pj_iload_n C dd_Law_ofTwo_72 rfl hl 1 rfl ?_
    refine pj_iload_n C dd_Law_ofTwo_73 rfl hl 2 rfl ?_
    refine pj_ic_ge C h dd_Law_ofTwo_74 (fun h => ?_) (fun h => ?_)
    · refine pj_iconst (v := (nI 0)) C dd_Law_ofTwo_81 rfl ?_
      exact pj_iret C Q P h dd_Law_ofTwo_82
    · refine pj_iconst (v := (nI 1)) C dd_Law_ofTwo_77 rfl ?_
      refine pj_goto C dd_Law_ofTwo_78 ?_
      exact pj_iret C Q P h dd_Law_ofTwo_82
  refine pj_sw h (fun c4 h => ?_) (fun c4 h => ?_)
  · refine pj_swI (-4 : Int32) (59) 60 C dd_Law_ofTwo_1 c4 (by decide) ?_
    refine pj_iload_n C dd_Law_ofTwo_60 rfl hl 2 rfl ?_
    refine pj_if_ne C h dd_Law_ofTwo_61 (fun h => ?_) (fun h => ?_)
    · refine pj_iload_n C dd_Law_ofTwo_68 rfl hl 1 rfl ?_
      refine pj_iload_n C dd_Law_ofTwo_69 rfl hl 2 rfl ?_
      refine pj_idiv C h dd_Law_ofTwo_70 (fun h => ?_)
      exact pj_iret C Q P h dd_Law_ofTwo_71
    · refine pj_iconst (v := (nI 0)) C dd_Law_ofTwo_64 rfl ?_
      refine pj_goto C dd_Law_ofTwo_65 ?_
      exact pj_iret C Q P h dd_Law_ofTwo_71
  refine pj_sw h (fun c5 h => ?_) (fun c5 h => ?_)
  · refine pj_swI (-3 : Int32) (55) 56 C dd_Law_ofTwo_1 c5 (by decide) ?_
    refine pj_iload_n C dd_Law_ofTwo_56 rfl hl 1 rfl ?_
    refine pj_iload_n C dd_Law_ofTwo_57 rfl hl 2 rfl ?_
    refine pj_imul C dd_Law_ofTwo_58 ?_
    exact pj_iret C Q P h dd_Law_ofTwo_59
  refine pj_sw h (fun c6 h => ?_) (fun c6 h => ?_)
  · refine pj_swI (-2 : Int32) (51) 52 C dd_Law_ofTwo_1 c6 (by decide) ?_
    refine pj_iload_n C dd_Law_ofTwo_52 rfl hl 1 rfl ?_
    refine pj_iload_n C dd_Law_ofTwo_53 rfl hl 2 rfl ?_
    refine pj_isub C dd_Law_ofTwo_54 ?_
    exact pj_iret C Q P h dd_Law_ofTwo_55
  refine pj_sw h (fun c7 h => ?_) (fun c7 h => ?_)
  · refine pj_swI (-1 : Int32) (47) 48 C dd_Law_ofTwo_1 c7 (by decide) ?_
    refine pj_iload_n C dd_Law_ofTwo_48 rfl hl 1 rfl ?_
    refine pj_iload_n C dd_Law_ofTwo_49 rfl hl 2 rfl ?_
    refine pj_iadd C dd_Law_ofTwo_50 ?_
    exact pj_iret C Q P h dd_Law_ofTwo_51
  have u0 := pj_nI c0 (n := -8) (by decide)
  have u1 := pj_nI c1 (n := -7) (by decide)
  have u2 := pj_nI c2 (n := -6) (by decide)
  have u3 := pj_nI c3 (n := -5) (by decide)
  have u4 := pj_nI c4 (n := -4) (by decide)
  have u5 := pj_nI c5 (n := -3) (by decide)
  have u6 := pj_nI c6 (n := -2) (by decide)
  have u7 := pj_nI c7 (n := -1) (by decide)
  refine pj_swO 109 C dd_Law_ofTwo_1 (by omega) (by decide) ?_
  refine pj_iload_n C dd_Law_ofTwo_109 rfl hl 1 rfl ?_
  refine pj_iload_n C dd_Law_ofTwo_110 rfl hl 2 rfl ?_
  refine pj_ior C dd_Law_ofTwo_111 ?_
  exact pj_iret C Q P h dd_Law_ofTwo_112
theorem dd_Fabric_belowOf_0 : pj_d cX1_belowOf 0 (.iload_n 1) 1 1 := ⟨by decide +kernel, rfl⟩
theorem dd_Fabric_belowOf_1 : pj_d cX1_belowOf 1 (.bipush 8) 2 3 := ⟨by decide +kernel, rfl⟩
theorem dd_Fabric_belowOf_3 : pj_dj cX1_belowOf 3 (.if_icmp .ge 7) 7 6 10 := ⟨by decide +kernel, rfl, by decide⟩
theorem dd_Fabric_belowOf_6 : pj_d cX1_belowOf 6 (.iconst 0) 1 7 := ⟨by decide +kernel, rfl⟩
theorem dd_Fabric_belowOf_7 : pj_dj cX1_belowOf 7 (.goto 14) 14 10 21 := ⟨by decide +kernel, rfl, by decide⟩
theorem dd_Fabric_belowOf_10 : pj_d cX1_belowOf 10 (.aload_n 0) 1 11 := ⟨by decide +kernel, rfl⟩
theorem dd_Fabric_belowOf_11 : pj_d cX1_belowOf 11 (.getfield 36) 3 14 := ⟨by decide +kernel, rfl⟩
theorem dd_Fabric_belowOf_14 : pj_d cX1_belowOf 14 (.iload_n 1) 1 15 := ⟨by decide +kernel, rfl⟩
theorem dd_Fabric_belowOf_15 : pj_d cX1_belowOf 15 (.bipush 8) 2 17 := ⟨by decide +kernel, rfl⟩
theorem dd_Fabric_belowOf_17 : pj_d cX1_belowOf 17 (.isub) 1 18 := ⟨by decide +kernel, rfl⟩
theorem dd_Fabric_belowOf_18 : pj_d cX1_belowOf 18 (.invokestatic 48) 3 21 := ⟨by decide +kernel, rfl⟩
theorem dd_Fabric_belowOf_21 : pj_d cX1_belowOf 21 (.ireturn) 1 22 := ⟨by decide +kernel, rfl⟩
set_option maxHeartbeats 4000000 in
set_option maxRecDepth 100000 in
theorem ct_Fabric_belowOf {l : Launch} {B : pj_B} (hB : B.2.2.2.1 = pj_LC) {v1 : Int32} {z : pj_S} {r0 : Int32} {z0 : pj_S} (h : Fabric_belowOf v1 z = some (r0, z0)) : pj_Mi l yX1_belowOf cX1_belowOf 2 (some .int) 2 [.ref (B.2.1 8), .int v1] B z r0 z0 := by
  refine pj_meti (own := RX1) (by decide +kernel) rfl (Nat.le_of_ble_eq_true rfl) ?_
  intro A K hK C Q H lo ls P hl
  have hl : lv_has ls 2 [(0, .ref (B.2.1 8)), (1, .int v1)] := hl
  unfold Fabric_belowOf at h
  refine pj_iload_n C dd_Fabric_belowOf_0 rfl hl 1 rfl ?_
  refine pj_bipush (v := (nI 8)) C dd_Fabric_belowOf_1 rfl ?_
  refine pj_ic_ge C h dd_Fabric_belowOf_3 (fun h => ?_) (fun h => ?_)
  · refine pj_aload_n C dd_Fabric_belowOf_10 rfl hl 0 rfl ?_
    refine pj_getJ C P 8 (LC8 hB) rfl fl_Fabric_36 dd_Fabric_belowOf_11 ?_
    refine pj_iload_n C dd_Fabric_belowOf_14 rfl hl 1 rfl ?_
    refine pj_bipush (v := (nI 8)) C dd_Fabric_belowOf_15 rfl ?_
    refine pj_isub C dd_Fabric_belowOf_17 ?_
    obtain ⟨r3, z2, e1, h⟩ := pj_cE h
    refine pj_cNi (st := []) [.long (z.2 8 6), .int (v1 - (nI 8))] C P (ct_PJ_bitOf hB e1) cl_Fabric_48 rfl (by decide) (by decide) hl.1 (Nat.le_of_ble_eq_true rfl) dd_Fabric_belowOf_18 (fun H lo P => ?_)
    exact pj_iret C Q P h dd_Fabric_belowOf_21
  · refine pj_iconst (v := (nI 0)) C dd_Fabric_belowOf_6 rfl ?_
    refine pj_goto C dd_Fabric_belowOf_7 ?_
    exact pj_iret C Q P h dd_Fabric_belowOf_21
theorem dd_Fabric_besideOf_0 : pj_d cX1_besideOf 0 (.iload_n 1) 1 1 := ⟨by decide +kernel, rfl⟩
theorem dd_Fabric_besideOf_1 : pj_d cX1_besideOf 1 (.bipush 7) 2 3 := ⟨by decide +kernel, rfl⟩
theorem dd_Fabric_besideOf_3 : pj_d cX1_besideOf 3 (.iand) 1 4 := ⟨by decide +kernel, rfl⟩
theorem dd_Fabric_besideOf_4 : pj_d cX1_besideOf 4 (.istore_n 2) 1 5 := ⟨by decide +kernel, rfl⟩
theorem dd_Fabric_besideOf_5 : pj_d cX1_besideOf 5 (.iload_n 2) 1 6 := ⟨by decide +kernel, rfl⟩
theorem dd_Fabric_besideOf_6 : pj_dj cX1_besideOf 6 (.ifCond .le 16) 16 9 22 := ⟨by decide +kernel, rfl, by decide⟩
theorem dd_Fabric_besideOf_9 : pj_d cX1_besideOf 9 (.aload_n 0) 1 10 := ⟨by decide +kernel, rfl⟩
theorem dd_Fabric_besideOf_10 : pj_d cX1_besideOf 10 (.getfield 36) 3 13 := ⟨by decide +kernel, rfl⟩
theorem dd_Fabric_besideOf_13 : pj_d cX1_besideOf 13 (.iload_n 1) 1 14 := ⟨by decide +kernel, rfl⟩
theorem dd_Fabric_besideOf_14 : pj_d cX1_besideOf 14 (.iconst 1) 1 15 := ⟨by decide +kernel, rfl⟩
theorem dd_Fabric_besideOf_15 : pj_d cX1_besideOf 15 (.isub) 1 16 := ⟨by decide +kernel, rfl⟩
theorem dd_Fabric_besideOf_16 : pj_d cX1_besideOf 16 (.invokestatic 48) 3 19 := ⟨by decide +kernel, rfl⟩
theorem dd_Fabric_besideOf_19 : pj_dj cX1_besideOf 19 (.goto 4) 4 22 23 := ⟨by decide +kernel, rfl, by decide⟩
theorem dd_Fabric_besideOf_22 : pj_d cX1_besideOf 22 (.iconst 0) 1 23 := ⟨by decide +kernel, rfl⟩
theorem dd_Fabric_besideOf_23 : pj_d cX1_besideOf 23 (.istore_n 3) 1 24 := ⟨by decide +kernel, rfl⟩
theorem dd_Fabric_besideOf_24 : pj_d cX1_besideOf 24 (.iload_n 2) 1 25 := ⟨by decide +kernel, rfl⟩
theorem dd_Fabric_besideOf_25 : pj_d cX1_besideOf 25 (.iconst 1) 1 26 := ⟨by decide +kernel, rfl⟩
theorem dd_Fabric_besideOf_26 : pj_d cX1_besideOf 26 (.iadd) 1 27 := ⟨by decide +kernel, rfl⟩
theorem dd_Fabric_besideOf_27 : pj_d cX1_besideOf 27 (.aload_n 0) 1 28 := ⟨by decide +kernel, rfl⟩
theorem dd_Fabric_besideOf_28 : pj_d cX1_besideOf 28 (.getfield 9) 3 31 := ⟨by decide +kernel, rfl⟩
theorem dd_Fabric_besideOf_31 : pj_dj cX1_besideOf 31 (.if_icmp .ge 16) 16 34 47 := ⟨by decide +kernel, rfl, by decide⟩
theorem dd_Fabric_besideOf_34 : pj_d cX1_besideOf 34 (.aload_n 0) 1 35 := ⟨by decide +kernel, rfl⟩
theorem dd_Fabric_besideOf_35 : pj_d cX1_besideOf 35 (.getfield 36) 3 38 := ⟨by decide +kernel, rfl⟩
theorem dd_Fabric_besideOf_38 : pj_d cX1_besideOf 38 (.iload_n 1) 1 39 := ⟨by decide +kernel, rfl⟩
theorem dd_Fabric_besideOf_39 : pj_d cX1_besideOf 39 (.iconst 1) 1 40 := ⟨by decide +kernel, rfl⟩
theorem dd_Fabric_besideOf_40 : pj_d cX1_besideOf 40 (.iadd) 1 41 := ⟨by decide +kernel, rfl⟩
theorem dd_Fabric_besideOf_41 : pj_d cX1_besideOf 41 (.invokestatic 48) 3 44 := ⟨by decide +kernel, rfl⟩
theorem dd_Fabric_besideOf_44 : pj_dj cX1_besideOf 44 (.goto 4) 4 47 48 := ⟨by decide +kernel, rfl, by decide⟩
theorem dd_Fabric_besideOf_47 : pj_d cX1_besideOf 47 (.iconst 0) 1 48 := ⟨by decide +kernel, rfl⟩
theorem dd_Fabric_besideOf_48 : pj_d cX1_besideOf 48 (.istore 4) 2 50 := ⟨by decide +kernel, rfl⟩
theorem dd_Fabric_besideOf_50 : pj_d cX1_besideOf 50 (.iload_n 3) 1 51 := ⟨by decide +kernel, rfl⟩
theorem dd_Fabric_besideOf_51 : pj_d cX1_besideOf 51 (.iload 4) 2 53 := ⟨by decide +kernel, rfl⟩
theorem dd_Fabric_besideOf_53 : pj_d cX1_besideOf 53 (.iadd) 1 54 := ⟨by decide +kernel, rfl⟩
theorem dd_Fabric_besideOf_54 : pj_d cX1_besideOf 54 (.ireturn) 1 55 := ⟨by decide +kernel, rfl⟩
set_option maxHeartbeats 4000000 in
set_option maxRecDepth 100000 in
theorem bt_Fabric_besideOf_48 {B : pj_B} {A : Nat → Prop} {K : pj_K} {r0 : Int32} {z0 : pj_S} (hB : B.2.2.2.1 = pj_LC) (C : pj_C B A K cX1_besideOf 5 RX1 2) (Q : pj_Qi B A K (some .int) r0 z0)  (v3 : Int32) (t0 : Int32) (z : pj_S) (H : Heap) (lo : List Loc) (ls : Array Slot) (h : Fabric_besideOf_48 v3 t0 z = some (r0, z0)) (P : pj_P B A K z H lo) (hl : lv_has ls 5 [(3, .int v3)]) : pj_W K H lo 48 ls [.int t0] := by
  unfold Fabric_besideOf_48 at h
  refine pj_istore [(4, .int t0), (3, .int v3)] C dd_Fabric_besideOf_48 hl (by decide) rfl (fun ls hl => ?_)
  refine pj_iload_n C dd_Fabric_besideOf_50 rfl hl 1 rfl ?_
  refine pj_iload C dd_Fabric_besideOf_51 hl 0 rfl ?_
  refine pj_iadd C dd_Fabric_besideOf_53 ?_
  exact pj_iret C Q P h dd_Fabric_besideOf_54
set_option maxHeartbeats 4000000 in
set_option maxRecDepth 100000 in
theorem bt_Fabric_besideOf_23 {B : pj_B} {A : Nat → Prop} {K : pj_K} {r0 : Int32} {z0 : pj_S} (hB : B.2.2.2.1 = pj_LC) (C : pj_C B A K cX1_besideOf 5 RX1 2) (Q : pj_Qi B A K (some .int) r0 z0)  (v1 : Int32) (v2 : Int32) (t0 : Int32) (z : pj_S) (H : Heap) (lo : List Loc) (ls : Array Slot) (h : Fabric_besideOf_23 v1 v2 t0 z = some (r0, z0)) (P : pj_P B A K z H lo) (hl : lv_has ls 5 [(0, .ref (B.2.1 8)), (1, .int v1), (2, .int v2)]) : pj_W K H lo 23 ls [.int t0] := by
  unfold Fabric_besideOf_23 at h
  refine pj_istore_n [(3, .int t0), (0, .ref (B.2.1 8)), (1, .int v1), (2, .int v2)] C dd_Fabric_besideOf_23 rfl hl (by decide) rfl (fun ls hl => ?_)
  refine pj_iload_n C dd_Fabric_besideOf_24 rfl hl 3 rfl ?_
  refine pj_iconst (v := (nI 1)) C dd_Fabric_besideOf_25 rfl ?_
  refine pj_iadd C dd_Fabric_besideOf_26 ?_
  refine pj_aload_n C dd_Fabric_besideOf_27 rfl hl 1 rfl ?_
  refine pj_getI C P 8 (LC8 hB) rfl fl_Fabric_9 dd_Fabric_besideOf_28 ?_
  refine pj_ic_ge C h dd_Fabric_besideOf_31 (fun h => ?_) (fun h => ?_)
  · refine pj_iconst (v := (nI 0)) C dd_Fabric_besideOf_47 rfl ?_
    exact bt_Fabric_besideOf_48 hB C Q _ _ _ _ _ _ h P (lv_sub hl [0] rfl)
  · refine pj_aload_n C dd_Fabric_besideOf_34 rfl hl 1 rfl ?_
    refine pj_getJ C P 8 (LC8 hB) rfl fl_Fabric_36 dd_Fabric_besideOf_35 ?_
    refine pj_iload_n C dd_Fabric_besideOf_38 rfl hl 2 rfl ?_
    refine pj_iconst (v := (nI 1)) C dd_Fabric_besideOf_39 rfl ?_
    refine pj_iadd C dd_Fabric_besideOf_40 ?_
    obtain ⟨r3, z2, e1, h⟩ := pj_cE h
    refine pj_cNi (st := []) [.long (z.2 8 6), .int (v1 + (nI 1))] C P (ct_PJ_bitOf hB e1) cl_Fabric_48 rfl (by decide) (by decide) hl.1 (Nat.le_of_ble_eq_true rfl) dd_Fabric_besideOf_41 (fun H lo P => ?_)
    refine pj_goto C dd_Fabric_besideOf_44 ?_
    exact bt_Fabric_besideOf_48 hB C Q _ _ _ _ _ _ h P (lv_sub hl [0] rfl)
set_option maxHeartbeats 4000000 in
set_option maxRecDepth 100000 in
theorem ct_Fabric_besideOf {l : Launch} {B : pj_B} (hB : B.2.2.2.1 = pj_LC) {v1 : Int32} {z : pj_S} {r0 : Int32} {z0 : pj_S} (h : Fabric_besideOf v1 z = some (r0, z0)) : pj_Mi l yX1_besideOf cX1_besideOf 5 (some .int) 2 [.ref (B.2.1 8), .int v1] B z r0 z0 := by
  refine pj_meti (own := RX1) (by decide +kernel) rfl (Nat.le_of_ble_eq_true rfl) ?_
  intro A K hK C Q H lo ls P hl
  have hl : lv_has ls 5 [(0, .ref (B.2.1 8)), (1, .int v1)] := hl
  unfold Fabric_besideOf at h
  refine pj_iload_n C dd_Fabric_besideOf_0 rfl hl 1 rfl ?_
  refine pj_bipush (v := (nI 7)) C dd_Fabric_besideOf_1 rfl ?_
  refine pj_iand C dd_Fabric_besideOf_3 ?_
  refine pj_istb_n [(0, .ref (B.2.1 8)), (1, .int v1)] C h dd_Fabric_besideOf_4 rfl hl (by decide) rfl (fun x1 ls h hl => ?_)
  refine pj_iload_n C dd_Fabric_besideOf_5 rfl hl 0 rfl ?_
  refine pj_if_le C h dd_Fabric_besideOf_6 (fun h => ?_) (fun h => ?_)
  · refine pj_iconst (v := (nI 0)) C dd_Fabric_besideOf_22 rfl ?_
    exact bt_Fabric_besideOf_23 hB C Q _ _ _ _ _ _ _ h P (lv_sub hl [1, 2, 0] rfl)
  · refine pj_aload_n C dd_Fabric_besideOf_9 rfl hl 1 rfl ?_
    refine pj_getJ C P 8 (LC8 hB) rfl fl_Fabric_36 dd_Fabric_besideOf_10 ?_
    refine pj_iload_n C dd_Fabric_besideOf_13 rfl hl 2 rfl ?_
    refine pj_iconst (v := (nI 1)) C dd_Fabric_besideOf_14 rfl ?_
    refine pj_isub C dd_Fabric_besideOf_15 ?_
    obtain ⟨r4, z3, e2, h⟩ := pj_cE h
    refine pj_cNi (st := []) [.long (z.2 8 6), .int (v1 - (nI 1))] C P (ct_PJ_bitOf hB e2) cl_Fabric_48 rfl (by decide) (by decide) hl.1 (Nat.le_of_ble_eq_true rfl) dd_Fabric_besideOf_16 (fun H lo P => ?_)
    refine pj_goto C dd_Fabric_besideOf_19 ?_
    exact bt_Fabric_besideOf_23 hB C Q _ _ _ _ _ _ _ h P (lv_sub hl [1, 2, 0] rfl)
theorem dd_Fabric_goneInColumn_0 : pj_d cX1_goneInColumn 0 (.iload_n 1) 1 1 := ⟨by decide +kernel, rfl⟩
theorem dd_Fabric_goneInColumn_1 : pj_d cX1_goneInColumn 1 (.iload_n 1) 1 2 := ⟨by decide +kernel, rfl⟩
theorem dd_Fabric_goneInColumn_2 : pj_d cX1_goneInColumn 2 (.iconst 0) 1 3 := ⟨by decide +kernel, rfl⟩
theorem dd_Fabric_goneInColumn_3 : pj_d cX1_goneInColumn 3 (.aload_n 0) 1 4 := ⟨by decide +kernel, rfl⟩
theorem dd_Fabric_goneInColumn_4 : pj_d cX1_goneInColumn 4 (.getfield 15) 3 7 := ⟨by decide +kernel, rfl⟩
theorem dd_Fabric_goneInColumn_7 : pj_d cX1_goneInColumn 7 (.iconst 1) 1 8 := ⟨by decide +kernel, rfl⟩
theorem dd_Fabric_goneInColumn_8 : pj_d cX1_goneInColumn 8 (.isub) 1 9 := ⟨by decide +kernel, rfl⟩
theorem dd_Fabric_goneInColumn_9 : pj_d cX1_goneInColumn 9 (.invokestatic 22) 3 12 := ⟨by decide +kernel, rfl⟩
theorem dd_Fabric_goneInColumn_12 : pj_d cX1_goneInColumn 12 (.lstore_n 2) 1 13 := ⟨by decide +kernel, rfl⟩
theorem dd_Fabric_goneInColumn_13 : pj_d cX1_goneInColumn 13 (.lload_n 2) 1 14 := ⟨by decide +kernel, rfl⟩
theorem dd_Fabric_goneInColumn_14 : pj_d cX1_goneInColumn 14 (.aload_n 0) 1 15 := ⟨by decide +kernel, rfl⟩
theorem dd_Fabric_goneInColumn_15 : pj_d cX1_goneInColumn 15 (.getfield 36) 3 18 := ⟨by decide +kernel, rfl⟩
theorem dd_Fabric_goneInColumn_18 : pj_d cX1_goneInColumn 18 (.ldc2_w 56) 3 21 := ⟨by decide +kernel, rfl⟩
theorem dd_Fabric_goneInColumn_21 : pj_d cX1_goneInColumn 21 (.lxor) 1 22 := ⟨by decide +kernel, rfl⟩
theorem dd_Fabric_goneInColumn_22 : pj_d cX1_goneInColumn 22 (.land) 1 23 := ⟨by decide +kernel, rfl⟩
theorem dd_Fabric_goneInColumn_23 : pj_d cX1_goneInColumn 23 (.invokestatic 98) 3 26 := ⟨by decide +kernel, rfl⟩
theorem dd_Fabric_goneInColumn_26 : pj_d cX1_goneInColumn 26 (.ireturn) 1 27 := ⟨by decide +kernel, rfl⟩
set_option maxHeartbeats 4000000 in
set_option maxRecDepth 100000 in
theorem ct_Fabric_goneInColumn {l : Launch} {B : pj_B} (hB : B.2.2.2.1 = pj_LC) {v1 : Int32} {z : pj_S} {r0 : Int32} {z0 : pj_S} (h : Fabric_goneInColumn v1 z = some (r0, z0)) : pj_Mi l yX1_goneInColumn cX1_goneInColumn 4 (some .int) 2 [.ref (B.2.1 8), .int v1] B z r0 z0 := by
  refine pj_meti (own := RX1) (by decide +kernel) rfl (Nat.le_of_ble_eq_true rfl) ?_
  intro A K hK C Q H lo ls P hl
  have hl : lv_has ls 4 [(0, .ref (B.2.1 8)), (1, .int v1)] := hl
  unfold Fabric_goneInColumn at h
  refine pj_iload_n C dd_Fabric_goneInColumn_0 rfl hl 1 rfl ?_
  refine pj_iload_n C dd_Fabric_goneInColumn_1 rfl hl 1 rfl ?_
  refine pj_iconst (v := (nI 0)) C dd_Fabric_goneInColumn_2 rfl ?_
  refine pj_aload_n C dd_Fabric_goneInColumn_3 rfl hl 0 rfl ?_
  refine pj_getI C P 8 (LC8 hB) rfl fl_Fabric_15 dd_Fabric_goneInColumn_4 ?_
  refine pj_iconst (v := (nI 1)) C dd_Fabric_goneInColumn_7 rfl ?_
  refine pj_isub C dd_Fabric_goneInColumn_8 ?_
  obtain ⟨r3, z2, e1, h⟩ := pj_cE h
  refine pj_cNl (st := []) [.int v1, .int v1, .int (nI 0), .int ((z.1 8 1) - (nI 1))] C P (ct_PJ_rectangle hB e1) cl_Fabric_22 rfl (by decide) (by decide) hl.1 (Nat.le_of_ble_eq_true rfl) dd_Fabric_goneInColumn_9 (fun H lo P => ?_)
  refine pj_lstore_n [(2, .long r3), (0, .ref (B.2.1 8)), (1, .int v1)] C dd_Fabric_goneInColumn_12 rfl hl (by decide) rfl (fun ls hl => ?_)
  refine pj_lload_n C dd_Fabric_goneInColumn_13 rfl hl 0 rfl ?_
  refine pj_aload_n C dd_Fabric_goneInColumn_14 rfl hl 1 rfl ?_
  refine pj_getJ C P 8 (LC8 hB) rfl fl_Fabric_36 dd_Fabric_goneInColumn_15 ?_
  refine pj_ldc2 (v := (-1 : Int64)) C co_Fabric_56 dd_Fabric_goneInColumn_18 ?_
  refine pj_lxor C dd_Fabric_goneInColumn_21 ?_
  refine pj_land C dd_Fabric_goneInColumn_22 ?_
  obtain ⟨r6, z5, e4, h⟩ := pj_cE h
  refine pj_cSi (st := []) [.long (r3 &&& ((z2.2 8 6) ^^^ (-1 : Int64)))] C P (ct_JLong_bitCount hB e4) cl_Fabric_98 rfl (by decide) (by decide) hl.1 (Nat.le_of_ble_eq_true rfl) dd_Fabric_goneInColumn_23 (fun H lo P => ?_)
  exact pj_iret C Q P h dd_Fabric_goneInColumn_26
theorem dd_Law_traitOf_0 : pj_d cX2_traitOf 0 (.iload_n 0) 1 1 := ⟨by decide +kernel, rfl⟩
theorem dd_Law_traitOf_1 : pj_d cX2_traitOf 1 (.tableswitch 68 (-16) (-11) #[66, 60, 54, 49, 45, 39]) 39 40 := ⟨by decide +kernel, rfl⟩
theorem dd_Law_traitOf_40 : pj_d cX2_traitOf 40 (.aload_n 1) 1 41 := ⟨by decide +kernel, rfl⟩
theorem dd_Law_traitOf_41 : pj_d cX2_traitOf 41 (.iload_n 3) 1 42 := ⟨by decide +kernel, rfl⟩
theorem dd_Law_traitOf_42 : pj_d cX2_traitOf 42 (.invokevirtual 67) 3 45 := ⟨by decide +kernel, rfl⟩
theorem dd_Law_traitOf_45 : pj_d cX2_traitOf 45 (.ireturn) 1 46 := ⟨by decide +kernel, rfl⟩
theorem dd_Law_traitOf_46 : pj_d cX2_traitOf 46 (.iload_n 3) 1 47 := ⟨by decide +kernel, rfl⟩
theorem dd_Law_traitOf_47 : pj_d cX2_traitOf 47 (.iconst 3) 1 48 := ⟨by decide +kernel, rfl⟩
theorem dd_Law_traitOf_48 : pj_d cX2_traitOf 48 (.ishr) 1 49 := ⟨by decide +kernel, rfl⟩
theorem dd_Law_traitOf_49 : pj_d cX2_traitOf 49 (.ireturn) 1 50 := ⟨by decide +kernel, rfl⟩
theorem dd_Law_traitOf_50 : pj_d cX2_traitOf 50 (.iload_n 3) 1 51 := ⟨by decide +kernel, rfl⟩
theorem dd_Law_traitOf_51 : pj_d cX2_traitOf 51 (.bipush 7) 2 53 := ⟨by decide +kernel, rfl⟩
theorem dd_Law_traitOf_53 : pj_d cX2_traitOf 53 (.iand) 1 54 := ⟨by decide +kernel, rfl⟩
theorem dd_Law_traitOf_54 : pj_d cX2_traitOf 54 (.ireturn) 1 55 := ⟨by decide +kernel, rfl⟩
theorem dd_Law_traitOf_55 : pj_d cX2_traitOf 55 (.aload_n 1) 1 56 := ⟨by decide +kernel, rfl⟩
theorem dd_Law_traitOf_56 : pj_d cX2_traitOf 56 (.iload_n 3) 1 57 := ⟨by decide +kernel, rfl⟩
theorem dd_Law_traitOf_57 : pj_d cX2_traitOf 57 (.invokevirtual 72) 3 60 := ⟨by decide +kernel, rfl⟩
theorem dd_Law_traitOf_60 : pj_d cX2_traitOf 60 (.ireturn) 1 61 := ⟨by decide +kernel, rfl⟩
theorem dd_Law_traitOf_61 : pj_d cX2_traitOf 61 (.aload_n 1) 1 62 := ⟨by decide +kernel, rfl⟩
theorem dd_Law_traitOf_62 : pj_d cX2_traitOf 62 (.iload_n 3) 1 63 := ⟨by decide +kernel, rfl⟩
theorem dd_Law_traitOf_63 : pj_d cX2_traitOf 63 (.invokevirtual 75) 3 66 := ⟨by decide +kernel, rfl⟩
theorem dd_Law_traitOf_66 : pj_d cX2_traitOf 66 (.ireturn) 1 67 := ⟨by decide +kernel, rfl⟩
theorem dd_Law_traitOf_67 : pj_d cX2_traitOf 67 (.iload_n 2) 1 68 := ⟨by decide +kernel, rfl⟩
theorem dd_Law_traitOf_68 : pj_d cX2_traitOf 68 (.ireturn) 1 69 := ⟨by decide +kernel, rfl⟩
theorem dd_Law_traitOf_69 : pj_d cX2_traitOf 69 (.aload_n 1) 1 70 := ⟨by decide +kernel, rfl⟩
theorem dd_Law_traitOf_70 : pj_d cX2_traitOf 70 (.iload_n 3) 1 71 := ⟨by decide +kernel, rfl⟩
theorem dd_Law_traitOf_71 : pj_d cX2_traitOf 71 (.bipush 7) 2 73 := ⟨by decide +kernel, rfl⟩
theorem dd_Law_traitOf_73 : pj_d cX2_traitOf 73 (.iand) 1 74 := ⟨by decide +kernel, rfl⟩
theorem dd_Law_traitOf_74 : pj_d cX2_traitOf 74 (.invokevirtual 78) 3 77 := ⟨by decide +kernel, rfl⟩
theorem dd_Law_traitOf_77 : pj_d cX2_traitOf 77 (.ireturn) 1 78 := ⟨by decide +kernel, rfl⟩
set_option maxHeartbeats 4000000 in
set_option maxRecDepth 100000 in
theorem ct_Law_traitOf {l : Launch} {B : pj_B} (hB : B.2.2.2.1 = pj_LC) {v0 : Int32} {v2 : Int32} {v3 : Int32} {z : pj_S} {r0 : Int32} {z0 : pj_S} (h : Law_traitOf v0 v2 v3 z = some (r0, z0)) : pj_Mi l yX2_traitOf cX2_traitOf 4 (some .int) 3 [.int v0, .ref (B.2.1 8), .int v2, .int v3] B z r0 z0 := by
  refine pj_meti (own := RX2) (by decide +kernel) rfl (Nat.le_of_ble_eq_true rfl) ?_
  intro A K hK C Q H lo ls P hl
  have hl : lv_has ls 4 [(0, .int v0), (1, .ref (B.2.1 8)), (2, .int v2), (3, .int v3)] := hl
  unfold Law_traitOf at h
  refine pj_iload_n C dd_Law_traitOf_0 rfl hl 0 rfl ?_
  refine pj_sw h (fun c0 h => ?_) (fun c0 h => ?_)
  · refine pj_swI (-16 : Int32) (66) 67 C dd_Law_traitOf_1 c0 (by decide) ?_
    refine pj_iload_n C dd_Law_traitOf_67 rfl hl 2 rfl ?_
    exact pj_iret C Q P h dd_Law_traitOf_68
  refine pj_sw h (fun c1 h => ?_) (fun c1 h => ?_)
  · refine pj_swI (-15 : Int32) (60) 61 C dd_Law_traitOf_1 c1 (by decide) ?_
    refine pj_aload_n C dd_Law_traitOf_61 rfl hl 1 rfl ?_
    refine pj_iload_n C dd_Law_traitOf_62 rfl hl 3 rfl ?_
    obtain ⟨r3, z2, e1, h⟩ := pj_cE h
    refine pj_cVi (st := []) [.int v3] C P 8 (LC8 hB) rfl (ct_Fabric_belowOf hB e1) cl_Law_75 rfl (by decide) (by decide) hl.1 (Nat.le_of_ble_eq_true rfl) dd_Law_traitOf_63 (fun H lo P => ?_)
    exact pj_iret C Q P h dd_Law_traitOf_66
  refine pj_sw h (fun c2 h => ?_) (fun c2 h => ?_)
  · refine pj_swI (-14 : Int32) (54) 55 C dd_Law_traitOf_1 c2 (by decide) ?_
    refine pj_aload_n C dd_Law_traitOf_55 rfl hl 1 rfl ?_
    refine pj_iload_n C dd_Law_traitOf_56 rfl hl 3 rfl ?_
    obtain ⟨r6, z5, e4, h⟩ := pj_cE h
    refine pj_cVi (st := []) [.int v3] C P 8 (LC8 hB) rfl (ct_Fabric_besideOf hB e4) cl_Law_72 rfl (by decide) (by decide) hl.1 (Nat.le_of_ble_eq_true rfl) dd_Law_traitOf_57 (fun H lo P => ?_)
    exact pj_iret C Q P h dd_Law_traitOf_60
  refine pj_sw h (fun c3 h => ?_) (fun c3 h => ?_)
  · refine pj_swI (-13 : Int32) (49) 50 C dd_Law_traitOf_1 c3 (by decide) ?_
    refine pj_iload_n C dd_Law_traitOf_50 rfl hl 3 rfl ?_
    refine pj_bipush (v := (nI 7)) C dd_Law_traitOf_51 rfl ?_
    refine pj_iand C dd_Law_traitOf_53 ?_
    exact pj_iret C Q P h dd_Law_traitOf_54
  refine pj_sw h (fun c4 h => ?_) (fun c4 h => ?_)
  · refine pj_swI (-12 : Int32) (45) 46 C dd_Law_traitOf_1 c4 (by decide) ?_
    refine pj_iload_n C dd_Law_traitOf_46 rfl hl 3 rfl ?_
    refine pj_iconst (v := (nI 3)) C dd_Law_traitOf_47 rfl ?_
    refine pj_ishr C dd_Law_traitOf_48 ?_
    exact pj_iret C Q P h dd_Law_traitOf_49
  refine pj_sw h (fun c5 h => ?_) (fun c5 h => ?_)
  · refine pj_swI (-11 : Int32) (39) 40 C dd_Law_traitOf_1 c5 (by decide) ?_
    refine pj_aload_n C dd_Law_traitOf_40 rfl hl 1 rfl ?_
    refine pj_iload_n C dd_Law_traitOf_41 rfl hl 3 rfl ?_
    obtain ⟨r9, z8, e7, h⟩ := pj_cE h
    refine pj_cVi (st := []) [.int v3] C P 8 (LC8 hB) rfl (ct_Fabric_kindOf hB e7) cl_Law_67 rfl (by decide) (by decide) hl.1 (Nat.le_of_ble_eq_true rfl) dd_Law_traitOf_42 (fun H lo P => ?_)
    exact pj_iret C Q P h dd_Law_traitOf_45
  have u0 := pj_nI c0 (n := -16) (by decide)
  have u1 := pj_nI c1 (n := -15) (by decide)
  have u2 := pj_nI c2 (n := -14) (by decide)
  have u3 := pj_nI c3 (n := -13) (by decide)
  have u4 := pj_nI c4 (n := -12) (by decide)
  have u5 := pj_nI c5 (n := -11) (by decide)
  refine pj_swO 69 C dd_Law_traitOf_1 (by omega) (by decide) ?_
  refine pj_aload_n C dd_Law_traitOf_69 rfl hl 1 rfl ?_
  refine pj_iload_n C dd_Law_traitOf_70 rfl hl 3 rfl ?_
  refine pj_bipush (v := (nI 7)) C dd_Law_traitOf_71 rfl ?_
  refine pj_iand C dd_Law_traitOf_73 ?_
  obtain ⟨r12, z11, e10, h⟩ := pj_cE h
  refine pj_cVi (st := []) [.int (v3 &&& (nI 7))] C P 8 (LC8 hB) rfl (ct_Fabric_goneInColumn hB e10) cl_Law_78 rfl (by decide) (by decide) hl.1 (Nat.le_of_ble_eq_true rfl) dd_Law_traitOf_74 (fun H lo P => ?_)
  exact pj_iret C Q P h dd_Law_traitOf_77
theorem dd_Law_reckon_0 : pj_d cX2_reckon 0 (.iload_n 1) 1 1 := ⟨by decide +kernel, rfl⟩
theorem dd_Law_reckon_1 : pj_dj cX2_reckon 1 (.ifCond .lt 11) 11 4 12 := ⟨by decide +kernel, rfl, by decide⟩
theorem dd_Law_reckon_4 : pj_d cX2_reckon 4 (.aload_n 0) 1 5 := ⟨by decide +kernel, rfl⟩
theorem dd_Law_reckon_5 : pj_d cX2_reckon 5 (.iload_n 1) 1 6 := ⟨by decide +kernel, rfl⟩
theorem dd_Law_reckon_6 : pj_d cX2_reckon 6 (.invokevirtual 55) 3 9 := ⟨by decide +kernel, rfl⟩
theorem dd_Law_reckon_9 : pj_dj cX2_reckon 9 (.goto 73) 73 12 82 := ⟨by decide +kernel, rfl, by decide⟩
theorem dd_Law_reckon_12 : pj_d cX2_reckon 12 (.iload_n 1) 1 13 := ⟨by decide +kernel, rfl⟩
theorem dd_Law_reckon_13 : pj_d cX2_reckon 13 (.bipush (-11)) 2 15 := ⟨by decide +kernel, rfl⟩
theorem dd_Law_reckon_15 : pj_dj cX2_reckon 15 (.if_icmp .gt 18) 18 18 33 := ⟨by decide +kernel, rfl, by decide⟩
theorem dd_Law_reckon_18 : pj_d cX2_reckon 18 (.aload_n 0) 1 19 := ⟨by decide +kernel, rfl⟩
theorem dd_Law_reckon_19 : pj_d cX2_reckon 19 (.iload_n 1) 1 20 := ⟨by decide +kernel, rfl⟩
theorem dd_Law_reckon_20 : pj_d cX2_reckon 20 (.aload_n 2) 1 21 := ⟨by decide +kernel, rfl⟩
theorem dd_Law_reckon_21 : pj_d cX2_reckon 21 (.iload_n 3) 1 22 := ⟨by decide +kernel, rfl⟩
theorem dd_Law_reckon_22 : pj_d cX2_reckon 22 (.iload 4) 2 24 := ⟨by decide +kernel, rfl⟩
theorem dd_Law_reckon_24 : pj_d cX2_reckon 24 (.invokestatic 59) 3 27 := ⟨by decide +kernel, rfl⟩
theorem dd_Law_reckon_27 : pj_d cX2_reckon 27 (.invokevirtual 55) 3 30 := ⟨by decide +kernel, rfl⟩
theorem dd_Law_reckon_30 : pj_dj cX2_reckon 30 (.goto 52) 52 33 82 := ⟨by decide +kernel, rfl, by decide⟩
theorem dd_Law_reckon_33 : pj_d cX2_reckon 33 (.iload_n 1) 1 34 := ⟨by decide +kernel, rfl⟩
theorem dd_Law_reckon_34 : pj_d cX2_reckon 34 (.bipush (-10)) 2 36 := ⟨by decide +kernel, rfl⟩
theorem dd_Law_reckon_36 : pj_dj cX2_reckon 36 (.if_icmp .ne 22) 22 39 58 := ⟨by decide +kernel, rfl, by decide⟩
theorem dd_Law_reckon_39 : pj_d cX2_reckon 39 (.aload_n 0) 1 40 := ⟨by decide +kernel, rfl⟩
theorem dd_Law_reckon_40 : pj_d cX2_reckon 40 (.aload_n 0) 1 41 := ⟨by decide +kernel, rfl⟩
theorem dd_Law_reckon_41 : pj_d cX2_reckon 41 (.invokevirtual 43) 3 44 := ⟨by decide +kernel, rfl⟩
theorem dd_Law_reckon_44 : pj_dj cX2_reckon 44 (.ifCond .ne 7) 7 47 51 := ⟨by decide +kernel, rfl, by decide⟩
theorem dd_Law_reckon_47 : pj_d cX2_reckon 47 (.iconst 1) 1 48 := ⟨by decide +kernel, rfl⟩
theorem dd_Law_reckon_48 : pj_dj cX2_reckon 48 (.goto 4) 4 51 52 := ⟨by decide +kernel, rfl, by decide⟩
theorem dd_Law_reckon_51 : pj_d cX2_reckon 51 (.iconst 0) 1 52 := ⟨by decide +kernel, rfl⟩
theorem dd_Law_reckon_52 : pj_d cX2_reckon 52 (.invokevirtual 55) 3 55 := ⟨by decide +kernel, rfl⟩
theorem dd_Law_reckon_55 : pj_dj cX2_reckon 55 (.goto 27) 27 58 82 := ⟨by decide +kernel, rfl, by decide⟩
theorem dd_Law_reckon_58 : pj_d cX2_reckon 58 (.aload_n 0) 1 59 := ⟨by decide +kernel, rfl⟩
theorem dd_Law_reckon_59 : pj_d cX2_reckon 59 (.invokevirtual 43) 3 62 := ⟨by decide +kernel, rfl⟩
theorem dd_Law_reckon_62 : pj_d cX2_reckon 62 (.istore 5) 2 64 := ⟨by decide +kernel, rfl⟩
theorem dd_Law_reckon_64 : pj_d cX2_reckon 64 (.aload_n 0) 1 65 := ⟨by decide +kernel, rfl⟩
theorem dd_Law_reckon_65 : pj_d cX2_reckon 65 (.invokevirtual 43) 3 68 := ⟨by decide +kernel, rfl⟩
theorem dd_Law_reckon_68 : pj_d cX2_reckon 68 (.istore 6) 2 70 := ⟨by decide +kernel, rfl⟩
theorem dd_Law_reckon_70 : pj_d cX2_reckon 70 (.aload_n 0) 1 71 := ⟨by decide +kernel, rfl⟩
theorem dd_Law_reckon_71 : pj_d cX2_reckon 71 (.iload_n 1) 1 72 := ⟨by decide +kernel, rfl⟩
theorem dd_Law_reckon_72 : pj_d cX2_reckon 72 (.iload 6) 2 74 := ⟨by decide +kernel, rfl⟩
theorem dd_Law_reckon_74 : pj_d cX2_reckon 74 (.iload 5) 2 76 := ⟨by decide +kernel, rfl⟩
theorem dd_Law_reckon_76 : pj_d cX2_reckon 76 (.invokestatic 63) 3 79 := ⟨by decide +kernel, rfl⟩
theorem dd_Law_reckon_79 : pj_d cX2_reckon 79 (.invokevirtual 55) 3 82 := ⟨by decide +kernel, rfl⟩
theorem dd_Law_reckon_82 : pj_d cX2_reckon 82 (.return_) 1 83 := ⟨by decide +kernel, rfl⟩
set_option maxHeartbeats 4000000 in
set_option maxRecDepth 100000 in
theorem bt_Law_reckon_52 {B : pj_B} {A : Nat → Prop} {K : pj_K} {r0 : Unit} {z0 : pj_S} (hB : B.2.2.2.1 = pj_LC) (C : pj_C B A K cX2_reckon 7 RX2 4) (Q : pj_Qv B A K none r0 z0)  (t0 : Int32) (z : pj_S) (H : Heap) (lo : List Loc) (ls : Array Slot) (h : Law_reckon_52 t0 z = some (r0, z0)) (P : pj_P B A K z H lo) (hl : lv_has ls 7 []) : pj_W K H lo 52 ls [.int t0, .ref (B.2.1 9)] := by
  unfold Law_reckon_52 at h
  obtain ⟨r3, z2, e1, h⟩ := pj_cE h
  refine pj_cVv (st := []) [.int t0] C P 9 (LC9 hB) rfl (ct_Law_push hB e1) cl_Law_55 rfl (by decide) (by decide) hl.1 (Nat.le_of_ble_eq_true rfl) dd_Law_reckon_52 (fun H lo P => ?_)
  refine pj_goto C dd_Law_reckon_55 ?_
  exact pj_vret C Q P h dd_Law_reckon_82
set_option maxHeartbeats 4000000 in
set_option maxRecDepth 100000 in
theorem ct_Law_reckon {l : Launch} {B : pj_B} (hB : B.2.2.2.1 = pj_LC) {v1 : Int32} {v3 : Int32} {v4 : Int32} {z : pj_S} {r0 : Unit} {z0 : pj_S} (h : Law_reckon v1 v3 v4 z = some (r0, z0)) : pj_Mv l yX2_reckon cX2_reckon 7 none 4 [.ref (B.2.1 9), .int v1, .ref (B.2.1 8), .int v3, .int v4] B z r0 z0 := by
  refine pj_metv (own := RX2) (by decide +kernel) rfl (Nat.le_of_ble_eq_true rfl) ?_
  intro A K hK C Q H lo ls P hl
  have hl : lv_has ls 7 [(0, .ref (B.2.1 9)), (1, .int v1), (2, .ref (B.2.1 8)), (3, .int v3), (4, .int v4)] := hl
  unfold Law_reckon at h
  refine pj_iload_n C dd_Law_reckon_0 rfl hl 1 rfl ?_
  refine pj_if_lt C h dd_Law_reckon_1 (fun h => ?_) (fun h => ?_)
  · refine pj_iload_n C dd_Law_reckon_12 rfl hl 1 rfl ?_
    refine pj_bipush (v := (-11 : Int32)) C dd_Law_reckon_13 rfl ?_
    refine pj_ic_gt C h dd_Law_reckon_15 (fun h => ?_) (fun h => ?_)
    · refine pj_iload_n C dd_Law_reckon_33 rfl hl 1 rfl ?_
      refine pj_bipush (v := (-10 : Int32)) C dd_Law_reckon_34 rfl ?_
      refine pj_ic_ne C h dd_Law_reckon_36 (fun h => ?_) (fun h => ?_)
      · refine pj_aload_n C dd_Law_reckon_58 rfl hl 0 rfl ?_
        obtain ⟨r3, z2, e1, h⟩ := pj_cE h
        refine pj_cVi (st := []) [] C P 9 (LC9 hB) rfl (ct_Law_pop hB e1) cl_Law_43 rfl (by decide) (by decide) hl.1 (Nat.le_of_ble_eq_true rfl) dd_Law_reckon_59 (fun H lo P => ?_)
        refine pj_istore [(5, .int r3), (0, .ref (B.2.1 9)), (1, .int v1), (2, .ref (B.2.1 8)), (3, .int v3), (4, .int v4)] C dd_Law_reckon_62 hl (by decide) rfl (fun ls hl => ?_)
        refine pj_aload_n C dd_Law_reckon_64 rfl hl 1 rfl ?_
        obtain ⟨r6, z5, e4, h⟩ := pj_cE h
        refine pj_cVi (st := []) [] C P 9 (LC9 hB) rfl (ct_Law_pop hB e4) cl_Law_43 rfl (by decide) (by decide) hl.1 (Nat.le_of_ble_eq_true rfl) dd_Law_reckon_65 (fun H lo P => ?_)
        refine pj_istore [(6, .int r6), (5, .int r3), (0, .ref (B.2.1 9)), (1, .int v1), (2, .ref (B.2.1 8)), (3, .int v3), (4, .int v4)] C dd_Law_reckon_68 hl (by decide) rfl (fun ls hl => ?_)
        refine pj_aload_n C dd_Law_reckon_70 rfl hl 2 rfl ?_
        refine pj_iload_n C dd_Law_reckon_71 rfl hl 3 rfl ?_
        refine pj_iload C dd_Law_reckon_72 hl 0 rfl ?_
        refine pj_iload C dd_Law_reckon_74 hl 1 rfl ?_
        obtain ⟨r9, z8, e7, h⟩ := pj_cE h
        refine pj_cSi (st := [.ref (B.2.1 9)]) [.int v1, .int r6, .int r3] C P (ct_Law_ofTwo hB e7) cl_Law_63 rfl (by decide) (by decide) hl.1 (Nat.le_of_ble_eq_true rfl) dd_Law_reckon_76 (fun H lo P => ?_)
        obtain ⟨r12, z11, e10, h⟩ := pj_cE h
        refine pj_cVv (st := []) [.int r9] C P 9 (LC9 hB) rfl (ct_Law_push hB e10) cl_Law_55 rfl (by decide) (by decide) hl.1 (Nat.le_of_ble_eq_true rfl) dd_Law_reckon_79 (fun H lo P => ?_)
        exact pj_vret C Q P h dd_Law_reckon_82
      · refine pj_aload_n C dd_Law_reckon_39 rfl hl 0 rfl ?_
        refine pj_aload_n C dd_Law_reckon_40 rfl hl 0 rfl ?_
        obtain ⟨r15, z14, e13, h⟩ := pj_cE h
        refine pj_cVi (st := [.ref (B.2.1 9)]) [] C P 9 (LC9 hB) rfl (ct_Law_pop hB e13) cl_Law_43 rfl (by decide) (by decide) hl.1 (Nat.le_of_ble_eq_true rfl) dd_Law_reckon_41 (fun H lo P => ?_)
        refine pj_if_ne C h dd_Law_reckon_44 (fun h => ?_) (fun h => ?_)
        · refine pj_iconst (v := (nI 0)) C dd_Law_reckon_51 rfl ?_
          exact bt_Law_reckon_52 hB C Q _ _ _ _ _ h P (lv_sub hl [] rfl)
        · refine pj_iconst (v := (nI 1)) C dd_Law_reckon_47 rfl ?_
          refine pj_goto C dd_Law_reckon_48 ?_
          exact bt_Law_reckon_52 hB C Q _ _ _ _ _ h P (lv_sub hl [] rfl)
    · refine pj_aload_n C dd_Law_reckon_18 rfl hl 0 rfl ?_
      refine pj_iload_n C dd_Law_reckon_19 rfl hl 1 rfl ?_
      refine pj_aload_n C dd_Law_reckon_20 rfl hl 2 rfl ?_
      refine pj_iload_n C dd_Law_reckon_21 rfl hl 3 rfl ?_
      refine pj_iload C dd_Law_reckon_22 hl 4 rfl ?_
      obtain ⟨r18, z17, e16, h⟩ := pj_cE h
      refine pj_cSi (st := [.ref (B.2.1 9)]) [.int v1, .ref (B.2.1 8), .int v3, .int v4] C P (ct_Law_traitOf hB e16) cl_Law_59 rfl (by decide) (by decide) hl.1 (Nat.le_of_ble_eq_true rfl) dd_Law_reckon_24 (fun H lo P => ?_)
      obtain ⟨r21, z20, e19, h⟩ := pj_cE h
      refine pj_cVv (st := []) [.int r18] C P 9 (LC9 hB) rfl (ct_Law_push hB e19) cl_Law_55 rfl (by decide) (by decide) hl.1 (Nat.le_of_ble_eq_true rfl) dd_Law_reckon_27 (fun H lo P => ?_)
      refine pj_goto C dd_Law_reckon_30 ?_
      exact pj_vret C Q P h dd_Law_reckon_82
  · refine pj_aload_n C dd_Law_reckon_4 rfl hl 0 rfl ?_
    refine pj_iload_n C dd_Law_reckon_5 rfl hl 1 rfl ?_
    obtain ⟨r24, z23, e22, h⟩ := pj_cE h
    refine pj_cVv (st := []) [.int v1] C P 9 (LC9 hB) rfl (ct_Law_push hB e22) cl_Law_55 rfl (by decide) (by decide) hl.1 (Nat.le_of_ble_eq_true rfl) dd_Law_reckon_6 (fun H lo P => ?_)
    refine pj_goto C dd_Law_reckon_9 ?_
    exact pj_vret C Q P h dd_Law_reckon_82
theorem dd_Law_oddsOf_0 : pj_d cX2_oddsOf 0 (.aload_n 0) 1 1 := ⟨by decide +kernel, rfl⟩
theorem dd_Law_oddsOf_1 : pj_d cX2_oddsOf 1 (.iconst 0) 1 2 := ⟨by decide +kernel, rfl⟩
theorem dd_Law_oddsOf_2 : pj_d cX2_oddsOf 2 (.putfield 40) 3 5 := ⟨by decide +kernel, rfl⟩
theorem dd_Law_oddsOf_5 : pj_d cX2_oddsOf 5 (.iconst 0) 1 6 := ⟨by decide +kernel, rfl⟩
theorem dd_Law_oddsOf_6 : pj_d cX2_oddsOf 6 (.istore 4) 2 8 := ⟨by decide +kernel, rfl⟩
theorem dd_Law_oddsOf_8 : pj_d cX2_oddsOf 8 (.iload 4) 2 10 := ⟨by decide +kernel, rfl⟩
theorem dd_Law_oddsOf_10 : pj_d cX2_oddsOf 10 (.aload_n 0) 1 11 := ⟨by decide +kernel, rfl⟩
theorem dd_Law_oddsOf_11 : pj_d cX2_oddsOf 11 (.getfield 18) 3 14 := ⟨by decide +kernel, rfl⟩
theorem dd_Law_oddsOf_14 : pj_dj cX2_oddsOf 14 (.if_icmp .ge 93) 93 17 107 := ⟨by decide +kernel, rfl, by decide⟩
theorem dd_Law_oddsOf_17 : pj_d cX2_oddsOf 17 (.iload 4) 2 19 := ⟨by decide +kernel, rfl⟩
theorem dd_Law_oddsOf_19 : pj_d cX2_oddsOf 19 (.aload_n 0) 1 20 := ⟨by decide +kernel, rfl⟩
theorem dd_Law_oddsOf_20 : pj_d cX2_oddsOf 20 (.getfield 9) 3 23 := ⟨by decide +kernel, rfl⟩
theorem dd_Law_oddsOf_23 : pj_d cX2_oddsOf 23 (.arraylength) 1 24 := ⟨by decide +kernel, rfl⟩
theorem dd_Law_oddsOf_24 : pj_dj cX2_oddsOf 24 (.if_icmp .ge 83) 83 27 107 := ⟨by decide +kernel, rfl, by decide⟩
theorem dd_Law_oddsOf_27 : pj_d cX2_oddsOf 27 (.aload_n 0) 1 28 := ⟨by decide +kernel, rfl⟩
theorem dd_Law_oddsOf_28 : pj_d cX2_oddsOf 28 (.getfield 9) 3 31 := ⟨by decide +kernel, rfl⟩
theorem dd_Law_oddsOf_31 : pj_d cX2_oddsOf 31 (.iload 4) 2 33 := ⟨by decide +kernel, rfl⟩
theorem dd_Law_oddsOf_33 : pj_d cX2_oddsOf 33 (.iaload) 1 34 := ⟨by decide +kernel, rfl⟩
theorem dd_Law_oddsOf_34 : pj_d cX2_oddsOf 34 (.istore 5) 2 36 := ⟨by decide +kernel, rfl⟩
theorem dd_Law_oddsOf_36 : pj_d cX2_oddsOf 36 (.iload 5) 2 38 := ⟨by decide +kernel, rfl⟩
theorem dd_Law_oddsOf_38 : pj_d cX2_oddsOf 38 (.bipush (-18)) 2 40 := ⟨by decide +kernel, rfl⟩
theorem dd_Law_oddsOf_40 : pj_dj cX2_oddsOf 40 (.if_icmp .ne 11) 11 43 51 := ⟨by decide +kernel, rfl, by decide⟩
theorem dd_Law_oddsOf_43 : pj_d cX2_oddsOf 43 (.aload_n 0) 1 44 := ⟨by decide +kernel, rfl⟩
theorem dd_Law_oddsOf_44 : pj_d cX2_oddsOf 44 (.invokevirtual 43) 3 47 := ⟨by decide +kernel, rfl⟩
theorem dd_Law_oddsOf_47 : pj_d cX2_oddsOf 47 (.invokestatic 47) 3 50 := ⟨by decide +kernel, rfl⟩
theorem dd_Law_oddsOf_50 : pj_d cX2_oddsOf 50 (.ireturn) 1 51 := ⟨by decide +kernel, rfl⟩
theorem dd_Law_oddsOf_51 : pj_d cX2_oddsOf 51 (.iload 5) 2 53 := ⟨by decide +kernel, rfl⟩
theorem dd_Law_oddsOf_53 : pj_d cX2_oddsOf 53 (.bipush (-19)) 2 55 := ⟨by decide +kernel, rfl⟩
theorem dd_Law_oddsOf_55 : pj_dj cX2_oddsOf 55 (.if_icmp .ne 37) 37 58 92 := ⟨by decide +kernel, rfl, by decide⟩
theorem dd_Law_oddsOf_58 : pj_d cX2_oddsOf 58 (.aload_n 0) 1 59 := ⟨by decide +kernel, rfl⟩
theorem dd_Law_oddsOf_59 : pj_d cX2_oddsOf 59 (.invokevirtual 43) 3 62 := ⟨by decide +kernel, rfl⟩
theorem dd_Law_oddsOf_62 : pj_dj cX2_oddsOf 62 (.ifCond .eq 7) 7 65 69 := ⟨by decide +kernel, rfl, by decide⟩
theorem dd_Law_oddsOf_65 : pj_d cX2_oddsOf 65 (.iconst 1) 1 66 := ⟨by decide +kernel, rfl⟩
theorem dd_Law_oddsOf_66 : pj_dj cX2_oddsOf 66 (.goto 4) 4 69 70 := ⟨by decide +kernel, rfl, by decide⟩
theorem dd_Law_oddsOf_69 : pj_d cX2_oddsOf 69 (.iconst 0) 1 70 := ⟨by decide +kernel, rfl⟩
theorem dd_Law_oddsOf_70 : pj_d cX2_oddsOf 70 (.istore 6) 2 72 := ⟨by decide +kernel, rfl⟩
theorem dd_Law_oddsOf_72 : pj_d cX2_oddsOf 72 (.aload_n 0) 1 73 := ⟨by decide +kernel, rfl⟩
theorem dd_Law_oddsOf_73 : pj_d cX2_oddsOf 73 (.invokevirtual 43) 3 76 := ⟨by decide +kernel, rfl⟩
theorem dd_Law_oddsOf_76 : pj_d cX2_oddsOf 76 (.istore 7) 2 78 := ⟨by decide +kernel, rfl⟩
theorem dd_Law_oddsOf_78 : pj_d cX2_oddsOf 78 (.iload 6) 2 80 := ⟨by decide +kernel, rfl⟩
theorem dd_Law_oddsOf_80 : pj_dj cX2_oddsOf 80 (.ifCond .eq 9) 9 83 89 := ⟨by decide +kernel, rfl, by decide⟩
theorem dd_Law_oddsOf_83 : pj_d cX2_oddsOf 83 (.iload 7) 2 85 := ⟨by decide +kernel, rfl⟩
theorem dd_Law_oddsOf_85 : pj_d cX2_oddsOf 85 (.invokestatic 47) 3 88 := ⟨by decide +kernel, rfl⟩
theorem dd_Law_oddsOf_88 : pj_d cX2_oddsOf 88 (.ireturn) 1 89 := ⟨by decide +kernel, rfl⟩
theorem dd_Law_oddsOf_89 : pj_dj cX2_oddsOf 89 (.goto 12) 12 92 101 := ⟨by decide +kernel, rfl, by decide⟩
theorem dd_Law_oddsOf_92 : pj_d cX2_oddsOf 92 (.aload_n 0) 1 93 := ⟨by decide +kernel, rfl⟩
theorem dd_Law_oddsOf_93 : pj_d cX2_oddsOf 93 (.iload 5) 2 95 := ⟨by decide +kernel, rfl⟩
theorem dd_Law_oddsOf_95 : pj_d cX2_oddsOf 95 (.aload_n 1) 1 96 := ⟨by decide +kernel, rfl⟩
theorem dd_Law_oddsOf_96 : pj_d cX2_oddsOf 96 (.iload_n 2) 1 97 := ⟨by decide +kernel, rfl⟩
theorem dd_Law_oddsOf_97 : pj_d cX2_oddsOf 97 (.iload_n 3) 1 98 := ⟨by decide +kernel, rfl⟩
theorem dd_Law_oddsOf_98 : pj_d cX2_oddsOf 98 (.invokevirtual 51) 3 101 := ⟨by decide +kernel, rfl⟩
theorem dd_Law_oddsOf_101 : pj_d cX2_oddsOf 101 (.iinc 4 1) 3 104 := ⟨by decide +kernel, rfl⟩
theorem dd_Law_oddsOf_104 : pj_dj cX2_oddsOf 104 (.goto (-96)) (-96) 107 8 := ⟨by decide +kernel, rfl, by decide⟩
theorem dd_Law_oddsOf_107 : pj_d cX2_oddsOf 107 (.sipush 500) 3 110 := ⟨by decide +kernel, rfl⟩
theorem dd_Law_oddsOf_110 : pj_d cX2_oddsOf 110 (.ireturn) 1 111 := ⟨by decide +kernel, rfl⟩
set_option maxHeartbeats 4000000 in
set_option maxRecDepth 100000 in
theorem bt_Law_oddsOf_101 {B : pj_B} {A : Nat → Prop} {K : pj_K} {r0 : Int32} {z0 : pj_S} (hB : B.2.2.2.1 = pj_LC) (C : pj_C B A K cX2_oddsOf 8 RX2 5) (Q : pj_Qi B A K (some .int) r0 z0) (s8 : Int32 → Int32 → Int32 → pj_S → Option (Int32 × pj_S)) (k8 : ∀ (v2 : Int32) (v3 : Int32) (v4 : Int32) (z : pj_S) (H : Heap) (lo : List Loc) (ls : Array Slot), s8 v2 v3 v4 z = some (r0, z0) → pj_P B A K z H lo → lv_has ls 8 [(0, .ref (B.2.1 9)), (1, .ref (B.2.1 8)), (2, .int v2), (3, .int v3), (4, .int v4)] → pj_W K H lo 8 ls []) (v2 : Int32) (v3 : Int32) (v4 : Int32) (z : pj_S) (H : Heap) (lo : List Loc) (ls : Array Slot) (h : Law_oddsOf_101 s8 v2 v3 v4 z = some (r0, z0)) (P : pj_P B A K z H lo) (hl : lv_has ls 8 [(0, .ref (B.2.1 9)), (1, .ref (B.2.1 8)), (2, .int v2), (3, .int v3), (4, .int v4)]) : pj_W K H lo 101 ls [] := by
  unfold Law_oddsOf_101 at h
  refine pj_iinc (v := (nI 1)) [(0, .ref (B.2.1 9)), (1, .ref (B.2.1 8)), (2, .int v2), (3, .int v3)] C h rfl dd_Law_oddsOf_101 hl 4 rfl (by decide) rfl (fun x1 ls h hl => ?_)
  refine pj_goto C dd_Law_oddsOf_104 ?_
  exact k8 _ _ _ _ _ _ _ h P (lv_sub hl [1, 2, 3, 4, 0] rfl)
set_option maxHeartbeats 4000000 in
set_option maxRecDepth 100000 in
theorem bt_Law_oddsOf_83 {B : pj_B} {A : Nat → Prop} {K : pj_K} {r0 : Int32} {z0 : pj_S} (hB : B.2.2.2.1 = pj_LC) (C : pj_C B A K cX2_oddsOf 8 RX2 5) (Q : pj_Qi B A K (some .int) r0 z0)  (v7 : Int32) (z : pj_S) (H : Heap) (lo : List Loc) (ls : Array Slot) (h : Law_oddsOf_83 v7 z = some (r0, z0)) (P : pj_P B A K z H lo) (hl : lv_has ls 8 [(7, .int v7)]) : pj_W K H lo 83 ls [] := by
  unfold Law_oddsOf_83 at h
  refine pj_iload C dd_Law_oddsOf_83 hl 0 rfl ?_
  obtain ⟨r3, z2, e1, h⟩ := pj_cE h
  refine pj_cSi (st := []) [.int v7] C P (ct_Law_heldToOdds hB e1) cl_Law_47 rfl (by decide) (by decide) hl.1 (Nat.le_of_ble_eq_true rfl) dd_Law_oddsOf_85 (fun H lo P => ?_)
  exact pj_iret C Q P h dd_Law_oddsOf_88
set_option maxHeartbeats 4000000 in
set_option maxRecDepth 100000 in
theorem bt_Law_oddsOf_70 {B : pj_B} {A : Nat → Prop} {K : pj_K} {r0 : Int32} {z0 : pj_S} (hB : B.2.2.2.1 = pj_LC) (C : pj_C B A K cX2_oddsOf 8 RX2 5) (Q : pj_Qi B A K (some .int) r0 z0) (s8 : Int32 → Int32 → Int32 → pj_S → Option (Int32 × pj_S)) (k8 : ∀ (v2 : Int32) (v3 : Int32) (v4 : Int32) (z : pj_S) (H : Heap) (lo : List Loc) (ls : Array Slot), s8 v2 v3 v4 z = some (r0, z0) → pj_P B A K z H lo → lv_has ls 8 [(0, .ref (B.2.1 9)), (1, .ref (B.2.1 8)), (2, .int v2), (3, .int v3), (4, .int v4)] → pj_W K H lo 8 ls []) (v2 : Int32) (v3 : Int32) (v4 : Int32) (t0 : Int32) (z : pj_S) (H : Heap) (lo : List Loc) (ls : Array Slot) (h : Law_oddsOf_70 s8 v2 v3 v4 t0 z = some (r0, z0)) (P : pj_P B A K z H lo) (hl : lv_has ls 8 [(0, .ref (B.2.1 9)), (1, .ref (B.2.1 8)), (2, .int v2), (3, .int v3), (4, .int v4)]) : pj_W K H lo 70 ls [.int t0] := by
  unfold Law_oddsOf_70 at h
  refine pj_istore [(6, .int t0), (0, .ref (B.2.1 9)), (1, .ref (B.2.1 8)), (2, .int v2), (3, .int v3), (4, .int v4)] C dd_Law_oddsOf_70 hl (by decide) rfl (fun ls hl => ?_)
  refine pj_aload_n C dd_Law_oddsOf_72 rfl hl 1 rfl ?_
  obtain ⟨r3, z2, e1, h⟩ := pj_cE h
  refine pj_cVi (st := []) [] C P 9 (LC9 hB) rfl (ct_Law_pop hB e1) cl_Law_43 rfl (by decide) (by decide) hl.1 (Nat.le_of_ble_eq_true rfl) dd_Law_oddsOf_73 (fun H lo P => ?_)
  refine pj_istore [(7, .int r3), (6, .int t0), (0, .ref (B.2.1 9)), (1, .ref (B.2.1 8)), (2, .int v2), (3, .int v3), (4, .int v4)] C dd_Law_oddsOf_76 hl (by decide) rfl (fun ls hl => ?_)
  refine pj_iload C dd_Law_oddsOf_78 hl 1 rfl ?_
  refine pj_if_eq C h dd_Law_oddsOf_80 (fun h => ?_) (fun h => ?_)
  · refine pj_goto C dd_Law_oddsOf_89 ?_
    exact bt_Law_oddsOf_101 hB C Q s8 k8 _ _ _ _ _ _ _ h P (lv_sub hl [2, 3, 4, 5, 6] rfl)
  · exact bt_Law_oddsOf_83 hB C Q _ _ _ _ _ h P (lv_sub hl [0] rfl)
set_option maxHeartbeats 4000000 in
set_option maxRecDepth 100000 in
theorem bt_Law_oddsOf_43 {B : pj_B} {A : Nat → Prop} {K : pj_K} {r0 : Int32} {z0 : pj_S} (hB : B.2.2.2.1 = pj_LC) (C : pj_C B A K cX2_oddsOf 8 RX2 5) (Q : pj_Qi B A K (some .int) r0 z0)   (z : pj_S) (H : Heap) (lo : List Loc) (ls : Array Slot) (h : Law_oddsOf_43 z = some (r0, z0)) (P : pj_P B A K z H lo) (hl : lv_has ls 8 [(0, .ref (B.2.1 9))]) : pj_W K H lo 43 ls [] := by
  unfold Law_oddsOf_43 at h
  refine pj_aload_n C dd_Law_oddsOf_43 rfl hl 0 rfl ?_
  obtain ⟨r3, z2, e1, h⟩ := pj_cE h
  refine pj_cVi (st := []) [] C P 9 (LC9 hB) rfl (ct_Law_pop hB e1) cl_Law_43 rfl (by decide) (by decide) hl.1 (Nat.le_of_ble_eq_true rfl) dd_Law_oddsOf_44 (fun H lo P => ?_)
  obtain ⟨r6, z5, e4, h⟩ := pj_cE h
  refine pj_cSi (st := []) [.int r3] C P (ct_Law_heldToOdds hB e4) cl_Law_47 rfl (by decide) (by decide) hl.1 (Nat.le_of_ble_eq_true rfl) dd_Law_oddsOf_47 (fun H lo P => ?_)
  exact pj_iret C Q P h dd_Law_oddsOf_50
set_option maxHeartbeats 4000000 in
set_option maxRecDepth 100000 in
theorem bt_Law_oddsOf_107 {B : pj_B} {A : Nat → Prop} {K : pj_K} {r0 : Int32} {z0 : pj_S} (hB : B.2.2.2.1 = pj_LC) (C : pj_C B A K cX2_oddsOf 8 RX2 5) (Q : pj_Qi B A K (some .int) r0 z0)   (z : pj_S) (H : Heap) (lo : List Loc) (ls : Array Slot) (h : Law_oddsOf_107 z = some (r0, z0)) (P : pj_P B A K z H lo) (hl : lv_has ls 8 []) : pj_W K H lo 107 ls [] := by
  unfold Law_oddsOf_107 at h
  refine pj_sipush (v := (nI 500)) C dd_Law_oddsOf_107 rfl ?_
  exact pj_iret C Q P h dd_Law_oddsOf_110
set_option maxHeartbeats 4000000 in
set_option maxRecDepth 100000 in
theorem bt_Law_oddsOf_8 {B : pj_B} {A : Nat → Prop} {K : pj_K} {r0 : Int32} {z0 : pj_S} (hB : B.2.2.2.1 = pj_LC) (C : pj_C B A K cX2_oddsOf 8 RX2 5) (Q : pj_Qi B A K (some .int) r0 z0) (s8 : Int32 → Int32 → Int32 → pj_S → Option (Int32 × pj_S)) (k8 : ∀ (v2 : Int32) (v3 : Int32) (v4 : Int32) (z : pj_S) (H : Heap) (lo : List Loc) (ls : Array Slot), s8 v2 v3 v4 z = some (r0, z0) → pj_P B A K z H lo → lv_has ls 8 [(0, .ref (B.2.1 9)), (1, .ref (B.2.1 8)), (2, .int v2), (3, .int v3), (4, .int v4)] → pj_W K H lo 8 ls []) (v2 : Int32) (v3 : Int32) (v4 : Int32) (z : pj_S) (H : Heap) (lo : List Loc) (ls : Array Slot) (h : Law_oddsOf_8 s8 v2 v3 v4 z = some (r0, z0)) (P : pj_P B A K z H lo) (hl : lv_has ls 8 [(0, .ref (B.2.1 9)), (1, .ref (B.2.1 8)), (2, .int v2), (3, .int v3), (4, .int v4)]) : pj_W K H lo 8 ls [] := by
  unfold Law_oddsOf_8 at h
  refine pj_iload C dd_Law_oddsOf_8 hl 4 rfl ?_
  refine pj_aload_n C dd_Law_oddsOf_10 rfl hl 0 rfl ?_
  refine pj_getI C P 9 (LC9 hB) rfl fl_Law_18 dd_Law_oddsOf_11 ?_
  refine pj_ic_ge C h dd_Law_oddsOf_14 (fun h => ?_) (fun h => ?_)
  · exact bt_Law_oddsOf_107 hB C Q _ _ _ _ h P (lv_sub hl [] rfl)
  · refine pj_iload C dd_Law_oddsOf_17 hl 4 rfl ?_
    refine pj_aload_n C dd_Law_oddsOf_19 rfl hl 0 rfl ?_
    refine pj_getR C P 9 (LC9 hB) rfl fl_Law_9 dd_Law_oddsOf_20 ?_
    refine pj_alen (nI 400) C P 29 (LC29 hB) (by decide) (by decide) dd_Law_oddsOf_23 ?_
    refine pj_ic_ge C h dd_Law_oddsOf_24 (fun h => ?_) (fun h => ?_)
    · exact bt_Law_oddsOf_107 hB C Q _ _ _ _ h P (lv_sub hl [] rfl)
    · refine pj_aload_n C dd_Law_oddsOf_27 rfl hl 0 rfl ?_
      refine pj_getR C P 9 (LC9 hB) rfl fl_Law_9 dd_Law_oddsOf_28 ?_
      refine pj_iload C dd_Law_oddsOf_31 hl 4 rfl ?_
      refine pj_iald C P 29 (LC29 hB) h dd_Law_oddsOf_33 (fun h => ?_)
      refine pj_istb [(0, .ref (B.2.1 9)), (1, .ref (B.2.1 8)), (2, .int v2), (3, .int v3), (4, .int v4)] C h dd_Law_oddsOf_34 hl (by decide) rfl (fun x1 ls h hl => ?_)
      refine pj_iload C dd_Law_oddsOf_36 hl 0 rfl ?_
      refine pj_bipush (v := (-18 : Int32)) C dd_Law_oddsOf_38 rfl ?_
      refine pj_ic_ne C h dd_Law_oddsOf_40 (fun h => ?_) (fun h => ?_)
      · refine pj_iload C dd_Law_oddsOf_51 hl 0 rfl ?_
        refine pj_bipush (v := (-19 : Int32)) C dd_Law_oddsOf_53 rfl ?_
        refine pj_ic_ne C h dd_Law_oddsOf_55 (fun h => ?_) (fun h => ?_)
        · refine pj_aload_n C dd_Law_oddsOf_92 rfl hl 1 rfl ?_
          refine pj_iload C dd_Law_oddsOf_93 hl 0 rfl ?_
          refine pj_aload_n C dd_Law_oddsOf_95 rfl hl 2 rfl ?_
          refine pj_iload_n C dd_Law_oddsOf_96 rfl hl 3 rfl ?_
          refine pj_iload_n C dd_Law_oddsOf_97 rfl hl 4 rfl ?_
          obtain ⟨r4, z3, e2, h⟩ := pj_cE h
          refine pj_cVv (st := []) [.int x1, .ref (B.2.1 8), .int v2, .int v3] C P 9 (LC9 hB) rfl (ct_Law_reckon hB e2) cl_Law_51 rfl (by decide) (by decide) hl.1 (Nat.le_of_ble_eq_true rfl) dd_Law_oddsOf_98 (fun H lo P => ?_)
          exact bt_Law_oddsOf_101 hB C Q s8 k8 _ _ _ _ _ _ _ h P (lv_sub hl [1, 2, 3, 4, 5] rfl)
        · refine pj_aload_n C dd_Law_oddsOf_58 rfl hl 1 rfl ?_
          obtain ⟨r7, z6, e5, h⟩ := pj_cE h
          refine pj_cVi (st := []) [] C P 9 (LC9 hB) rfl (ct_Law_pop hB e5) cl_Law_43 rfl (by decide) (by decide) hl.1 (Nat.le_of_ble_eq_true rfl) dd_Law_oddsOf_59 (fun H lo P => ?_)
          refine pj_if_eq C h dd_Law_oddsOf_62 (fun h => ?_) (fun h => ?_)
          · refine pj_iconst (v := (nI 0)) C dd_Law_oddsOf_69 rfl ?_
            exact bt_Law_oddsOf_70 hB C Q s8 k8 _ _ _ _ _ _ _ _ h P (lv_sub hl [1, 2, 3, 4, 5] rfl)
          · refine pj_iconst (v := (nI 1)) C dd_Law_oddsOf_65 rfl ?_
            refine pj_goto C dd_Law_oddsOf_66 ?_
            exact bt_Law_oddsOf_70 hB C Q s8 k8 _ _ _ _ _ _ _ _ h P (lv_sub hl [1, 2, 3, 4, 5] rfl)
      · exact bt_Law_oddsOf_43 hB C Q _ _ _ _ h P (lv_sub hl [1] rfl)
theorem lt_Law_oddsOf_8 {B : pj_B} {A : Nat → Prop} {K : pj_K} {r0 : Int32} {z0 : pj_S} (hB : B.2.2.2.1 = pj_LC) (C : pj_C B A K cX2_oddsOf 8 RX2 5) (Q : pj_Qi B A K (some .int) r0 z0)  : ∀ (n : Nat) (v2 : Int32) (v3 : Int32) (v4 : Int32) (z : pj_S) (H : Heap) (lo : List Loc) (ls : Array Slot), pj_lp3 Law_oddsOf_8 n v2 v3 v4 z = some (r0, z0) → pj_P B A K z H lo → lv_has ls 8 [(0, .ref (B.2.1 9)), (1, .ref (B.2.1 8)), (2, .int v2), (3, .int v3), (4, .int v4)] → pj_W K H lo 8 ls [] := by
  intro n
  induction n with
  | zero => intro v2 v3 v4 z H lo ls h; rw [pj_lp3_0] at h; cases h
  | succ n ih =>
    intro v2 v3 v4 z H lo ls h P hl
    rw [pj_lp3_s] at h
    exact bt_Law_oddsOf_8 hB C Q   (pj_lp3 Law_oddsOf_8 n) ih v2 v3 v4 z H lo ls h P hl
set_option maxHeartbeats 4000000 in
set_option maxRecDepth 100000 in
theorem ct_Law_oddsOf {l : Launch} {B : pj_B} (hB : B.2.2.2.1 = pj_LC) {v2 : Int32} {v3 : Int32} {z : pj_S} {r0 : Int32} {z0 : pj_S} (h : Law_oddsOf v2 v3 z = some (r0, z0)) : pj_Mi l yX2_oddsOf cX2_oddsOf 8 (some .int) 5 [.ref (B.2.1 9), .ref (B.2.1 8), .int v2, .int v3] B z r0 z0 := by
  refine pj_meti (own := RX2) (by decide +kernel) rfl (Nat.le_of_ble_eq_true rfl) ?_
  intro A K hK C Q H lo ls P hl
  have hl : lv_has ls 8 [(0, .ref (B.2.1 9)), (1, .ref (B.2.1 8)), (2, .int v2), (3, .int v3)] := hl
  unfold Law_oddsOf at h
  refine pj_aload_n C dd_Law_oddsOf_0 rfl hl 0 rfl ?_
  refine pj_iconst (v := (nI 0)) C dd_Law_oddsOf_1 rfl ?_
  refine pj_putI C P 9 (LC9 hB) rfl fl_Law_40 rfl fy_2_4 h dd_Law_oddsOf_2 (fun H lo z1 h P => ?_)
  refine pj_iconst (v := (nI 0)) C dd_Law_oddsOf_5 rfl ?_
  refine pj_istore [(4, .int (nI 0)), (0, .ref (B.2.1 9)), (1, .ref (B.2.1 8)), (2, .int v2), (3, .int v3)] C dd_Law_oddsOf_6 hl (by decide) rfl (fun ls hl => ?_)
  exact lt_Law_oddsOf_8 hB C Q 4000 _ _ _ _ _ _ _ h P (lv_sub hl [1, 2, 3, 4, 0] rfl)
theorem dd_Whole_draw_0 : pj_d cX8_draw 0 (.aload_n 0) 1 1 := ⟨by decide +kernel, rfl⟩
theorem dd_Whole_draw_1 : pj_d cX8_draw 1 (.ldc 110) 2 3 := ⟨by decide +kernel, rfl⟩
theorem dd_Whole_draw_3 : pj_d cX8_draw 3 (.aload_n 0) 1 4 := ⟨by decide +kernel, rfl⟩
theorem dd_Whole_draw_4 : pj_d cX8_draw 4 (.getfield 78) 3 7 := ⟨by decide +kernel, rfl⟩
theorem dd_Whole_draw_7 : pj_d cX8_draw 7 (.imul) 1 8 := ⟨by decide +kernel, rfl⟩
theorem dd_Whole_draw_8 : pj_d cX8_draw 8 (.ldc 111) 2 10 := ⟨by decide +kernel, rfl⟩
theorem dd_Whole_draw_10 : pj_d cX8_draw 10 (.iadd) 1 11 := ⟨by decide +kernel, rfl⟩
theorem dd_Whole_draw_11 : pj_d cX8_draw 11 (.putfield 78) 3 14 := ⟨by decide +kernel, rfl⟩
theorem dd_Whole_draw_14 : pj_d cX8_draw 14 (.iload_n 1) 1 15 := ⟨by decide +kernel, rfl⟩
theorem dd_Whole_draw_15 : pj_dj cX8_draw 15 (.ifCond .le 15) 15 18 30 := ⟨by decide +kernel, rfl, by decide⟩
theorem dd_Whole_draw_18 : pj_d cX8_draw 18 (.aload_n 0) 1 19 := ⟨by decide +kernel, rfl⟩
theorem dd_Whole_draw_19 : pj_d cX8_draw 19 (.getfield 78) 3 22 := ⟨by decide +kernel, rfl⟩
theorem dd_Whole_draw_22 : pj_d cX8_draw 22 (.bipush 8) 2 24 := ⟨by decide +kernel, rfl⟩
theorem dd_Whole_draw_24 : pj_d cX8_draw 24 (.iushr) 1 25 := ⟨by decide +kernel, rfl⟩
theorem dd_Whole_draw_25 : pj_d cX8_draw 25 (.iload_n 1) 1 26 := ⟨by decide +kernel, rfl⟩
theorem dd_Whole_draw_26 : pj_d cX8_draw 26 (.irem) 1 27 := ⟨by decide +kernel, rfl⟩
theorem dd_Whole_draw_27 : pj_dj cX8_draw 27 (.goto 4) 4 30 31 := ⟨by decide +kernel, rfl, by decide⟩
theorem dd_Whole_draw_30 : pj_d cX8_draw 30 (.iconst 0) 1 31 := ⟨by decide +kernel, rfl⟩
theorem dd_Whole_draw_31 : pj_d cX8_draw 31 (.ireturn) 1 32 := ⟨by decide +kernel, rfl⟩
set_option maxHeartbeats 4000000 in
set_option maxRecDepth 100000 in
theorem ct_Whole_draw {l : Launch} {B : pj_B} (hB : B.2.2.2.1 = pj_LC) {v1 : Int32} {z : pj_S} {r0 : Int32} {z0 : pj_S} (h : Whole_draw v1 z = some (r0, z0)) : pj_Mi l yX8_draw cX8_draw 2 (some .int) 1 [.ref (B.2.1 1), .int v1] B z r0 z0 := by
  refine pj_meti (own := RX8) (by decide +kernel) rfl (Nat.le_of_ble_eq_true rfl) ?_
  intro A K hK C Q H lo ls P hl
  have hl : lv_has ls 2 [(0, .ref (B.2.1 1)), (1, .int v1)] := hl
  unfold Whole_draw at h
  refine pj_aload_n C dd_Whole_draw_0 rfl hl 0 rfl ?_
  refine pj_ldc (v := (nI 1664525)) C co_Whole_110 dd_Whole_draw_1 ?_
  refine pj_aload_n C dd_Whole_draw_3 rfl hl 0 rfl ?_
  refine pj_getI C P 1 (LC1 hB) rfl fl_Whole_78 dd_Whole_draw_4 ?_
  refine pj_imul C dd_Whole_draw_7 ?_
  refine pj_ldc (v := (nI 1013904223)) C co_Whole_111 dd_Whole_draw_8 ?_
  refine pj_iadd C dd_Whole_draw_10 ?_
  refine pj_putI C P 1 (LC1 hB) rfl fl_Whole_78 rfl fy_8_5 h dd_Whole_draw_11 (fun H lo z1 h P => ?_)
  refine pj_iload_n C dd_Whole_draw_14 rfl hl 1 rfl ?_
  refine pj_if_le C h dd_Whole_draw_15 (fun h => ?_) (fun h => ?_)
  · refine pj_iconst (v := (nI 0)) C dd_Whole_draw_30 rfl ?_
    exact pj_iret C Q P h dd_Whole_draw_31
  · refine pj_aload_n C dd_Whole_draw_18 rfl hl 0 rfl ?_
    refine pj_getI C P 1 (LC1 hB) rfl fl_Whole_78 dd_Whole_draw_19 ?_
    refine pj_bipush (v := (nI 8)) C dd_Whole_draw_22 rfl ?_
    refine pj_iushr C dd_Whole_draw_24 ?_
    refine pj_iload_n C dd_Whole_draw_25 rfl hl 1 rfl ?_
    refine pj_irem C h dd_Whole_draw_26 (fun h => ?_)
    refine pj_goto C dd_Whole_draw_27 ?_
    exact pj_iret C Q P h dd_Whole_draw_31
theorem dd_Fabric_loose_0 : pj_d cX1_loose 0 (.aload_n 0) 1 1 := ⟨by decide +kernel, rfl⟩
theorem dd_Fabric_loose_1 : pj_d cX1_loose 1 (.getfield 36) 3 4 := ⟨by decide +kernel, rfl⟩
theorem dd_Fabric_loose_4 : pj_d cX1_loose 4 (.aload_n 0) 1 5 := ⟨by decide +kernel, rfl⟩
theorem dd_Fabric_loose_5 : pj_d cX1_loose 5 (.aload_n 0) 1 6 := ⟨by decide +kernel, rfl⟩
theorem dd_Fabric_loose_6 : pj_d cX1_loose 6 (.getfield 36) 3 9 := ⟨by decide +kernel, rfl⟩
theorem dd_Fabric_loose_9 : pj_d cX1_loose 9 (.aload_n 0) 1 10 := ⟨by decide +kernel, rfl⟩
theorem dd_Fabric_loose_10 : pj_d cX1_loose 10 (.getfield 39) 3 13 := ⟨by decide +kernel, rfl⟩
theorem dd_Fabric_loose_13 : pj_d cX1_loose 13 (.invokevirtual 66) 3 16 := ⟨by decide +kernel, rfl⟩
theorem dd_Fabric_loose_16 : pj_d cX1_loose 16 (.ldc2_w 56) 3 19 := ⟨by decide +kernel, rfl⟩
theorem dd_Fabric_loose_19 : pj_d cX1_loose 19 (.lxor) 1 20 := ⟨by decide +kernel, rfl⟩
theorem dd_Fabric_loose_20 : pj_d cX1_loose 20 (.land) 1 21 := ⟨by decide +kernel, rfl⟩
theorem dd_Fabric_loose_21 : pj_d cX1_loose 21 (.lreturn) 1 22 := ⟨by decide +kernel, rfl⟩
set_option maxHeartbeats 4000000 in
set_option maxRecDepth 100000 in
theorem ct_Fabric_loose {l : Launch} {B : pj_B} (hB : B.2.2.2.1 = pj_LC)  {z : pj_S} {r0 : Int64} {z0 : pj_S} (h : Fabric_loose z = some (r0, z0)) : pj_Ml l yX1_loose cX1_loose 1 (some .long) 3 [.ref (B.2.1 8)] B z r0 z0 := by
  refine pj_metl (own := RX1) (by decide +kernel) rfl (Nat.le_of_ble_eq_true rfl) ?_
  intro A K hK C Q H lo ls P hl
  have hl : lv_has ls 1 [(0, .ref (B.2.1 8))] := hl
  unfold Fabric_loose at h
  refine pj_aload_n C dd_Fabric_loose_0 rfl hl 0 rfl ?_
  refine pj_getJ C P 8 (LC8 hB) rfl fl_Fabric_36 dd_Fabric_loose_1 ?_
  refine pj_aload_n C dd_Fabric_loose_4 rfl hl 0 rfl ?_
  refine pj_aload_n C dd_Fabric_loose_5 rfl hl 0 rfl ?_
  refine pj_getJ C P 8 (LC8 hB) rfl fl_Fabric_36 dd_Fabric_loose_6 ?_
  refine pj_aload_n C dd_Fabric_loose_9 rfl hl 0 rfl ?_
  refine pj_getJ C P 8 (LC8 hB) rfl fl_Fabric_39 dd_Fabric_loose_10 ?_
  obtain ⟨r3, z2, e1, h⟩ := pj_cE h
  refine pj_cVl (st := [.long (z.2 8 6)]) [.long (z.2 8 6), .long (z.2 8 7)] C P 8 (LC8 hB) rfl (ct_Fabric_heldOf hB e1) cl_Fabric_66 rfl (by decide) (by decide) hl.1 (Nat.le_of_ble_eq_true rfl) dd_Fabric_loose_13 (fun H lo P => ?_)
  refine pj_ldc2 (v := (-1 : Int64)) C co_Fabric_56 dd_Fabric_loose_16 ?_
  refine pj_lxor C dd_Fabric_loose_19 ?_
  refine pj_land C dd_Fabric_loose_20 ?_
  exact pj_lret C Q P h dd_Fabric_loose_21
theorem dd_Whole_passHour_0 : pj_d cX8_passHour 0 (.aload_n 0) 1 1 := ⟨by decide +kernel, rfl⟩
theorem dd_Whole_passHour_1 : pj_d cX8_passHour 1 (.getfield 12) 3 4 := ⟨by decide +kernel, rfl⟩
theorem dd_Whole_passHour_4 : pj_d cX8_passHour 4 (.invokevirtual 112) 3 7 := ⟨by decide +kernel, rfl⟩
theorem dd_Whole_passHour_7 : pj_d cX8_passHour 7 (.lstore_n 1) 1 8 := ⟨by decide +kernel, rfl⟩
theorem dd_Whole_passHour_8 : pj_d cX8_passHour 8 (.lconst 0) 1 9 := ⟨by decide +kernel, rfl⟩
theorem dd_Whole_passHour_9 : pj_d cX8_passHour 9 (.lstore_n 3) 1 10 := ⟨by decide +kernel, rfl⟩
theorem dd_Whole_passHour_10 : pj_d cX8_passHour 10 (.iconst 0) 1 11 := ⟨by decide +kernel, rfl⟩
theorem dd_Whole_passHour_11 : pj_d cX8_passHour 11 (.istore 5) 2 13 := ⟨by decide +kernel, rfl⟩
theorem dd_Whole_passHour_13 : pj_d cX8_passHour 13 (.iload 5) 2 15 := ⟨by decide +kernel, rfl⟩
theorem dd_Whole_passHour_15 : pj_d cX8_passHour 15 (.bipush 48) 2 17 := ⟨by decide +kernel, rfl⟩
theorem dd_Whole_passHour_17 : pj_dj cX8_passHour 17 (.if_icmp .ge 62) 62 20 79 := ⟨by decide +kernel, rfl, by decide⟩
theorem dd_Whole_passHour_20 : pj_d cX8_passHour 20 (.lload_n 1) 1 21 := ⟨by decide +kernel, rfl⟩
theorem dd_Whole_passHour_21 : pj_d cX8_passHour 21 (.iload 5) 2 23 := ⟨by decide +kernel, rfl⟩
theorem dd_Whole_passHour_23 : pj_d cX8_passHour 23 (.invokestatic 116) 3 26 := ⟨by decide +kernel, rfl⟩
theorem dd_Whole_passHour_26 : pj_d cX8_passHour 26 (.iconst 1) 1 27 := ⟨by decide +kernel, rfl⟩
theorem dd_Whole_passHour_27 : pj_dj cX8_passHour 27 (.if_icmp .ne 46) 46 30 73 := ⟨by decide +kernel, rfl, by decide⟩
theorem dd_Whole_passHour_30 : pj_d cX8_passHour 30 (.aload_n 0) 1 31 := ⟨by decide +kernel, rfl⟩
theorem dd_Whole_passHour_31 : pj_d cX8_passHour 31 (.getfield 21) 3 34 := ⟨by decide +kernel, rfl⟩
theorem dd_Whole_passHour_34 : pj_d cX8_passHour 34 (.aload_n 0) 1 35 := ⟨by decide +kernel, rfl⟩
theorem dd_Whole_passHour_35 : pj_d cX8_passHour 35 (.getfield 12) 3 38 := ⟨by decide +kernel, rfl⟩
theorem dd_Whole_passHour_38 : pj_d cX8_passHour 38 (.aload_n 0) 1 39 := ⟨by decide +kernel, rfl⟩
theorem dd_Whole_passHour_39 : pj_d cX8_passHour 39 (.getfield 51) 3 42 := ⟨by decide +kernel, rfl⟩
theorem dd_Whole_passHour_42 : pj_d cX8_passHour 42 (.iload 5) 2 44 := ⟨by decide +kernel, rfl⟩
theorem dd_Whole_passHour_44 : pj_d cX8_passHour 44 (.invokevirtual 120) 3 47 := ⟨by decide +kernel, rfl⟩
theorem dd_Whole_passHour_47 : pj_d cX8_passHour 47 (.istore 6) 2 49 := ⟨by decide +kernel, rfl⟩
theorem dd_Whole_passHour_49 : pj_d cX8_passHour 49 (.iload 6) 2 51 := ⟨by decide +kernel, rfl⟩
theorem dd_Whole_passHour_51 : pj_dj cX8_passHour 51 (.ifCond .le 22) 22 54 73 := ⟨by decide +kernel, rfl, by decide⟩
theorem dd_Whole_passHour_54 : pj_d cX8_passHour 54 (.aload_n 0) 1 55 := ⟨by decide +kernel, rfl⟩
theorem dd_Whole_passHour_55 : pj_d cX8_passHour 55 (.sipush 1000) 3 58 := ⟨by decide +kernel, rfl⟩
theorem dd_Whole_passHour_58 : pj_d cX8_passHour 58 (.invokevirtual 124) 3 61 := ⟨by decide +kernel, rfl⟩
theorem dd_Whole_passHour_61 : pj_d cX8_passHour 61 (.iload 6) 2 63 := ⟨by decide +kernel, rfl⟩
theorem dd_Whole_passHour_63 : pj_dj cX8_passHour 63 (.if_icmp .ge 10) 10 66 73 := ⟨by decide +kernel, rfl, by decide⟩
theorem dd_Whole_passHour_66 : pj_d cX8_passHour 66 (.lload_n 3) 1 67 := ⟨by decide +kernel, rfl⟩
theorem dd_Whole_passHour_67 : pj_d cX8_passHour 67 (.lconst 1) 1 68 := ⟨by decide +kernel, rfl⟩
theorem dd_Whole_passHour_68 : pj_d cX8_passHour 68 (.iload 5) 2 70 := ⟨by decide +kernel, rfl⟩
theorem dd_Whole_passHour_70 : pj_d cX8_passHour 70 (.lshl) 1 71 := ⟨by decide +kernel, rfl⟩
theorem dd_Whole_passHour_71 : pj_d cX8_passHour 71 (.lor) 1 72 := ⟨by decide +kernel, rfl⟩
theorem dd_Whole_passHour_72 : pj_d cX8_passHour 72 (.lstore_n 3) 1 73 := ⟨by decide +kernel, rfl⟩
theorem dd_Whole_passHour_73 : pj_d cX8_passHour 73 (.iinc 5 1) 3 76 := ⟨by decide +kernel, rfl⟩
theorem dd_Whole_passHour_76 : pj_dj cX8_passHour 76 (.goto (-63)) (-63) 79 13 := ⟨by decide +kernel, rfl, by decide⟩
theorem dd_Whole_passHour_79 : pj_d cX8_passHour 79 (.iconst 0) 1 80 := ⟨by decide +kernel, rfl⟩
theorem dd_Whole_passHour_80 : pj_d cX8_passHour 80 (.istore 5) 2 82 := ⟨by decide +kernel, rfl⟩
theorem dd_Whole_passHour_82 : pj_d cX8_passHour 82 (.iload 5) 2 84 := ⟨by decide +kernel, rfl⟩
theorem dd_Whole_passHour_84 : pj_d cX8_passHour 84 (.bipush 48) 2 86 := ⟨by decide +kernel, rfl⟩
theorem dd_Whole_passHour_86 : pj_dj cX8_passHour 86 (.if_icmp .ge 26) 26 89 112 := ⟨by decide +kernel, rfl, by decide⟩
theorem dd_Whole_passHour_89 : pj_d cX8_passHour 89 (.lload_n 3) 1 90 := ⟨by decide +kernel, rfl⟩
theorem dd_Whole_passHour_90 : pj_d cX8_passHour 90 (.iload 5) 2 92 := ⟨by decide +kernel, rfl⟩
theorem dd_Whole_passHour_92 : pj_d cX8_passHour 92 (.invokestatic 116) 3 95 := ⟨by decide +kernel, rfl⟩
theorem dd_Whole_passHour_95 : pj_d cX8_passHour 95 (.iconst 1) 1 96 := ⟨by decide +kernel, rfl⟩
theorem dd_Whole_passHour_96 : pj_dj cX8_passHour 96 (.if_icmp .ne 10) 10 99 106 := ⟨by decide +kernel, rfl, by decide⟩
theorem dd_Whole_passHour_99 : pj_d cX8_passHour 99 (.aload_n 0) 1 100 := ⟨by decide +kernel, rfl⟩
theorem dd_Whole_passHour_100 : pj_d cX8_passHour 100 (.iload 5) 2 102 := ⟨by decide +kernel, rfl⟩
theorem dd_Whole_passHour_102 : pj_d cX8_passHour 102 (.iconst 1) 1 103 := ⟨by decide +kernel, rfl⟩
theorem dd_Whole_passHour_103 : pj_d cX8_passHour 103 (.invokevirtual 97) 3 106 := ⟨by decide +kernel, rfl⟩
theorem dd_Whole_passHour_106 : pj_d cX8_passHour 106 (.iinc 5 1) 3 109 := ⟨by decide +kernel, rfl⟩
theorem dd_Whole_passHour_109 : pj_dj cX8_passHour 109 (.goto (-27)) (-27) 112 82 := ⟨by decide +kernel, rfl, by decide⟩
theorem dd_Whole_passHour_112 : pj_d cX8_passHour 112 (.aload_n 0) 1 113 := ⟨by decide +kernel, rfl⟩
theorem dd_Whole_passHour_113 : pj_d cX8_passHour 113 (.dup) 1 114 := ⟨by decide +kernel, rfl⟩
theorem dd_Whole_passHour_114 : pj_d cX8_passHour 114 (.getfield 51) 3 117 := ⟨by decide +kernel, rfl⟩
theorem dd_Whole_passHour_117 : pj_d cX8_passHour 117 (.iconst 1) 1 118 := ⟨by decide +kernel, rfl⟩
theorem dd_Whole_passHour_118 : pj_d cX8_passHour 118 (.iadd) 1 119 := ⟨by decide +kernel, rfl⟩
theorem dd_Whole_passHour_119 : pj_d cX8_passHour 119 (.putfield 51) 3 122 := ⟨by decide +kernel, rfl⟩
theorem dd_Whole_passHour_122 : pj_d cX8_passHour 122 (.lload_n 3) 1 123 := ⟨by decide +kernel, rfl⟩
theorem dd_Whole_passHour_123 : pj_d cX8_passHour 123 (.invokestatic 128) 3 126 := ⟨by decide +kernel, rfl⟩
theorem dd_Whole_passHour_126 : pj_d cX8_passHour 126 (.ireturn) 1 127 := ⟨by decide +kernel, rfl⟩
set_option maxHeartbeats 4000000 in
set_option maxRecDepth 100000 in
theorem bt_Whole_passHour_73 {B : pj_B} {A : Nat → Prop} {K : pj_K} {r0 : Int32} {z0 : pj_S} (hB : B.2.2.2.1 = pj_LC) (C : pj_C B A K cX8_passHour 7 RX8 6) (Q : pj_Qi B A K (some .int) r0 z0) (s13 : Int64 → Int64 → Int32 → pj_S → Option (Int32 × pj_S)) (k13 : ∀ (v1 : Int64) (v3 : Int64) (v5 : Int32) (z : pj_S) (H : Heap) (lo : List Loc) (ls : Array Slot), s13 v1 v3 v5 z = some (r0, z0) → pj_P B A K z H lo → lv_has ls 7 [(0, .ref (B.2.1 1)), (1, .long v1), (3, .long v3), (5, .int v5)] → pj_W K H lo 13 ls []) (v1 : Int64) (v3 : Int64) (v5 : Int32) (z : pj_S) (H : Heap) (lo : List Loc) (ls : Array Slot) (h : Whole_passHour_73 s13 v1 v3 v5 z = some (r0, z0)) (P : pj_P B A K z H lo) (hl : lv_has ls 7 [(0, .ref (B.2.1 1)), (1, .long v1), (3, .long v3), (5, .int v5)]) : pj_W K H lo 73 ls [] := by
  unfold Whole_passHour_73 at h
  refine pj_iinc (v := (nI 1)) [(0, .ref (B.2.1 1)), (1, .long v1), (3, .long v3)] C h rfl dd_Whole_passHour_73 hl 3 rfl (by decide) rfl (fun x1 ls h hl => ?_)
  refine pj_goto C dd_Whole_passHour_76 ?_
  exact k13 _ _ _ _ _ _ _ h P (lv_sub hl [1, 2, 3, 0] rfl)
set_option maxHeartbeats 4000000 in
set_option maxRecDepth 100000 in
theorem bt_Whole_passHour_106 {B : pj_B} {A : Nat → Prop} {K : pj_K} {r0 : Int32} {z0 : pj_S} (hB : B.2.2.2.1 = pj_LC) (C : pj_C B A K cX8_passHour 7 RX8 6) (Q : pj_Qi B A K (some .int) r0 z0) (s82 : Int64 → Int32 → pj_S → Option (Int32 × pj_S)) (k82 : ∀ (v3 : Int64) (v5 : Int32) (z : pj_S) (H : Heap) (lo : List Loc) (ls : Array Slot), s82 v3 v5 z = some (r0, z0) → pj_P B A K z H lo → lv_has ls 7 [(0, .ref (B.2.1 1)), (3, .long v3), (5, .int v5)] → pj_W K H lo 82 ls []) (v3 : Int64) (v5 : Int32) (z : pj_S) (H : Heap) (lo : List Loc) (ls : Array Slot) (h : Whole_passHour_106 s82 v3 v5 z = some (r0, z0)) (P : pj_P B A K z H lo) (hl : lv_has ls 7 [(0, .ref (B.2.1 1)), (3, .long v3), (5, .int v5)]) : pj_W K H lo 106 ls [] := by
  unfold Whole_passHour_106 at h
  refine pj_iinc (v := (nI 1)) [(0, .ref (B.2.1 1)), (3, .long v3)] C h rfl dd_Whole_passHour_106 hl 2 rfl (by decide) rfl (fun x1 ls h hl => ?_)
  refine pj_goto C dd_Whole_passHour_109 ?_
  exact k82 _ _ _ _ _ _ h P (lv_sub hl [1, 2, 0] rfl)
set_option maxHeartbeats 4000000 in
set_option maxRecDepth 100000 in
theorem bt_Whole_passHour_112 {B : pj_B} {A : Nat → Prop} {K : pj_K} {r0 : Int32} {z0 : pj_S} (hB : B.2.2.2.1 = pj_LC) (C : pj_C B A K cX8_passHour 7 RX8 6) (Q : pj_Qi B A K (some .int) r0 z0)  (v3 : Int64) (z : pj_S) (H : Heap) (lo : List Loc) (ls : Array Slot) (h : Whole_passHour_112 v3 z = some (r0, z0)) (P : pj_P B A K z H lo) (hl : lv_has ls 7 [(0, .ref (B.2.1 1)), (3, .long v3)]) : pj_W K H lo 112 ls [] := by
  unfold Whole_passHour_112 at h
  refine pj_aload_n C dd_Whole_passHour_112 rfl hl 0 rfl ?_
  refine pj_dup C dd_Whole_passHour_113 rfl ?_
  refine pj_getI C P 1 (LC1 hB) rfl fl_Whole_51 dd_Whole_passHour_114 ?_
  refine pj_iconst (v := (nI 1)) C dd_Whole_passHour_117 rfl ?_
  refine pj_iadd C dd_Whole_passHour_118 ?_
  refine pj_putI C P 1 (LC1 hB) rfl fl_Whole_51 rfl fy_8_4 h dd_Whole_passHour_119 (fun H lo z1 h P => ?_)
  refine pj_lload_n C dd_Whole_passHour_122 rfl hl 1 rfl ?_
  obtain ⟨r4, z3, e2, h⟩ := pj_cE h
  refine pj_cSi (st := []) [.long v3] C P (ct_JLong_bitCount hB e2) cl_Whole_128 rfl (by decide) (by decide) hl.1 (Nat.le_of_ble_eq_true rfl) dd_Whole_passHour_123 (fun H lo P => ?_)
  exact pj_iret C Q P h dd_Whole_passHour_126
set_option maxHeartbeats 4000000 in
set_option maxRecDepth 100000 in
theorem bt_Whole_passHour_82 {B : pj_B} {A : Nat → Prop} {K : pj_K} {r0 : Int32} {z0 : pj_S} (hB : B.2.2.2.1 = pj_LC) (C : pj_C B A K cX8_passHour 7 RX8 6) (Q : pj_Qi B A K (some .int) r0 z0) (s82 : Int64 → Int32 → pj_S → Option (Int32 × pj_S)) (k82 : ∀ (v3 : Int64) (v5 : Int32) (z : pj_S) (H : Heap) (lo : List Loc) (ls : Array Slot), s82 v3 v5 z = some (r0, z0) → pj_P B A K z H lo → lv_has ls 7 [(0, .ref (B.2.1 1)), (3, .long v3), (5, .int v5)] → pj_W K H lo 82 ls []) (v3 : Int64) (v5 : Int32) (z : pj_S) (H : Heap) (lo : List Loc) (ls : Array Slot) (h : Whole_passHour_82 s82 v3 v5 z = some (r0, z0)) (P : pj_P B A K z H lo) (hl : lv_has ls 7 [(0, .ref (B.2.1 1)), (3, .long v3), (5, .int v5)]) : pj_W K H lo 82 ls [] := by
  unfold Whole_passHour_82 at h
  refine pj_iload C dd_Whole_passHour_82 hl 2 rfl ?_
  refine pj_bipush (v := (nI 48)) C dd_Whole_passHour_84 rfl ?_
  refine pj_ic_ge C h dd_Whole_passHour_86 (fun h => ?_) (fun h => ?_)
  · exact bt_Whole_passHour_112 hB C Q _ _ _ _ _ h P (lv_sub hl [0, 1] rfl)
  · refine pj_lload_n C dd_Whole_passHour_89 rfl hl 1 rfl ?_
    refine pj_iload C dd_Whole_passHour_90 hl 2 rfl ?_
    obtain ⟨r3, z2, e1, h⟩ := pj_cE h
    refine pj_cNi (st := []) [.long v3, .int v5] C P (ct_PJ_bitOf hB e1) cl_Whole_116 rfl (by decide) (by decide) hl.1 (Nat.le_of_ble_eq_true rfl) dd_Whole_passHour_92 (fun H lo P => ?_)
    refine pj_iconst (v := (nI 1)) C dd_Whole_passHour_95 rfl ?_
    refine pj_ic_ne C h dd_Whole_passHour_96 (fun h => ?_) (fun h => ?_)
    · exact bt_Whole_passHour_106 hB C Q s82 k82 _ _ _ _ _ _ h P (lv_sub hl [0, 1, 2] rfl)
    · refine pj_aload_n C dd_Whole_passHour_99 rfl hl 0 rfl ?_
      refine pj_iload C dd_Whole_passHour_100 hl 2 rfl ?_
      refine pj_iconst (v := (nI 1)) C dd_Whole_passHour_102 rfl ?_
      obtain ⟨r6, z5, e4, h⟩ := pj_cE h
      refine pj_cVv (st := []) [.int v5, .int (nI 1)] C P 1 (LC1 hB) rfl (ct_Whole_letGo hB e4) cl_Whole_97 rfl (by decide) (by decide) hl.1 (Nat.le_of_ble_eq_true rfl) dd_Whole_passHour_103 (fun H lo P => ?_)
      exact bt_Whole_passHour_106 hB C Q s82 k82 _ _ _ _ _ _ h P (lv_sub hl [0, 1, 2] rfl)
theorem lt_Whole_passHour_82 {B : pj_B} {A : Nat → Prop} {K : pj_K} {r0 : Int32} {z0 : pj_S} (hB : B.2.2.2.1 = pj_LC) (C : pj_C B A K cX8_passHour 7 RX8 6) (Q : pj_Qi B A K (some .int) r0 z0)  : ∀ (n : Nat) (v3 : Int64) (v5 : Int32) (z : pj_S) (H : Heap) (lo : List Loc) (ls : Array Slot), pj_lp2 Whole_passHour_82 n v3 v5 z = some (r0, z0) → pj_P B A K z H lo → lv_has ls 7 [(0, .ref (B.2.1 1)), (3, .long v3), (5, .int v5)] → pj_W K H lo 82 ls [] := by
  intro n
  induction n with
  | zero => intro v3 v5 z H lo ls h; rw [pj_lp2_0] at h; cases h
  | succ n ih =>
    intro v3 v5 z H lo ls h P hl
    rw [pj_lp2_s] at h
    exact bt_Whole_passHour_82 hB C Q   (pj_lp2 Whole_passHour_82 n) ih v3 v5 z H lo ls h P hl
set_option maxHeartbeats 4000000 in
set_option maxRecDepth 100000 in
theorem bt_Whole_passHour_79 {B : pj_B} {A : Nat → Prop} {K : pj_K} {r0 : Int32} {z0 : pj_S} (hB : B.2.2.2.1 = pj_LC) (C : pj_C B A K cX8_passHour 7 RX8 6) (Q : pj_Qi B A K (some .int) r0 z0)  (v3 : Int64) (z : pj_S) (H : Heap) (lo : List Loc) (ls : Array Slot) (h : Whole_passHour_79 v3 z = some (r0, z0)) (P : pj_P B A K z H lo) (hl : lv_has ls 7 [(0, .ref (B.2.1 1)), (3, .long v3)]) : pj_W K H lo 79 ls [] := by
  unfold Whole_passHour_79 at h
  refine pj_iconst (v := (nI 0)) C dd_Whole_passHour_79 rfl ?_
  refine pj_istore [(5, .int (nI 0)), (0, .ref (B.2.1 1)), (3, .long v3)] C dd_Whole_passHour_80 hl (by decide) rfl (fun ls hl => ?_)
  exact lt_Whole_passHour_82 hB C Q 4000 _ _ _ _ _ _ h P (lv_sub hl [1, 2, 0] rfl)
set_option maxHeartbeats 4000000 in
set_option maxRecDepth 100000 in
theorem bt_Whole_passHour_13 {B : pj_B} {A : Nat → Prop} {K : pj_K} {r0 : Int32} {z0 : pj_S} (hB : B.2.2.2.1 = pj_LC) (C : pj_C B A K cX8_passHour 7 RX8 6) (Q : pj_Qi B A K (some .int) r0 z0) (s13 : Int64 → Int64 → Int32 → pj_S → Option (Int32 × pj_S)) (k13 : ∀ (v1 : Int64) (v3 : Int64) (v5 : Int32) (z : pj_S) (H : Heap) (lo : List Loc) (ls : Array Slot), s13 v1 v3 v5 z = some (r0, z0) → pj_P B A K z H lo → lv_has ls 7 [(0, .ref (B.2.1 1)), (1, .long v1), (3, .long v3), (5, .int v5)] → pj_W K H lo 13 ls []) (v1 : Int64) (v3 : Int64) (v5 : Int32) (z : pj_S) (H : Heap) (lo : List Loc) (ls : Array Slot) (h : Whole_passHour_13 s13 v1 v3 v5 z = some (r0, z0)) (P : pj_P B A K z H lo) (hl : lv_has ls 7 [(0, .ref (B.2.1 1)), (1, .long v1), (3, .long v3), (5, .int v5)]) : pj_W K H lo 13 ls [] := by
  unfold Whole_passHour_13 at h
  refine pj_iload C dd_Whole_passHour_13 hl 3 rfl ?_
  refine pj_bipush (v := (nI 48)) C dd_Whole_passHour_15 rfl ?_
  refine pj_ic_ge C h dd_Whole_passHour_17 (fun h => ?_) (fun h => ?_)
  · exact bt_Whole_passHour_79 hB C Q _ _ _ _ _ h P (lv_sub hl [0, 2] rfl)
  · refine pj_lload_n C dd_Whole_passHour_20 rfl hl 1 rfl ?_
    refine pj_iload C dd_Whole_passHour_21 hl 3 rfl ?_
    obtain ⟨r3, z2, e1, h⟩ := pj_cE h
    refine pj_cNi (st := []) [.long v1, .int v5] C P (ct_PJ_bitOf hB e1) cl_Whole_116 rfl (by decide) (by decide) hl.1 (Nat.le_of_ble_eq_true rfl) dd_Whole_passHour_23 (fun H lo P => ?_)
    refine pj_iconst (v := (nI 1)) C dd_Whole_passHour_26 rfl ?_
    refine pj_ic_ne C h dd_Whole_passHour_27 (fun h => ?_) (fun h => ?_)
    · exact bt_Whole_passHour_73 hB C Q s13 k13 _ _ _ _ _ _ _ h P (lv_sub hl [0, 1, 2, 3] rfl)
    · refine pj_aload_n C dd_Whole_passHour_30 rfl hl 0 rfl ?_
      refine pj_getR C P 1 (LC1 hB) rfl fl_Whole_21 dd_Whole_passHour_31 ?_
      refine pj_aload_n C dd_Whole_passHour_34 rfl hl 0 rfl ?_
      refine pj_getR C P 1 (LC1 hB) rfl fl_Whole_12 dd_Whole_passHour_35 ?_
      refine pj_aload_n C dd_Whole_passHour_38 rfl hl 0 rfl ?_
      refine pj_getI C P 1 (LC1 hB) rfl fl_Whole_51 dd_Whole_passHour_39 ?_
      refine pj_iload C dd_Whole_passHour_42 hl 3 rfl ?_
      obtain ⟨r6, z5, e4, h⟩ := pj_cE h
      refine pj_cVi (st := []) [.ref (B.2.1 8), .int (z2.1 1 4), .int v5] C P 9 (LC9 hB) rfl (ct_Law_oddsOf hB e4) cl_Whole_120 rfl (by decide) (by decide) hl.1 (Nat.le_of_ble_eq_true rfl) dd_Whole_passHour_44 (fun H lo P => ?_)
      refine pj_istore [(6, .int r6), (0, .ref (B.2.1 1)), (1, .long v1), (3, .long v3), (5, .int v5)] C dd_Whole_passHour_47 hl (by decide) rfl (fun ls hl => ?_)
      refine pj_iload C dd_Whole_passHour_49 hl 0 rfl ?_
      refine pj_if_le C h dd_Whole_passHour_51 (fun h => ?_) (fun h => ?_)
      · exact bt_Whole_passHour_73 hB C Q s13 k13 _ _ _ _ _ _ _ h P (lv_sub hl [1, 2, 3, 4] rfl)
      · refine pj_aload_n C dd_Whole_passHour_54 rfl hl 1 rfl ?_
        refine pj_sipush (v := (nI 1000)) C dd_Whole_passHour_55 rfl ?_
        obtain ⟨r9, z8, e7, h⟩ := pj_cE h
        refine pj_cVi (st := []) [.int (nI 1000)] C P 1 (LC1 hB) rfl (ct_Whole_draw hB e7) cl_Whole_124 rfl (by decide) (by decide) hl.1 (Nat.le_of_ble_eq_true rfl) dd_Whole_passHour_58 (fun H lo P => ?_)
        refine pj_iload C dd_Whole_passHour_61 hl 0 rfl ?_
        refine pj_ic_ge C h dd_Whole_passHour_63 (fun h => ?_) (fun h => ?_)
        · exact bt_Whole_passHour_73 hB C Q s13 k13 _ _ _ _ _ _ _ h P (lv_sub hl [1, 2, 3, 4] rfl)
        · refine pj_lload_n C dd_Whole_passHour_66 rfl hl 3 rfl ?_
          refine pj_lconst (v := (1 : Int64)) C dd_Whole_passHour_67 rfl ?_
          refine pj_iload C dd_Whole_passHour_68 hl 4 rfl ?_
          refine pj_lshl C dd_Whole_passHour_70 ?_
          refine pj_lor C dd_Whole_passHour_71 ?_
          refine pj_lstb_n [(6, .int r6), (0, .ref (B.2.1 1)), (1, .long v1), (5, .int v5)] C h dd_Whole_passHour_72 rfl hl (by decide) rfl (fun x10 ls h hl => ?_)
          exact bt_Whole_passHour_73 hB C Q s13 k13 _ _ _ _ _ _ _ h P (lv_sub hl [2, 3, 0, 4] rfl)
theorem lt_Whole_passHour_13 {B : pj_B} {A : Nat → Prop} {K : pj_K} {r0 : Int32} {z0 : pj_S} (hB : B.2.2.2.1 = pj_LC) (C : pj_C B A K cX8_passHour 7 RX8 6) (Q : pj_Qi B A K (some .int) r0 z0)  : ∀ (n : Nat) (v1 : Int64) (v3 : Int64) (v5 : Int32) (z : pj_S) (H : Heap) (lo : List Loc) (ls : Array Slot), pj_lp3 Whole_passHour_13 n v1 v3 v5 z = some (r0, z0) → pj_P B A K z H lo → lv_has ls 7 [(0, .ref (B.2.1 1)), (1, .long v1), (3, .long v3), (5, .int v5)] → pj_W K H lo 13 ls [] := by
  intro n
  induction n with
  | zero => intro v1 v3 v5 z H lo ls h; rw [pj_lp3_0] at h; cases h
  | succ n ih =>
    intro v1 v3 v5 z H lo ls h P hl
    rw [pj_lp3_s] at h
    exact bt_Whole_passHour_13 hB C Q   (pj_lp3 Whole_passHour_13 n) ih v1 v3 v5 z H lo ls h P hl
set_option maxHeartbeats 4000000 in
set_option maxRecDepth 100000 in
theorem ct_Whole_passHour {l : Launch} {B : pj_B} (hB : B.2.2.2.1 = pj_LC)  {z : pj_S} {r0 : Int32} {z0 : pj_S} (h : Whole_passHour z = some (r0, z0)) : pj_Mi l yX8_passHour cX8_passHour 7 (some .int) 6 [.ref (B.2.1 1)] B z r0 z0 := by
  refine pj_meti (own := RX8) (by decide +kernel) rfl (Nat.le_of_ble_eq_true rfl) ?_
  intro A K hK C Q H lo ls P hl
  have hl : lv_has ls 7 [(0, .ref (B.2.1 1))] := hl
  unfold Whole_passHour at h
  refine pj_aload_n C dd_Whole_passHour_0 rfl hl 0 rfl ?_
  refine pj_getR C P 1 (LC1 hB) rfl fl_Whole_12 dd_Whole_passHour_1 ?_
  obtain ⟨r3, z2, e1, h⟩ := pj_cE h
  refine pj_cVl (st := []) [] C P 8 (LC8 hB) rfl (ct_Fabric_loose hB e1) cl_Whole_112 rfl (by decide) (by decide) hl.1 (Nat.le_of_ble_eq_true rfl) dd_Whole_passHour_4 (fun H lo P => ?_)
  refine pj_lstore_n [(1, .long r3), (0, .ref (B.2.1 1))] C dd_Whole_passHour_7 rfl hl (by decide) rfl (fun ls hl => ?_)
  refine pj_lconst (v := (0 : Int64)) C dd_Whole_passHour_8 rfl ?_
  refine pj_lstore_n [(3, .long (0 : Int64)), (1, .long r3), (0, .ref (B.2.1 1))] C dd_Whole_passHour_9 rfl hl (by decide) rfl (fun ls hl => ?_)
  refine pj_iconst (v := (nI 0)) C dd_Whole_passHour_10 rfl ?_
  refine pj_istore [(5, .int (nI 0)), (3, .long (0 : Int64)), (1, .long r3), (0, .ref (B.2.1 1))] C dd_Whole_passHour_11 hl (by decide) rfl (fun ls hl => ?_)
  exact lt_Whole_passHour_13 hB C Q 4000 _ _ _ _ _ _ _ h P (lv_sub hl [3, 2, 1, 0] rfl)
theorem dd_PJ_hours_0 : pj_d cX10_hours 0 (.iload_n 1) 1 1 := ⟨by decide +kernel, rfl⟩
theorem dd_PJ_hours_1 : pj_d cX10_hours 1 (.iconst 1) 1 2 := ⟨by decide +kernel, rfl⟩
theorem dd_PJ_hours_2 : pj_dj cX10_hours 2 (.if_icmp .lt 24) 24 5 26 := ⟨by decide +kernel, rfl, by decide⟩
theorem dd_PJ_hours_5 : pj_d cX10_hours 5 (.iload_n 1) 1 6 := ⟨by decide +kernel, rfl⟩
theorem dd_PJ_hours_6 : pj_d cX10_hours 6 (.bipush 100) 2 8 := ⟨by decide +kernel, rfl⟩
theorem dd_PJ_hours_8 : pj_dj cX10_hours 8 (.if_icmp .gt 18) 18 11 26 := ⟨by decide +kernel, rfl, by decide⟩
theorem dd_PJ_hours_11 : pj_d cX10_hours 11 (.aload_n 0) 1 12 := ⟨by decide +kernel, rfl⟩
theorem dd_PJ_hours_12 : pj_d cX10_hours 12 (.getfield 10) 3 15 := ⟨by decide +kernel, rfl⟩
theorem dd_PJ_hours_15 : pj_d cX10_hours 15 (.getfield 111) 3 18 := ⟨by decide +kernel, rfl⟩
theorem dd_PJ_hours_18 : pj_d cX10_hours 18 (.iload_n 1) 1 19 := ⟨by decide +kernel, rfl⟩
theorem dd_PJ_hours_19 : pj_d cX10_hours 19 (.iadd) 1 20 := ⟨by decide +kernel, rfl⟩
theorem dd_PJ_hours_20 : pj_d cX10_hours 20 (.sipush 9999) 3 23 := ⟨by decide +kernel, rfl⟩
theorem dd_PJ_hours_23 : pj_dj cX10_hours 23 (.if_icmp .le 5) 5 26 28 := ⟨by decide +kernel, rfl, by decide⟩
theorem dd_PJ_hours_26 : pj_d cX10_hours 26 (.iconst (-1)) 1 27 := ⟨by decide +kernel, rfl⟩
theorem dd_PJ_hours_27 : pj_d cX10_hours 27 (.ireturn) 1 28 := ⟨by decide +kernel, rfl⟩
theorem dd_PJ_hours_28 : pj_d cX10_hours 28 (.iconst 0) 1 29 := ⟨by decide +kernel, rfl⟩
theorem dd_PJ_hours_29 : pj_d cX10_hours 29 (.istore_n 2) 1 30 := ⟨by decide +kernel, rfl⟩
theorem dd_PJ_hours_30 : pj_d cX10_hours 30 (.iconst 0) 1 31 := ⟨by decide +kernel, rfl⟩
theorem dd_PJ_hours_31 : pj_d cX10_hours 31 (.istore_n 3) 1 32 := ⟨by decide +kernel, rfl⟩
theorem dd_PJ_hours_32 : pj_d cX10_hours 32 (.iload_n 3) 1 33 := ⟨by decide +kernel, rfl⟩
theorem dd_PJ_hours_33 : pj_d cX10_hours 33 (.iload_n 1) 1 34 := ⟨by decide +kernel, rfl⟩
theorem dd_PJ_hours_34 : pj_dj cX10_hours 34 (.if_icmp .ge 30) 30 37 64 := ⟨by decide +kernel, rfl, by decide⟩
theorem dd_PJ_hours_37 : pj_d cX10_hours 37 (.aload_n 0) 1 38 := ⟨by decide +kernel, rfl⟩
theorem dd_PJ_hours_38 : pj_d cX10_hours 38 (.getfield 22) 3 41 := ⟨by decide +kernel, rfl⟩
theorem dd_PJ_hours_41 : pj_d cX10_hours 41 (.aload_n 0) 1 42 := ⟨by decide +kernel, rfl⟩
theorem dd_PJ_hours_42 : pj_d cX10_hours 42 (.getfield 10) 3 45 := ⟨by decide +kernel, rfl⟩
theorem dd_PJ_hours_45 : pj_d cX10_hours 45 (.invokevirtual 82) 3 48 := ⟨by decide +kernel, rfl⟩
theorem dd_PJ_hours_48 : pj_d cX10_hours 48 (.iload_n 2) 1 49 := ⟨by decide +kernel, rfl⟩
theorem dd_PJ_hours_49 : pj_d cX10_hours 49 (.aload_n 0) 1 50 := ⟨by decide +kernel, rfl⟩
theorem dd_PJ_hours_50 : pj_d cX10_hours 50 (.getfield 10) 3 53 := ⟨by decide +kernel, rfl⟩
theorem dd_PJ_hours_53 : pj_d cX10_hours 53 (.invokevirtual 114) 3 56 := ⟨by decide +kernel, rfl⟩
theorem dd_PJ_hours_56 : pj_d cX10_hours 56 (.iadd) 1 57 := ⟨by decide +kernel, rfl⟩
theorem dd_PJ_hours_57 : pj_d cX10_hours 57 (.istore_n 2) 1 58 := ⟨by decide +kernel, rfl⟩
theorem dd_PJ_hours_58 : pj_d cX10_hours 58 (.iinc 3 1) 3 61 := ⟨by decide +kernel, rfl⟩
theorem dd_PJ_hours_61 : pj_dj cX10_hours 61 (.goto (-29)) (-29) 64 32 := ⟨by decide +kernel, rfl, by decide⟩
theorem dd_PJ_hours_64 : pj_d cX10_hours 64 (.iload_n 2) 1 65 := ⟨by decide +kernel, rfl⟩
theorem dd_PJ_hours_65 : pj_d cX10_hours 65 (.ireturn) 1 66 := ⟨by decide +kernel, rfl⟩
set_option maxHeartbeats 4000000 in
set_option maxRecDepth 100000 in
theorem bt_PJ_hours_32 {B : pj_B} {A : Nat → Prop} {K : pj_K} {r0 : Int32} {z0 : pj_S} (hB : B.2.2.2.1 = pj_LC) (C : pj_C B A K cX10_hours 4 RX10 7) (Q : pj_Qi B A K (some .int) r0 z0) (s32 : Int32 → Int32 → Int32 → pj_S → Option (Int32 × pj_S)) (k32 : ∀ (v1 : Int32) (v2 : Int32) (v3 : Int32) (z : pj_S) (H : Heap) (lo : List Loc) (ls : Array Slot), s32 v1 v2 v3 z = some (r0, z0) → pj_P B A K z H lo → lv_has ls 4 [(0, .ref (B.2.1 0)), (1, .int v1), (2, .int v2), (3, .int v3)] → pj_W K H lo 32 ls []) (v1 : Int32) (v2 : Int32) (v3 : Int32) (z : pj_S) (H : Heap) (lo : List Loc) (ls : Array Slot) (h : PJ_hours_32 s32 v1 v2 v3 z = some (r0, z0)) (P : pj_P B A K z H lo) (hl : lv_has ls 4 [(0, .ref (B.2.1 0)), (1, .int v1), (2, .int v2), (3, .int v3)]) : pj_W K H lo 32 ls [] := by
  unfold PJ_hours_32 at h
  refine pj_iload_n C dd_PJ_hours_32 rfl hl 3 rfl ?_
  refine pj_iload_n C dd_PJ_hours_33 rfl hl 1 rfl ?_
  refine pj_ic_ge C h dd_PJ_hours_34 (fun h => ?_) (fun h => ?_)
  · refine pj_iload_n C dd_PJ_hours_64 rfl hl 2 rfl ?_
    exact pj_iret C Q P h dd_PJ_hours_65
  · refine pj_aload_n C dd_PJ_hours_37 rfl hl 0 rfl ?_
    refine pj_getR C P 0 (LC0 hB) rfl fl_PJ_22 dd_PJ_hours_38 ?_
    refine pj_aload_n C dd_PJ_hours_41 rfl hl 0 rfl ?_
    refine pj_getR C P 0 (LC0 hB) rfl fl_PJ_10 dd_PJ_hours_42 ?_
    obtain ⟨r3, z2, e1, h⟩ := pj_cE h
    refine pj_cVv (st := []) [.ref (B.2.1 1)] C P 3 (LC3 hB) rfl (ct_Past_keep hB e1) cl_PJ_82 rfl (by decide) (by decide) hl.1 (Nat.le_of_ble_eq_true rfl) dd_PJ_hours_45 (fun H lo P => ?_)
    refine pj_iload_n C dd_PJ_hours_48 rfl hl 2 rfl ?_
    refine pj_aload_n C dd_PJ_hours_49 rfl hl 0 rfl ?_
    refine pj_getR C P 0 (LC0 hB) rfl fl_PJ_10 dd_PJ_hours_50 ?_
    obtain ⟨r6, z5, e4, h⟩ := pj_cE h
    refine pj_cVi (st := [.int v2]) [] C P 1 (LC1 hB) rfl (ct_Whole_passHour hB e4) cl_PJ_114 rfl (by decide) (by decide) hl.1 (Nat.le_of_ble_eq_true rfl) dd_PJ_hours_53 (fun H lo P => ?_)
    refine pj_iadd C dd_PJ_hours_56 ?_
    refine pj_istb_n [(0, .ref (B.2.1 0)), (1, .int v1), (3, .int v3)] C h dd_PJ_hours_57 rfl hl (by decide) rfl (fun x7 ls h hl => ?_)
    refine pj_iinc (v := (nI 1)) [(2, .int x7), (0, .ref (B.2.1 0)), (1, .int v1)] C h rfl dd_PJ_hours_58 hl 3 rfl (by decide) rfl (fun x8 ls h hl => ?_)
    refine pj_goto C dd_PJ_hours_61 ?_
    exact k32 _ _ _ _ _ _ _ h P (lv_sub hl [2, 3, 1, 0] rfl)
theorem lt_PJ_hours_32 {B : pj_B} {A : Nat → Prop} {K : pj_K} {r0 : Int32} {z0 : pj_S} (hB : B.2.2.2.1 = pj_LC) (C : pj_C B A K cX10_hours 4 RX10 7) (Q : pj_Qi B A K (some .int) r0 z0)  : ∀ (n : Nat) (v1 : Int32) (v2 : Int32) (v3 : Int32) (z : pj_S) (H : Heap) (lo : List Loc) (ls : Array Slot), pj_lp3 PJ_hours_32 n v1 v2 v3 z = some (r0, z0) → pj_P B A K z H lo → lv_has ls 4 [(0, .ref (B.2.1 0)), (1, .int v1), (2, .int v2), (3, .int v3)] → pj_W K H lo 32 ls [] := by
  intro n
  induction n with
  | zero => intro v1 v2 v3 z H lo ls h; rw [pj_lp3_0] at h; cases h
  | succ n ih =>
    intro v1 v2 v3 z H lo ls h P hl
    rw [pj_lp3_s] at h
    exact bt_PJ_hours_32 hB C Q   (pj_lp3 PJ_hours_32 n) ih v1 v2 v3 z H lo ls h P hl
set_option maxHeartbeats 4000000 in
set_option maxRecDepth 100000 in
theorem ct_PJ_hours {l : Launch} {B : pj_B} (hB : B.2.2.2.1 = pj_LC) {v1 : Int32} {z : pj_S} {r0 : Int32} {z0 : pj_S} (h : PJ_hours v1 z = some (r0, z0)) : pj_Mi l yX10_hours cX10_hours 4 (some .int) 7 [.ref (B.2.1 0), .int v1] B z r0 z0 := by
  refine pj_meti (own := RX10) (by decide +kernel) rfl (Nat.le_of_ble_eq_true rfl) ?_
  intro A K hK C Q H lo ls P hl
  have hl : lv_has ls 4 [(0, .ref (B.2.1 0)), (1, .int v1)] := hl
  unfold PJ_hours at h
  refine pj_iload_n C dd_PJ_hours_0 rfl hl 1 rfl ?_
  refine pj_iconst (v := (nI 1)) C dd_PJ_hours_1 rfl ?_
  refine pj_ic_lt C h dd_PJ_hours_2 (fun h => ?_) (fun h => ?_)
  · refine pj_iconst (v := (-1 : Int32)) C dd_PJ_hours_26 rfl ?_
    exact pj_iret C Q P h dd_PJ_hours_27
  · refine pj_iload_n C dd_PJ_hours_5 rfl hl 1 rfl ?_
    refine pj_bipush (v := (nI 100)) C dd_PJ_hours_6 rfl ?_
    refine pj_ic_gt C h dd_PJ_hours_8 (fun h => ?_) (fun h => ?_)
    · refine pj_iconst (v := (-1 : Int32)) C dd_PJ_hours_26 rfl ?_
      exact pj_iret C Q P h dd_PJ_hours_27
    · refine pj_aload_n C dd_PJ_hours_11 rfl hl 0 rfl ?_
      refine pj_getR C P 0 (LC0 hB) rfl fl_PJ_10 dd_PJ_hours_12 ?_
      refine pj_getI C P 1 (LC1 hB) rfl fl_PJ_111 dd_PJ_hours_15 ?_
      refine pj_iload_n C dd_PJ_hours_18 rfl hl 1 rfl ?_
      refine pj_iadd C dd_PJ_hours_19 ?_
      refine pj_sipush (v := (nI 9999)) C dd_PJ_hours_20 rfl ?_
      refine pj_ic_le C h dd_PJ_hours_23 (fun h => ?_) (fun h => ?_)
      · refine pj_iconst (v := (nI 0)) C dd_PJ_hours_28 rfl ?_
        refine pj_istore_n [(2, .int (nI 0)), (0, .ref (B.2.1 0)), (1, .int v1)] C dd_PJ_hours_29 rfl hl (by decide) rfl (fun ls hl => ?_)
        refine pj_iconst (v := (nI 0)) C dd_PJ_hours_30 rfl ?_
        refine pj_istore_n [(3, .int (nI 0)), (2, .int (nI 0)), (0, .ref (B.2.1 0)), (1, .int v1)] C dd_PJ_hours_31 rfl hl (by decide) rfl (fun ls hl => ?_)
        exact lt_PJ_hours_32 hB C Q 4000 _ _ _ _ _ _ _ h P (lv_sub hl [2, 3, 1, 0] rfl)
      · refine pj_iconst (v := (-1 : Int32)) C dd_PJ_hours_26 rfl ?_
        exact pj_iret C Q P h dd_PJ_hours_27
theorem dd_Tape_hasRoom_0 : pj_d cX7_hasRoom 0 (.aload_n 0) 1 1 := ⟨by decide +kernel, rfl⟩
theorem dd_Tape_hasRoom_1 : pj_d cX7_hasRoom 1 (.getfield 15) 3 4 := ⟨by decide +kernel, rfl⟩
theorem dd_Tape_hasRoom_4 : pj_d cX7_hasRoom 4 (.bipush 20) 2 6 := ⟨by decide +kernel, rfl⟩
theorem dd_Tape_hasRoom_6 : pj_d cX7_hasRoom 6 (.iadd) 1 7 := ⟨by decide +kernel, rfl⟩
theorem dd_Tape_hasRoom_7 : pj_d cX7_hasRoom 7 (.sipush 400) 3 10 := ⟨by decide +kernel, rfl⟩
theorem dd_Tape_hasRoom_10 : pj_dj cX7_hasRoom 10 (.if_icmp .gt 7) 7 13 17 := ⟨by decide +kernel, rfl, by decide⟩
theorem dd_Tape_hasRoom_13 : pj_d cX7_hasRoom 13 (.iconst 1) 1 14 := ⟨by decide +kernel, rfl⟩
theorem dd_Tape_hasRoom_14 : pj_dj cX7_hasRoom 14 (.goto 4) 4 17 18 := ⟨by decide +kernel, rfl, by decide⟩
theorem dd_Tape_hasRoom_17 : pj_d cX7_hasRoom 17 (.iconst 0) 1 18 := ⟨by decide +kernel, rfl⟩
theorem dd_Tape_hasRoom_18 : pj_d cX7_hasRoom 18 (.ireturn) 1 19 := ⟨by decide +kernel, rfl⟩
set_option maxHeartbeats 4000000 in
set_option maxRecDepth 100000 in
theorem ct_Tape_hasRoom {l : Launch} {B : pj_B} (hB : B.2.2.2.1 = pj_LC)  {z : pj_S} {r0 : Int32} {z0 : pj_S} (h : Tape_hasRoom z = some (r0, z0)) : pj_Mi l yX7_hasRoom cX7_hasRoom 1 (some .boolean) 1 [.ref (B.2.1 4)] B z r0 z0 := by
  refine pj_meti (own := RX7) (by decide +kernel) rfl (Nat.le_of_ble_eq_true rfl) ?_
  intro A K hK C Q H lo ls P hl
  have hl : lv_has ls 1 [(0, .ref (B.2.1 4))] := hl
  unfold Tape_hasRoom at h
  refine pj_aload_n C dd_Tape_hasRoom_0 rfl hl 0 rfl ?_
  refine pj_getI C P 4 (LC4 hB) rfl fl_Tape_15 dd_Tape_hasRoom_1 ?_
  refine pj_bipush (v := (nI 20)) C dd_Tape_hasRoom_4 rfl ?_
  refine pj_iadd C dd_Tape_hasRoom_6 ?_
  refine pj_sipush (v := (nI 400)) C dd_Tape_hasRoom_7 rfl ?_
  refine pj_ic_gt C h dd_Tape_hasRoom_10 (fun h => ?_) (fun h => ?_)
  · refine pj_iconst (v := (nI 0)) C dd_Tape_hasRoom_17 rfl ?_
    exact pj_zret C Q P h dd_Tape_hasRoom_18
  · refine pj_iconst (v := (nI 1)) C dd_Tape_hasRoom_13 rfl ?_
    refine pj_goto C dd_Tape_hasRoom_14 ?_
    exact pj_zret C Q P h dd_Tape_hasRoom_18
theorem dd_Tape_add_0 : pj_d cX7_add 0 (.bipush 24) 2 2 := ⟨by decide +kernel, rfl⟩
theorem dd_Tape_add_2 : pj_d cX7_add 2 (.istore_n 2) 1 3 := ⟨by decide +kernel, rfl⟩
theorem dd_Tape_add_3 : pj_d cX7_add 3 (.iload_n 2) 1 4 := ⟨by decide +kernel, rfl⟩
theorem dd_Tape_add_4 : pj_dj cX7_add 4 (.ifCond .lt 51) 51 7 55 := ⟨by decide +kernel, rfl, by decide⟩
theorem dd_Tape_add_7 : pj_d cX7_add 7 (.aload_n 0) 1 8 := ⟨by decide +kernel, rfl⟩
theorem dd_Tape_add_8 : pj_d cX7_add 8 (.getfield 15) 3 11 := ⟨by decide +kernel, rfl⟩
theorem dd_Tape_add_11 : pj_dj cX7_add 11 (.ifCond .lt 38) 38 14 49 := ⟨by decide +kernel, rfl, by decide⟩
theorem dd_Tape_add_14 : pj_d cX7_add 14 (.aload_n 0) 1 15 := ⟨by decide +kernel, rfl⟩
theorem dd_Tape_add_15 : pj_d cX7_add 15 (.getfield 15) 3 18 := ⟨by decide +kernel, rfl⟩
theorem dd_Tape_add_18 : pj_d cX7_add 18 (.aload_n 0) 1 19 := ⟨by decide +kernel, rfl⟩
theorem dd_Tape_add_19 : pj_d cX7_add 19 (.getfield 9) 3 22 := ⟨by decide +kernel, rfl⟩
theorem dd_Tape_add_22 : pj_d cX7_add 22 (.arraylength) 1 23 := ⟨by decide +kernel, rfl⟩
theorem dd_Tape_add_23 : pj_dj cX7_add 23 (.if_icmp .ge 26) 26 26 49 := ⟨by decide +kernel, rfl, by decide⟩
theorem dd_Tape_add_26 : pj_d cX7_add 26 (.aload_n 0) 1 27 := ⟨by decide +kernel, rfl⟩
theorem dd_Tape_add_27 : pj_d cX7_add 27 (.getfield 9) 3 30 := ⟨by decide +kernel, rfl⟩
theorem dd_Tape_add_30 : pj_d cX7_add 30 (.aload_n 0) 1 31 := ⟨by decide +kernel, rfl⟩
theorem dd_Tape_add_31 : pj_d cX7_add 31 (.getfield 15) 3 34 := ⟨by decide +kernel, rfl⟩
theorem dd_Tape_add_34 : pj_d cX7_add 34 (.iload_n 1) 1 35 := ⟨by decide +kernel, rfl⟩
theorem dd_Tape_add_35 : pj_d cX7_add 35 (.iload_n 2) 1 36 := ⟨by decide +kernel, rfl⟩
theorem dd_Tape_add_36 : pj_d cX7_add 36 (.iushr) 1 37 := ⟨by decide +kernel, rfl⟩
theorem dd_Tape_add_37 : pj_d cX7_add 37 (.i2b) 1 38 := ⟨by decide +kernel, rfl⟩
theorem dd_Tape_add_38 : pj_d cX7_add 38 (.bastore) 1 39 := ⟨by decide +kernel, rfl⟩
theorem dd_Tape_add_39 : pj_d cX7_add 39 (.aload_n 0) 1 40 := ⟨by decide +kernel, rfl⟩
theorem dd_Tape_add_40 : pj_d cX7_add 40 (.dup) 1 41 := ⟨by decide +kernel, rfl⟩
theorem dd_Tape_add_41 : pj_d cX7_add 41 (.getfield 15) 3 44 := ⟨by decide +kernel, rfl⟩
theorem dd_Tape_add_44 : pj_d cX7_add 44 (.iconst 1) 1 45 := ⟨by decide +kernel, rfl⟩
theorem dd_Tape_add_45 : pj_d cX7_add 45 (.iadd) 1 46 := ⟨by decide +kernel, rfl⟩
theorem dd_Tape_add_46 : pj_d cX7_add 46 (.putfield 15) 3 49 := ⟨by decide +kernel, rfl⟩
theorem dd_Tape_add_49 : pj_d cX7_add 49 (.iinc 2 (-8)) 3 52 := ⟨by decide +kernel, rfl⟩
theorem dd_Tape_add_52 : pj_dj cX7_add 52 (.goto (-49)) (-49) 55 3 := ⟨by decide +kernel, rfl, by decide⟩
theorem dd_Tape_add_55 : pj_d cX7_add 55 (.return_) 1 56 := ⟨by decide +kernel, rfl⟩
set_option maxHeartbeats 4000000 in
set_option maxRecDepth 100000 in
theorem bt_Tape_add_49 {B : pj_B} {A : Nat → Prop} {K : pj_K} {r0 : Unit} {z0 : pj_S} (hB : B.2.2.2.1 = pj_LC) (C : pj_C B A K cX7_add 3 RX7 1) (Q : pj_Qv B A K none r0 z0) (s3 : Int32 → Int32 → pj_S → Option (Unit × pj_S)) (k3 : ∀ (v1 : Int32) (v2 : Int32) (z : pj_S) (H : Heap) (lo : List Loc) (ls : Array Slot), s3 v1 v2 z = some (r0, z0) → pj_P B A K z H lo → lv_has ls 3 [(0, .ref (B.2.1 4)), (1, .int v1), (2, .int v2)] → pj_W K H lo 3 ls []) (v1 : Int32) (v2 : Int32) (z : pj_S) (H : Heap) (lo : List Loc) (ls : Array Slot) (h : Tape_add_49 s3 v1 v2 z = some (r0, z0)) (P : pj_P B A K z H lo) (hl : lv_has ls 3 [(0, .ref (B.2.1 4)), (1, .int v1), (2, .int v2)]) : pj_W K H lo 49 ls [] := by
  unfold Tape_add_49 at h
  refine pj_iinc (v := (-8 : Int32)) [(0, .ref (B.2.1 4)), (1, .int v1)] C h rfl dd_Tape_add_49 hl 2 rfl (by decide) rfl (fun x1 ls h hl => ?_)
  refine pj_goto C dd_Tape_add_52 ?_
  exact k3 _ _ _ _ _ _ h P (lv_sub hl [1, 2, 0] rfl)
set_option maxHeartbeats 4000000 in
set_option maxRecDepth 100000 in
theorem bt_Tape_add_3 {B : pj_B} {A : Nat → Prop} {K : pj_K} {r0 : Unit} {z0 : pj_S} (hB : B.2.2.2.1 = pj_LC) (C : pj_C B A K cX7_add 3 RX7 1) (Q : pj_Qv B A K none r0 z0) (s3 : Int32 → Int32 → pj_S → Option (Unit × pj_S)) (k3 : ∀ (v1 : Int32) (v2 : Int32) (z : pj_S) (H : Heap) (lo : List Loc) (ls : Array Slot), s3 v1 v2 z = some (r0, z0) → pj_P B A K z H lo → lv_has ls 3 [(0, .ref (B.2.1 4)), (1, .int v1), (2, .int v2)] → pj_W K H lo 3 ls []) (v1 : Int32) (v2 : Int32) (z : pj_S) (H : Heap) (lo : List Loc) (ls : Array Slot) (h : Tape_add_3 s3 v1 v2 z = some (r0, z0)) (P : pj_P B A K z H lo) (hl : lv_has ls 3 [(0, .ref (B.2.1 4)), (1, .int v1), (2, .int v2)]) : pj_W K H lo 3 ls [] := by
  unfold Tape_add_3 at h
  refine pj_iload_n C dd_Tape_add_3 rfl hl 2 rfl ?_
  refine pj_if_lt C h dd_Tape_add_4 (fun h => ?_) (fun h => ?_)
  · exact pj_vret C Q P h dd_Tape_add_55
  · refine pj_aload_n C dd_Tape_add_7 rfl hl 0 rfl ?_
    refine pj_getI C P 4 (LC4 hB) rfl fl_Tape_15 dd_Tape_add_8 ?_
    refine pj_if_lt C h dd_Tape_add_11 (fun h => ?_) (fun h => ?_)
    · exact bt_Tape_add_49 hB C Q s3 k3 _ _ _ _ _ _ h P (lv_sub hl [0, 1, 2] rfl)
    · refine pj_aload_n C dd_Tape_add_14 rfl hl 0 rfl ?_
      refine pj_getI C P 4 (LC4 hB) rfl fl_Tape_15 dd_Tape_add_15 ?_
      refine pj_aload_n C dd_Tape_add_18 rfl hl 0 rfl ?_
      refine pj_getR C P 4 (LC4 hB) rfl fl_Tape_9 dd_Tape_add_19 ?_
      refine pj_alen (nI 400) C P 23 (LC23 hB) (by decide) (by decide) dd_Tape_add_22 ?_
      refine pj_ic_ge C h dd_Tape_add_23 (fun h => ?_) (fun h => ?_)
      · exact bt_Tape_add_49 hB C Q s3 k3 _ _ _ _ _ _ h P (lv_sub hl [0, 1, 2] rfl)
      · refine pj_aload_n C dd_Tape_add_26 rfl hl 0 rfl ?_
        refine pj_getR C P 4 (LC4 hB) rfl fl_Tape_9 dd_Tape_add_27 ?_
        refine pj_aload_n C dd_Tape_add_30 rfl hl 0 rfl ?_
        refine pj_getI C P 4 (LC4 hB) rfl fl_Tape_15 dd_Tape_add_31 ?_
        refine pj_iload_n C dd_Tape_add_34 rfl hl 1 rfl ?_
        refine pj_iload_n C dd_Tape_add_35 rfl hl 2 rfl ?_
        refine pj_iushr C dd_Tape_add_36 ?_
        refine pj_i2b C dd_Tape_add_37 ?_
        refine pj_bast C P 23 (LC23 hB) h dd_Tape_add_38 (fun H lo z1 h P => ?_)
        refine pj_aload_n C dd_Tape_add_39 rfl hl 0 rfl ?_
        refine pj_dup C dd_Tape_add_40 rfl ?_
        refine pj_getI C P 4 (LC4 hB) rfl fl_Tape_15 dd_Tape_add_41 ?_
        refine pj_iconst (v := (nI 1)) C dd_Tape_add_44 rfl ?_
        refine pj_iadd C dd_Tape_add_45 ?_
        refine pj_putI C P 4 (LC4 hB) rfl fl_Tape_15 rfl fy_7_1 h dd_Tape_add_46 (fun H lo z2 h P => ?_)
        exact bt_Tape_add_49 hB C Q s3 k3 _ _ _ _ _ _ h P (lv_sub hl [0, 1, 2] rfl)
theorem lt_Tape_add_3 {B : pj_B} {A : Nat → Prop} {K : pj_K} {r0 : Unit} {z0 : pj_S} (hB : B.2.2.2.1 = pj_LC) (C : pj_C B A K cX7_add 3 RX7 1) (Q : pj_Qv B A K none r0 z0)  : ∀ (n : Nat) (v1 : Int32) (v2 : Int32) (z : pj_S) (H : Heap) (lo : List Loc) (ls : Array Slot), pj_lp2 Tape_add_3 n v1 v2 z = some (r0, z0) → pj_P B A K z H lo → lv_has ls 3 [(0, .ref (B.2.1 4)), (1, .int v1), (2, .int v2)] → pj_W K H lo 3 ls [] := by
  intro n
  induction n with
  | zero => intro v1 v2 z H lo ls h; rw [pj_lp2_0] at h; cases h
  | succ n ih =>
    intro v1 v2 z H lo ls h P hl
    rw [pj_lp2_s] at h
    exact bt_Tape_add_3 hB C Q   (pj_lp2 Tape_add_3 n) ih v1 v2 z H lo ls h P hl
set_option maxHeartbeats 4000000 in
set_option maxRecDepth 100000 in
theorem ct_Tape_add {l : Launch} {B : pj_B} (hB : B.2.2.2.1 = pj_LC) {v1 : Int32} {z : pj_S} {r0 : Unit} {z0 : pj_S} (h : Tape_add v1 z = some (r0, z0)) : pj_Mv l yX7_add cX7_add 3 none 1 [.ref (B.2.1 4), .int v1] B z r0 z0 := by
  refine pj_metv (own := RX7) (by decide +kernel) rfl (Nat.le_of_ble_eq_true rfl) ?_
  intro A K hK C Q H lo ls P hl
  have hl : lv_has ls 3 [(0, .ref (B.2.1 4)), (1, .int v1)] := hl
  unfold Tape_add at h
  refine pj_bipush (v := (nI 24)) C dd_Tape_add_0 rfl ?_
  refine pj_istore_n [(2, .int (nI 24)), (0, .ref (B.2.1 4)), (1, .int v1)] C dd_Tape_add_2 rfl hl (by decide) rfl (fun ls hl => ?_)
  exact lt_Tape_add_3 hB C Q 4000 _ _ _ _ _ _ h P (lv_sub hl [1, 2, 0] rfl)
theorem dd_PJ_feed_0 : pj_d cX10_feed 0 (.aload_n 0) 1 1 := ⟨by decide +kernel, rfl⟩
theorem dd_PJ_feed_1 : pj_d cX10_feed 1 (.getfield 29) 3 4 := ⟨by decide +kernel, rfl⟩
theorem dd_PJ_feed_4 : pj_d cX10_feed 4 (.invokevirtual 118) 3 7 := ⟨by decide +kernel, rfl⟩
theorem dd_PJ_feed_7 : pj_dj cX10_feed 7 (.ifCond .ne 5) 5 10 12 := ⟨by decide +kernel, rfl, by decide⟩
theorem dd_PJ_feed_10 : pj_d cX10_feed 10 (.iconst (-1)) 1 11 := ⟨by decide +kernel, rfl⟩
theorem dd_PJ_feed_11 : pj_d cX10_feed 11 (.ireturn) 1 12 := ⟨by decide +kernel, rfl⟩
theorem dd_PJ_feed_12 : pj_d cX10_feed 12 (.aload_n 0) 1 13 := ⟨by decide +kernel, rfl⟩
theorem dd_PJ_feed_13 : pj_d cX10_feed 13 (.getfield 29) 3 16 := ⟨by decide +kernel, rfl⟩
theorem dd_PJ_feed_16 : pj_d cX10_feed 16 (.iload_n 1) 1 17 := ⟨by decide +kernel, rfl⟩
theorem dd_PJ_feed_17 : pj_d cX10_feed 17 (.invokevirtual 122) 3 20 := ⟨by decide +kernel, rfl⟩
theorem dd_PJ_feed_20 : pj_d cX10_feed 20 (.aload_n 0) 1 21 := ⟨by decide +kernel, rfl⟩
theorem dd_PJ_feed_21 : pj_d cX10_feed 21 (.getfield 29) 3 24 := ⟨by decide +kernel, rfl⟩
theorem dd_PJ_feed_24 : pj_d cX10_feed 24 (.iload_n 2) 1 25 := ⟨by decide +kernel, rfl⟩
theorem dd_PJ_feed_25 : pj_d cX10_feed 25 (.invokevirtual 122) 3 28 := ⟨by decide +kernel, rfl⟩
theorem dd_PJ_feed_28 : pj_d cX10_feed 28 (.aload_n 0) 1 29 := ⟨by decide +kernel, rfl⟩
theorem dd_PJ_feed_29 : pj_d cX10_feed 29 (.getfield 29) 3 32 := ⟨by decide +kernel, rfl⟩
theorem dd_PJ_feed_32 : pj_d cX10_feed 32 (.iload_n 3) 1 33 := ⟨by decide +kernel, rfl⟩
theorem dd_PJ_feed_33 : pj_d cX10_feed 33 (.invokevirtual 122) 3 36 := ⟨by decide +kernel, rfl⟩
theorem dd_PJ_feed_36 : pj_d cX10_feed 36 (.aload_n 0) 1 37 := ⟨by decide +kernel, rfl⟩
theorem dd_PJ_feed_37 : pj_d cX10_feed 37 (.getfield 29) 3 40 := ⟨by decide +kernel, rfl⟩
theorem dd_PJ_feed_40 : pj_d cX10_feed 40 (.iload 4) 2 42 := ⟨by decide +kernel, rfl⟩
theorem dd_PJ_feed_42 : pj_d cX10_feed 42 (.invokevirtual 122) 3 45 := ⟨by decide +kernel, rfl⟩
theorem dd_PJ_feed_45 : pj_d cX10_feed 45 (.aload_n 0) 1 46 := ⟨by decide +kernel, rfl⟩
theorem dd_PJ_feed_46 : pj_d cX10_feed 46 (.getfield 29) 3 49 := ⟨by decide +kernel, rfl⟩
theorem dd_PJ_feed_49 : pj_d cX10_feed 49 (.iload 5) 2 51 := ⟨by decide +kernel, rfl⟩
theorem dd_PJ_feed_51 : pj_d cX10_feed 51 (.invokevirtual 122) 3 54 := ⟨by decide +kernel, rfl⟩
theorem dd_PJ_feed_54 : pj_d cX10_feed 54 (.aload_n 0) 1 55 := ⟨by decide +kernel, rfl⟩
theorem dd_PJ_feed_55 : pj_d cX10_feed 55 (.getfield 29) 3 58 := ⟨by decide +kernel, rfl⟩
theorem dd_PJ_feed_58 : pj_d cX10_feed 58 (.getfield 126) 3 61 := ⟨by decide +kernel, rfl⟩
theorem dd_PJ_feed_61 : pj_d cX10_feed 61 (.ireturn) 1 62 := ⟨by decide +kernel, rfl⟩
set_option maxHeartbeats 4000000 in
set_option maxRecDepth 100000 in
theorem ct_PJ_feed {l : Launch} {B : pj_B} (hB : B.2.2.2.1 = pj_LC) {v1 : Int32} {v2 : Int32} {v3 : Int32} {v4 : Int32} {v5 : Int32} {z : pj_S} {r0 : Int32} {z0 : pj_S} (h : PJ_feed v1 v2 v3 v4 v5 z = some (r0, z0)) : pj_Mi l yX10_feed cX10_feed 6 (some .int) 2 [.ref (B.2.1 0), .int v1, .int v2, .int v3, .int v4, .int v5] B z r0 z0 := by
  refine pj_meti (own := RX10) (by decide +kernel) rfl (Nat.le_of_ble_eq_true rfl) ?_
  intro A K hK C Q H lo ls P hl
  have hl : lv_has ls 6 [(0, .ref (B.2.1 0)), (1, .int v1), (2, .int v2), (3, .int v3), (4, .int v4), (5, .int v5)] := hl
  unfold PJ_feed at h
  refine pj_aload_n C dd_PJ_feed_0 rfl hl 0 rfl ?_
  refine pj_getR C P 0 (LC0 hB) rfl fl_PJ_29 dd_PJ_feed_1 ?_
  obtain ⟨r3, z2, e1, h⟩ := pj_cE h
  refine pj_cVi (st := []) [] C P 4 (LC4 hB) rfl (ct_Tape_hasRoom hB e1) cl_PJ_118 rfl (by decide) (by decide) hl.1 (Nat.le_of_ble_eq_true rfl) dd_PJ_feed_4 (fun H lo P => ?_)
  refine pj_if_ne C h dd_PJ_feed_7 (fun h => ?_) (fun h => ?_)
  · refine pj_aload_n C dd_PJ_feed_12 rfl hl 0 rfl ?_
    refine pj_getR C P 0 (LC0 hB) rfl fl_PJ_29 dd_PJ_feed_13 ?_
    refine pj_iload_n C dd_PJ_feed_16 rfl hl 1 rfl ?_
    obtain ⟨r6, z5, e4, h⟩ := pj_cE h
    refine pj_cVv (st := []) [.int v1] C P 4 (LC4 hB) rfl (ct_Tape_add hB e4) cl_PJ_122 rfl (by decide) (by decide) hl.1 (Nat.le_of_ble_eq_true rfl) dd_PJ_feed_17 (fun H lo P => ?_)
    refine pj_aload_n C dd_PJ_feed_20 rfl hl 0 rfl ?_
    refine pj_getR C P 0 (LC0 hB) rfl fl_PJ_29 dd_PJ_feed_21 ?_
    refine pj_iload_n C dd_PJ_feed_24 rfl hl 2 rfl ?_
    obtain ⟨r9, z8, e7, h⟩ := pj_cE h
    refine pj_cVv (st := []) [.int v2] C P 4 (LC4 hB) rfl (ct_Tape_add hB e7) cl_PJ_122 rfl (by decide) (by decide) hl.1 (Nat.le_of_ble_eq_true rfl) dd_PJ_feed_25 (fun H lo P => ?_)
    refine pj_aload_n C dd_PJ_feed_28 rfl hl 0 rfl ?_
    refine pj_getR C P 0 (LC0 hB) rfl fl_PJ_29 dd_PJ_feed_29 ?_
    refine pj_iload_n C dd_PJ_feed_32 rfl hl 3 rfl ?_
    obtain ⟨r12, z11, e10, h⟩ := pj_cE h
    refine pj_cVv (st := []) [.int v3] C P 4 (LC4 hB) rfl (ct_Tape_add hB e10) cl_PJ_122 rfl (by decide) (by decide) hl.1 (Nat.le_of_ble_eq_true rfl) dd_PJ_feed_33 (fun H lo P => ?_)
    refine pj_aload_n C dd_PJ_feed_36 rfl hl 0 rfl ?_
    refine pj_getR C P 0 (LC0 hB) rfl fl_PJ_29 dd_PJ_feed_37 ?_
    refine pj_iload C dd_PJ_feed_40 hl 4 rfl ?_
    obtain ⟨r15, z14, e13, h⟩ := pj_cE h
    refine pj_cVv (st := []) [.int v4] C P 4 (LC4 hB) rfl (ct_Tape_add hB e13) cl_PJ_122 rfl (by decide) (by decide) hl.1 (Nat.le_of_ble_eq_true rfl) dd_PJ_feed_42 (fun H lo P => ?_)
    refine pj_aload_n C dd_PJ_feed_45 rfl hl 0 rfl ?_
    refine pj_getR C P 0 (LC0 hB) rfl fl_PJ_29 dd_PJ_feed_46 ?_
    refine pj_iload C dd_PJ_feed_49 hl 5 rfl ?_
    obtain ⟨r18, z17, e16, h⟩ := pj_cE h
    refine pj_cVv (st := []) [.int v5] C P 4 (LC4 hB) rfl (ct_Tape_add hB e16) cl_PJ_122 rfl (by decide) (by decide) hl.1 (Nat.le_of_ble_eq_true rfl) dd_PJ_feed_51 (fun H lo P => ?_)
    refine pj_aload_n C dd_PJ_feed_54 rfl hl 0 rfl ?_
    refine pj_getR C P 0 (LC0 hB) rfl fl_PJ_29 dd_PJ_feed_55 ?_
    refine pj_getI C P 4 (LC4 hB) rfl fl_PJ_126 dd_PJ_feed_58 ?_
    exact pj_iret C Q P h dd_PJ_feed_61
  · refine pj_iconst (v := (-1 : Int32)) C dd_PJ_feed_10 rfl ?_
    exact pj_iret C Q P h dd_PJ_feed_11
theorem dd_PJ_end_0 : pj_d cX10_end 0 (.iload_n 1) 1 1 := ⟨by decide +kernel, rfl⟩
theorem dd_PJ_end_1 : pj_dj cX10_end 1 (.ifCond .lt 14) 14 4 15 := ⟨by decide +kernel, rfl, by decide⟩
theorem dd_PJ_end_4 : pj_d cX10_end 4 (.iload_n 1) 1 5 := ⟨by decide +kernel, rfl⟩
theorem dd_PJ_end_5 : pj_d cX10_end 5 (.aload_n 0) 1 6 := ⟨by decide +kernel, rfl⟩
theorem dd_PJ_end_6 : pj_d cX10_end 6 (.getfield 29) 3 9 := ⟨by decide +kernel, rfl⟩
theorem dd_PJ_end_9 : pj_d cX10_end 9 (.getfield 126) 3 12 := ⟨by decide +kernel, rfl⟩
theorem dd_PJ_end_12 : pj_dj cX10_end 12 (.if_icmp .le 5) 5 15 17 := ⟨by decide +kernel, rfl, by decide⟩
theorem dd_PJ_end_15 : pj_d cX10_end 15 (.iconst 0) 1 16 := ⟨by decide +kernel, rfl⟩
theorem dd_PJ_end_16 : pj_d cX10_end 16 (.ireturn) 1 17 := ⟨by decide +kernel, rfl⟩
theorem dd_PJ_end_17 : pj_d cX10_end 17 (.aload_n 0) 1 18 := ⟨by decide +kernel, rfl⟩
theorem dd_PJ_end_18 : pj_d cX10_end 18 (.getfield 29) 3 21 := ⟨by decide +kernel, rfl⟩
theorem dd_PJ_end_21 : pj_d cX10_end 21 (.iload_n 1) 1 22 := ⟨by decide +kernel, rfl⟩
theorem dd_PJ_end_22 : pj_d cX10_end 22 (.putfield 126) 3 25 := ⟨by decide +kernel, rfl⟩
theorem dd_PJ_end_25 : pj_d cX10_end 25 (.iconst 1) 1 26 := ⟨by decide +kernel, rfl⟩
theorem dd_PJ_end_26 : pj_d cX10_end 26 (.ireturn) 1 27 := ⟨by decide +kernel, rfl⟩
set_option maxHeartbeats 4000000 in
set_option maxRecDepth 100000 in
theorem ct_PJ_end {l : Launch} {B : pj_B} (hB : B.2.2.2.1 = pj_LC) {v1 : Int32} {z : pj_S} {r0 : Int32} {z0 : pj_S} (h : PJ_end v1 z = some (r0, z0)) : pj_Mi l yX10_end cX10_end 2 (some .boolean) 1 [.ref (B.2.1 0), .int v1] B z r0 z0 := by
  refine pj_meti (own := RX10) (by decide +kernel) rfl (Nat.le_of_ble_eq_true rfl) ?_
  intro A K hK C Q H lo ls P hl
  have hl : lv_has ls 2 [(0, .ref (B.2.1 0)), (1, .int v1)] := hl
  unfold PJ_end at h
  refine pj_iload_n C dd_PJ_end_0 rfl hl 1 rfl ?_
  refine pj_if_lt C h dd_PJ_end_1 (fun h => ?_) (fun h => ?_)
  · refine pj_iconst (v := (nI 0)) C dd_PJ_end_15 rfl ?_
    exact pj_zret C Q P h dd_PJ_end_16
  · refine pj_iload_n C dd_PJ_end_4 rfl hl 1 rfl ?_
    refine pj_aload_n C dd_PJ_end_5 rfl hl 0 rfl ?_
    refine pj_getR C P 0 (LC0 hB) rfl fl_PJ_29 dd_PJ_end_6 ?_
    refine pj_getI C P 4 (LC4 hB) rfl fl_PJ_126 dd_PJ_end_9 ?_
    refine pj_ic_le C h dd_PJ_end_12 (fun h => ?_) (fun h => ?_)
    · refine pj_aload_n C dd_PJ_end_17 rfl hl 0 rfl ?_
      refine pj_getR C P 0 (LC0 hB) rfl fl_PJ_29 dd_PJ_end_18 ?_
      refine pj_iload_n C dd_PJ_end_21 rfl hl 1 rfl ?_
      refine pj_putI C P 4 (LC4 hB) rfl fl_PJ_126 rfl fy_7_1 h dd_PJ_end_22 (fun H lo z1 h P => ?_)
      refine pj_iconst (v := (nI 1)) C dd_PJ_end_25 rfl ?_
      exact pj_zret C Q P h dd_PJ_end_26
    · refine pj_iconst (v := (nI 0)) C dd_PJ_end_15 rfl ?_
      exact pj_zret C Q P h dd_PJ_end_16
