theorem dd_PJ_save_0 : pj_d cX10_save 0 (.iload_n 1) 1 1 := ⟨by decide +kernel, rfl⟩
theorem dd_PJ_save_1 : pj_dj cX10_save 1 (.ifCond .lt 17) 17 4 18 := ⟨by decide +kernel, rfl, by decide⟩
theorem dd_PJ_save_4 : pj_d cX10_save 4 (.iload_n 1) 1 5 := ⟨by decide +kernel, rfl⟩
theorem dd_PJ_save_5 : pj_d cX10_save 5 (.iconst 3) 1 6 := ⟨by decide +kernel, rfl⟩
theorem dd_PJ_save_6 : pj_dj cX10_save 6 (.if_icmp .gt 12) 12 9 18 := ⟨by decide +kernel, rfl, by decide⟩
theorem dd_PJ_save_9 : pj_d cX10_save 9 (.iload_n 2) 1 10 := ⟨by decide +kernel, rfl⟩
theorem dd_PJ_save_10 : pj_dj cX10_save 10 (.ifCond .lt 8) 8 13 18 := ⟨by decide +kernel, rfl, by decide⟩
theorem dd_PJ_save_13 : pj_d cX10_save 13 (.iload_n 2) 1 14 := ⟨by decide +kernel, rfl⟩
theorem dd_PJ_save_14 : pj_d cX10_save 14 (.iconst 3) 1 15 := ⟨by decide +kernel, rfl⟩
theorem dd_PJ_save_15 : pj_dj cX10_save 15 (.if_icmp .le 5) 5 18 20 := ⟨by decide +kernel, rfl, by decide⟩
theorem dd_PJ_save_18 : pj_d cX10_save 18 (.iconst (-1)) 1 19 := ⟨by decide +kernel, rfl⟩
theorem dd_PJ_save_19 : pj_d cX10_save 19 (.ireturn) 1 20 := ⟨by decide +kernel, rfl⟩
theorem dd_PJ_save_20 : pj_d cX10_save 20 (.aload_n 0) 1 21 := ⟨by decide +kernel, rfl⟩
theorem dd_PJ_save_21 : pj_d cX10_save 21 (.getfield 50) 3 24 := ⟨by decide +kernel, rfl⟩
theorem dd_PJ_save_24 : pj_d cX10_save 24 (.aload_n 0) 1 25 := ⟨by decide +kernel, rfl⟩
theorem dd_PJ_save_25 : pj_d cX10_save 25 (.getfield 10) 3 28 := ⟨by decide +kernel, rfl⟩
theorem dd_PJ_save_28 : pj_d cX10_save 28 (.getfield 65) 3 31 := ⟨by decide +kernel, rfl⟩
theorem dd_PJ_save_31 : pj_d cX10_save 31 (.iload_n 1) 1 32 := ⟨by decide +kernel, rfl⟩
theorem dd_PJ_save_32 : pj_d cX10_save 32 (.invokevirtual 221) 3 35 := ⟨by decide +kernel, rfl⟩
theorem dd_PJ_save_35 : pj_d cX10_save 35 (.iload_n 2) 1 36 := ⟨by decide +kernel, rfl⟩
theorem dd_PJ_save_36 : pj_dj cX10_save 36 (.ifCond .ne 13) 13 39 49 := ⟨by decide +kernel, rfl, by decide⟩
theorem dd_PJ_save_39 : pj_d cX10_save 39 (.aload_n 0) 1 40 := ⟨by decide +kernel, rfl⟩
theorem dd_PJ_save_40 : pj_d cX10_save 40 (.getfield 50) 3 43 := ⟨by decide +kernel, rfl⟩
theorem dd_PJ_save_43 : pj_d cX10_save 43 (.getfield 225) 3 46 := ⟨by decide +kernel, rfl⟩
theorem dd_PJ_save_46 : pj_dj cX10_save 46 (.goto 16) 16 49 62 := ⟨by decide +kernel, rfl, by decide⟩
theorem dd_PJ_save_49 : pj_d cX10_save 49 (.aload_n 0) 1 50 := ⟨by decide +kernel, rfl⟩
theorem dd_PJ_save_50 : pj_d cX10_save 50 (.getfield 50) 3 53 := ⟨by decide +kernel, rfl⟩
theorem dd_PJ_save_53 : pj_d cX10_save 53 (.getfield 228) 3 56 := ⟨by decide +kernel, rfl⟩
theorem dd_PJ_save_56 : pj_d cX10_save 56 (.iload_n 2) 1 57 := ⟨by decide +kernel, rfl⟩
theorem dd_PJ_save_57 : pj_d cX10_save 57 (.iconst 1) 1 58 := ⟨by decide +kernel, rfl⟩
theorem dd_PJ_save_58 : pj_d cX10_save 58 (.isub) 1 59 := ⟨by decide +kernel, rfl⟩
theorem dd_PJ_save_59 : pj_d cX10_save 59 (.invokestatic 218) 3 62 := ⟨by decide +kernel, rfl⟩
theorem dd_PJ_save_62 : pj_d cX10_save 62 (.ireturn) 1 63 := ⟨by decide +kernel, rfl⟩
set_option maxHeartbeats 4000000 in
set_option maxRecDepth 100000 in
theorem ct_PJ_save {l : Launch} {B : pj_B} (hB : B.2.2.2.1 = pj_LC) {v1 : Int32} {v2 : Int32} {z : pj_S} {r0 : Int32} {z0 : pj_S} (h : PJ_save v1 v2 z = some (r0, z0)) : pj_Mi l yX10_save cX10_save 3 (some .int) 12 [.ref (B.2.1 0), .int v1, .int v2] B z r0 z0 := by
  refine pj_meti (own := RX10) (by decide +kernel) rfl (Nat.le_of_ble_eq_true rfl) ?_
  intro A K hK C Q H lo ls P hl
  have hl : lv_has ls 3 [(0, .ref (B.2.1 0)), (1, .int v1), (2, .int v2)] := hl
  unfold PJ_save at h
  refine pj_iload_n C dd_PJ_save_0 rfl hl 1 rfl ?_
  refine pj_if_lt C h dd_PJ_save_1 (fun h => ?_) (fun h => ?_)
  · refine pj_iconst (v := (-1 : Int32)) C dd_PJ_save_18 rfl ?_
    exact pj_iret C Q P h dd_PJ_save_19
  · refine pj_iload_n C dd_PJ_save_4 rfl hl 1 rfl ?_
    refine pj_iconst (v := (nI 3)) C dd_PJ_save_5 rfl ?_
    refine pj_ic_gt C h dd_PJ_save_6 (fun h => ?_) (fun h => ?_)
    · refine pj_iconst (v := (-1 : Int32)) C dd_PJ_save_18 rfl ?_
      exact pj_iret C Q P h dd_PJ_save_19
    · refine pj_iload_n C dd_PJ_save_9 rfl hl 2 rfl ?_
      refine pj_if_lt C h dd_PJ_save_10 (fun h => ?_) (fun h => ?_)
      · refine pj_iconst (v := (-1 : Int32)) C dd_PJ_save_18 rfl ?_
        exact pj_iret C Q P h dd_PJ_save_19
      · refine pj_iload_n C dd_PJ_save_13 rfl hl 2 rfl ?_
        refine pj_iconst (v := (nI 3)) C dd_PJ_save_14 rfl ?_
        refine pj_ic_le C h dd_PJ_save_15 (fun h => ?_) (fun h => ?_)
        · refine pj_aload_n C dd_PJ_save_20 rfl hl 0 rfl ?_
          refine pj_getR C P 0 (LC0 hB) rfl fl_PJ_50 dd_PJ_save_21 ?_
          refine pj_aload_n C dd_PJ_save_24 rfl hl 0 rfl ?_
          refine pj_getR C P 0 (LC0 hB) rfl fl_PJ_10 dd_PJ_save_25 ?_
          refine pj_getR C P 1 (LC1 hB) rfl fl_PJ_65 dd_PJ_save_28 ?_
          refine pj_iload_n C dd_PJ_save_31 rfl hl 1 rfl ?_
          obtain ⟨r3, z2, e1, h⟩ := pj_cE h
          refine pj_cVv (st := []) [.ref (B.2.1 8), .int v1] C P 7 (LC7 hB) rfl (ct_Saver_search hB e1) cl_PJ_221 rfl (by decide) (by decide) hl.1 (Nat.le_of_ble_eq_true rfl) dd_PJ_save_32 (fun H lo P => ?_)
          refine pj_iload_n C dd_PJ_save_35 rfl hl 2 rfl ?_
          refine pj_if_ne C h dd_PJ_save_36 (fun h => ?_) (fun h => ?_)
          · refine pj_aload_n C dd_PJ_save_49 rfl hl 0 rfl ?_
            refine pj_getR C P 0 (LC0 hB) rfl fl_PJ_50 dd_PJ_save_50 ?_
            refine pj_getJ C P 7 (LC7 hB) rfl fl_PJ_228 dd_PJ_save_53 ?_
            refine pj_iload_n C dd_PJ_save_56 rfl hl 2 rfl ?_
            refine pj_iconst (v := (nI 1)) C dd_PJ_save_57 rfl ?_
            refine pj_isub C dd_PJ_save_58 ?_
            obtain ⟨r6, z5, e4, h⟩ := pj_cE h
            refine pj_cSi (st := []) [.long (z2.2 7 1), .int (v2 - (nI 1))] C P (ct_PJ_numberIn hB e4) cl_PJ_218 rfl (by decide) (by decide) hl.1 (Nat.le_of_ble_eq_true rfl) dd_PJ_save_59 (fun H lo P => ?_)
            exact pj_iret C Q P h dd_PJ_save_62
          · refine pj_aload_n C dd_PJ_save_39 rfl hl 0 rfl ?_
            refine pj_getR C P 0 (LC0 hB) rfl fl_PJ_50 dd_PJ_save_40 ?_
            refine pj_getI C P 7 (LC7 hB) rfl fl_PJ_225 dd_PJ_save_43 ?_
            refine pj_goto C dd_PJ_save_46 ?_
            exact pj_iret C Q P h dd_PJ_save_62
        · refine pj_iconst (v := (-1 : Int32)) C dd_PJ_save_18 rfl ?_
          exact pj_iret C Q P h dd_PJ_save_19
theorem dd_PJ_comes_0 : pj_d cX10_comes 0 (.aload_n 0) 1 1 := ⟨by decide +kernel, rfl⟩
theorem dd_PJ_comes_1 : pj_d cX10_comes 1 (.getfield 10) 3 4 := ⟨by decide +kernel, rfl⟩
theorem dd_PJ_comes_4 : pj_d cX10_comes 4 (.getfield 65) 3 7 := ⟨by decide +kernel, rfl⟩
theorem dd_PJ_comes_7 : pj_d cX10_comes 7 (.iload_n 1) 1 8 := ⟨by decide +kernel, rfl⟩
theorem dd_PJ_comes_8 : pj_d cX10_comes 8 (.iload_n 2) 1 9 := ⟨by decide +kernel, rfl⟩
theorem dd_PJ_comes_9 : pj_d cX10_comes 9 (.invokevirtual 96) 3 12 := ⟨by decide +kernel, rfl⟩
theorem dd_PJ_comes_12 : pj_dj cX10_comes 12 (.ifCond .ne 5) 5 15 17 := ⟨by decide +kernel, rfl, by decide⟩
theorem dd_PJ_comes_15 : pj_d cX10_comes 15 (.iconst (-1)) 1 16 := ⟨by decide +kernel, rfl⟩
theorem dd_PJ_comes_16 : pj_d cX10_comes 16 (.ireturn) 1 17 := ⟨by decide +kernel, rfl⟩
theorem dd_PJ_comes_17 : pj_d cX10_comes 17 (.aload_n 0) 1 18 := ⟨by decide +kernel, rfl⟩
theorem dd_PJ_comes_18 : pj_d cX10_comes 18 (.getfield 43) 3 21 := ⟨by decide +kernel, rfl⟩
theorem dd_PJ_comes_21 : pj_d cX10_comes 21 (.aload_n 0) 1 22 := ⟨by decide +kernel, rfl⟩
theorem dd_PJ_comes_22 : pj_d cX10_comes 22 (.getfield 10) 3 25 := ⟨by decide +kernel, rfl⟩
theorem dd_PJ_comes_25 : pj_d cX10_comes 25 (.getfield 65) 3 28 := ⟨by decide +kernel, rfl⟩
theorem dd_PJ_comes_28 : pj_d cX10_comes 28 (.iload_n 1) 1 29 := ⟨by decide +kernel, rfl⟩
theorem dd_PJ_comes_29 : pj_d cX10_comes 29 (.iload_n 2) 1 30 := ⟨by decide +kernel, rfl⟩
theorem dd_PJ_comes_30 : pj_d cX10_comes 30 (.bipush 36) 2 32 := ⟨by decide +kernel, rfl⟩
theorem dd_PJ_comes_32 : pj_d cX10_comes 32 (.invokevirtual 100) 3 35 := ⟨by decide +kernel, rfl⟩
theorem dd_PJ_comes_35 : pj_d cX10_comes 35 (.iload_n 3) 1 36 := ⟨by decide +kernel, rfl⟩
theorem dd_PJ_comes_36 : pj_dj cX10_comes 36 (.ifCond .ne 11) 11 39 47 := ⟨by decide +kernel, rfl, by decide⟩
theorem dd_PJ_comes_39 : pj_d cX10_comes 39 (.aload_n 0) 1 40 := ⟨by decide +kernel, rfl⟩
theorem dd_PJ_comes_40 : pj_d cX10_comes 40 (.getfield 43) 3 43 := ⟨by decide +kernel, rfl⟩
theorem dd_PJ_comes_43 : pj_d cX10_comes 43 (.getfield 108) 3 46 := ⟨by decide +kernel, rfl⟩
theorem dd_PJ_comes_46 : pj_d cX10_comes 46 (.ireturn) 1 47 := ⟨by decide +kernel, rfl⟩
theorem dd_PJ_comes_47 : pj_d cX10_comes 47 (.iload_n 3) 1 48 := ⟨by decide +kernel, rfl⟩
theorem dd_PJ_comes_48 : pj_d cX10_comes 48 (.iconst 1) 1 49 := ⟨by decide +kernel, rfl⟩
theorem dd_PJ_comes_49 : pj_dj cX10_comes 49 (.if_icmp .ne 13) 13 52 62 := ⟨by decide +kernel, rfl, by decide⟩
theorem dd_PJ_comes_52 : pj_d cX10_comes 52 (.aload_n 0) 1 53 := ⟨by decide +kernel, rfl⟩
theorem dd_PJ_comes_53 : pj_d cX10_comes 53 (.getfield 43) 3 56 := ⟨by decide +kernel, rfl⟩
theorem dd_PJ_comes_56 : pj_d cX10_comes 56 (.getfield 231) 3 59 := ⟨by decide +kernel, rfl⟩
theorem dd_PJ_comes_59 : pj_dj cX10_comes 59 (.goto 4) 4 62 63 := ⟨by decide +kernel, rfl, by decide⟩
theorem dd_PJ_comes_62 : pj_d cX10_comes 62 (.iconst (-1)) 1 63 := ⟨by decide +kernel, rfl⟩
theorem dd_PJ_comes_63 : pj_d cX10_comes 63 (.ireturn) 1 64 := ⟨by decide +kernel, rfl⟩
set_option maxHeartbeats 4000000 in
set_option maxRecDepth 100000 in
theorem ct_PJ_comes {l : Launch} {B : pj_B} (hB : B.2.2.2.1 = pj_LC) {v1 : Int32} {v2 : Int32} {v3 : Int32} {z : pj_S} {r0 : Int32} {z0 : pj_S} (h : PJ_comes v1 v2 v3 z = some (r0, z0)) : pj_Mi l yX10_comes cX10_comes 4 (some .int) 5 [.ref (B.2.1 0), .int v1, .int v2, .int v3] B z r0 z0 := by
  refine pj_meti (own := RX10) (by decide +kernel) rfl (Nat.le_of_ble_eq_true rfl) ?_
  intro A K hK C Q H lo ls P hl
  have hl : lv_has ls 4 [(0, .ref (B.2.1 0)), (1, .int v1), (2, .int v2), (3, .int v3)] := hl
  unfold PJ_comes at h
  refine pj_aload_n C dd_PJ_comes_0 rfl hl 0 rfl ?_
  refine pj_getR C P 0 (LC0 hB) rfl fl_PJ_10 dd_PJ_comes_1 ?_
  refine pj_getR C P 1 (LC1 hB) rfl fl_PJ_65 dd_PJ_comes_4 ?_
  refine pj_iload_n C dd_PJ_comes_7 rfl hl 1 rfl ?_
  refine pj_iload_n C dd_PJ_comes_8 rfl hl 2 rfl ?_
  obtain ⟨r3, z2, e1, h⟩ := pj_cE h
  refine pj_cVi (st := []) [.int v1, .int v2] C P 8 (LC8 hB) rfl (ct_Fabric_isEnd hB e1) cl_PJ_96 rfl (by decide) (by decide) hl.1 (Nat.le_of_ble_eq_true rfl) dd_PJ_comes_9 (fun H lo P => ?_)
  refine pj_if_ne C h dd_PJ_comes_12 (fun h => ?_) (fun h => ?_)
  · refine pj_aload_n C dd_PJ_comes_17 rfl hl 0 rfl ?_
    refine pj_getR C P 0 (LC0 hB) rfl fl_PJ_43 dd_PJ_comes_18 ?_
    refine pj_aload_n C dd_PJ_comes_21 rfl hl 0 rfl ?_
    refine pj_getR C P 0 (LC0 hB) rfl fl_PJ_10 dd_PJ_comes_22 ?_
    refine pj_getR C P 1 (LC1 hB) rfl fl_PJ_65 dd_PJ_comes_25 ?_
    refine pj_iload_n C dd_PJ_comes_28 rfl hl 1 rfl ?_
    refine pj_iload_n C dd_PJ_comes_29 rfl hl 2 rfl ?_
    refine pj_bipush (v := (nI 36)) C dd_PJ_comes_30 rfl ?_
    obtain ⟨r6, z5, e4, h⟩ := pj_cE h
    refine pj_cVv (st := []) [.ref (B.2.1 8), .int v1, .int v2, .int (nI 36)] C P 6 (LC6 hB) rfl (ct_Puller_walk hB e4) cl_PJ_100 rfl (by decide) (by decide) hl.1 (Nat.le_of_ble_eq_true rfl) dd_PJ_comes_32 (fun H lo P => ?_)
    refine pj_iload_n C dd_PJ_comes_35 rfl hl 3 rfl ?_
    refine pj_if_ne C h dd_PJ_comes_36 (fun h => ?_) (fun h => ?_)
    · refine pj_iload_n C dd_PJ_comes_47 rfl hl 3 rfl ?_
      refine pj_iconst (v := (nI 1)) C dd_PJ_comes_48 rfl ?_
      refine pj_ic_ne C h dd_PJ_comes_49 (fun h => ?_) (fun h => ?_)
      · refine pj_iconst (v := (-1 : Int32)) C dd_PJ_comes_62 rfl ?_
        exact pj_iret C Q P h dd_PJ_comes_63
      · refine pj_aload_n C dd_PJ_comes_52 rfl hl 0 rfl ?_
        refine pj_getR C P 0 (LC0 hB) rfl fl_PJ_43 dd_PJ_comes_53 ?_
        refine pj_getI C P 6 (LC6 hB) rfl fl_PJ_231 dd_PJ_comes_56 ?_
        refine pj_goto C dd_PJ_comes_59 ?_
        exact pj_iret C Q P h dd_PJ_comes_63
    · refine pj_aload_n C dd_PJ_comes_39 rfl hl 0 rfl ?_
      refine pj_getR C P 0 (LC0 hB) rfl fl_PJ_43 dd_PJ_comes_40 ?_
      refine pj_getI C P 6 (LC6 hB) rfl fl_PJ_108 dd_PJ_comes_43 ?_
      exact pj_iret C Q P h dd_PJ_comes_46
  · refine pj_iconst (v := (-1 : Int32)) C dd_PJ_comes_15 rfl ?_
    exact pj_iret C Q P h dd_PJ_comes_16
theorem dd_PJ_undoesAll_0 : pj_d cX10_undoesAll 0 (.aload_n 0) 1 1 := ⟨by decide +kernel, rfl⟩
theorem dd_PJ_undoesAll_1 : pj_d cX10_undoesAll 1 (.getfield 10) 3 4 := ⟨by decide +kernel, rfl⟩
theorem dd_PJ_undoesAll_4 : pj_d cX10_undoesAll 4 (.getfield 65) 3 7 := ⟨by decide +kernel, rfl⟩
theorem dd_PJ_undoesAll_7 : pj_d cX10_undoesAll 7 (.iload_n 1) 1 8 := ⟨by decide +kernel, rfl⟩
theorem dd_PJ_undoesAll_8 : pj_d cX10_undoesAll 8 (.iload_n 2) 1 9 := ⟨by decide +kernel, rfl⟩
theorem dd_PJ_undoesAll_9 : pj_d cX10_undoesAll 9 (.invokevirtual 96) 3 12 := ⟨by decide +kernel, rfl⟩
theorem dd_PJ_undoesAll_12 : pj_dj cX10_undoesAll 12 (.ifCond .ne 5) 5 15 17 := ⟨by decide +kernel, rfl, by decide⟩
theorem dd_PJ_undoesAll_15 : pj_d cX10_undoesAll 15 (.iconst 0) 1 16 := ⟨by decide +kernel, rfl⟩
theorem dd_PJ_undoesAll_16 : pj_d cX10_undoesAll 16 (.ireturn) 1 17 := ⟨by decide +kernel, rfl⟩
theorem dd_PJ_undoesAll_17 : pj_d cX10_undoesAll 17 (.aload_n 0) 1 18 := ⟨by decide +kernel, rfl⟩
theorem dd_PJ_undoesAll_18 : pj_d cX10_undoesAll 18 (.getfield 43) 3 21 := ⟨by decide +kernel, rfl⟩
theorem dd_PJ_undoesAll_21 : pj_d cX10_undoesAll 21 (.aload_n 0) 1 22 := ⟨by decide +kernel, rfl⟩
theorem dd_PJ_undoesAll_22 : pj_d cX10_undoesAll 22 (.getfield 10) 3 25 := ⟨by decide +kernel, rfl⟩
theorem dd_PJ_undoesAll_25 : pj_d cX10_undoesAll 25 (.getfield 65) 3 28 := ⟨by decide +kernel, rfl⟩
theorem dd_PJ_undoesAll_28 : pj_d cX10_undoesAll 28 (.iload_n 1) 1 29 := ⟨by decide +kernel, rfl⟩
theorem dd_PJ_undoesAll_29 : pj_d cX10_undoesAll 29 (.iload_n 2) 1 30 := ⟨by decide +kernel, rfl⟩
theorem dd_PJ_undoesAll_30 : pj_d cX10_undoesAll 30 (.bipush 36) 2 32 := ⟨by decide +kernel, rfl⟩
theorem dd_PJ_undoesAll_32 : pj_d cX10_undoesAll 32 (.invokevirtual 100) 3 35 := ⟨by decide +kernel, rfl⟩
theorem dd_PJ_undoesAll_35 : pj_d cX10_undoesAll 35 (.aload_n 0) 1 36 := ⟨by decide +kernel, rfl⟩
theorem dd_PJ_undoesAll_36 : pj_d cX10_undoesAll 36 (.getfield 43) 3 39 := ⟨by decide +kernel, rfl⟩
theorem dd_PJ_undoesAll_39 : pj_d cX10_undoesAll 39 (.getfield 288) 3 42 := ⟨by decide +kernel, rfl⟩
theorem dd_PJ_undoesAll_42 : pj_d cX10_undoesAll 42 (.lconst 0) 1 43 := ⟨by decide +kernel, rfl⟩
theorem dd_PJ_undoesAll_43 : pj_d cX10_undoesAll 43 (.lcmp) 1 44 := ⟨by decide +kernel, rfl⟩
theorem dd_PJ_undoesAll_44 : pj_dj cX10_undoesAll 44 (.ifCond .ne 7) 7 47 51 := ⟨by decide +kernel, rfl, by decide⟩
theorem dd_PJ_undoesAll_47 : pj_d cX10_undoesAll 47 (.iconst 1) 1 48 := ⟨by decide +kernel, rfl⟩
theorem dd_PJ_undoesAll_48 : pj_dj cX10_undoesAll 48 (.goto 4) 4 51 52 := ⟨by decide +kernel, rfl, by decide⟩
theorem dd_PJ_undoesAll_51 : pj_d cX10_undoesAll 51 (.iconst 0) 1 52 := ⟨by decide +kernel, rfl⟩
theorem dd_PJ_undoesAll_52 : pj_d cX10_undoesAll 52 (.ireturn) 1 53 := ⟨by decide +kernel, rfl⟩
set_option maxHeartbeats 4000000 in
set_option maxRecDepth 100000 in
theorem ct_PJ_undoesAll {l : Launch} {B : pj_B} (hB : B.2.2.2.1 = pj_LC) {v1 : Int32} {v2 : Int32} {z : pj_S} {r0 : Int32} {z0 : pj_S} (h : PJ_undoesAll v1 v2 z = some (r0, z0)) : pj_Mi l yX10_undoesAll cX10_undoesAll 3 (some .boolean) 5 [.ref (B.2.1 0), .int v1, .int v2] B z r0 z0 := by
  refine pj_meti (own := RX10) (by decide +kernel) rfl (Nat.le_of_ble_eq_true rfl) ?_
  intro A K hK C Q H lo ls P hl
  have hl : lv_has ls 3 [(0, .ref (B.2.1 0)), (1, .int v1), (2, .int v2)] := hl
  unfold PJ_undoesAll at h
  refine pj_aload_n C dd_PJ_undoesAll_0 rfl hl 0 rfl ?_
  refine pj_getR C P 0 (LC0 hB) rfl fl_PJ_10 dd_PJ_undoesAll_1 ?_
  refine pj_getR C P 1 (LC1 hB) rfl fl_PJ_65 dd_PJ_undoesAll_4 ?_
  refine pj_iload_n C dd_PJ_undoesAll_7 rfl hl 1 rfl ?_
  refine pj_iload_n C dd_PJ_undoesAll_8 rfl hl 2 rfl ?_
  obtain ⟨r3, z2, e1, h⟩ := pj_cE h
  refine pj_cVi (st := []) [.int v1, .int v2] C P 8 (LC8 hB) rfl (ct_Fabric_isEnd hB e1) cl_PJ_96 rfl (by decide) (by decide) hl.1 (Nat.le_of_ble_eq_true rfl) dd_PJ_undoesAll_9 (fun H lo P => ?_)
  refine pj_if_ne C h dd_PJ_undoesAll_12 (fun h => ?_) (fun h => ?_)
  · refine pj_aload_n C dd_PJ_undoesAll_17 rfl hl 0 rfl ?_
    refine pj_getR C P 0 (LC0 hB) rfl fl_PJ_43 dd_PJ_undoesAll_18 ?_
    refine pj_aload_n C dd_PJ_undoesAll_21 rfl hl 0 rfl ?_
    refine pj_getR C P 0 (LC0 hB) rfl fl_PJ_10 dd_PJ_undoesAll_22 ?_
    refine pj_getR C P 1 (LC1 hB) rfl fl_PJ_65 dd_PJ_undoesAll_25 ?_
    refine pj_iload_n C dd_PJ_undoesAll_28 rfl hl 1 rfl ?_
    refine pj_iload_n C dd_PJ_undoesAll_29 rfl hl 2 rfl ?_
    refine pj_bipush (v := (nI 36)) C dd_PJ_undoesAll_30 rfl ?_
    obtain ⟨r6, z5, e4, h⟩ := pj_cE h
    refine pj_cVv (st := []) [.ref (B.2.1 8), .int v1, .int v2, .int (nI 36)] C P 6 (LC6 hB) rfl (ct_Puller_walk hB e4) cl_PJ_100 rfl (by decide) (by decide) hl.1 (Nat.le_of_ble_eq_true rfl) dd_PJ_undoesAll_32 (fun H lo P => ?_)
    refine pj_aload_n C dd_PJ_undoesAll_35 rfl hl 0 rfl ?_
    refine pj_getR C P 0 (LC0 hB) rfl fl_PJ_43 dd_PJ_undoesAll_36 ?_
    refine pj_getJ C P 6 (LC6 hB) rfl fl_PJ_288 dd_PJ_undoesAll_39 ?_
    refine pj_lconst (v := (0 : Int64)) C dd_PJ_undoesAll_42 rfl ?_
    refine pj_lcmp C dd_PJ_undoesAll_43 ?_
    refine pj_if_ne C h dd_PJ_undoesAll_44 (fun h => ?_) (fun h => ?_)
    · refine pj_iconst (v := (nI 0)) C dd_PJ_undoesAll_51 rfl ?_
      exact pj_zret C Q P h dd_PJ_undoesAll_52
    · refine pj_iconst (v := (nI 1)) C dd_PJ_undoesAll_47 rfl ?_
      refine pj_goto C dd_PJ_undoesAll_48 ?_
      exact pj_zret C Q P h dd_PJ_undoesAll_52
  · refine pj_iconst (v := (nI 0)) C dd_PJ_undoesAll_15 rfl ?_
    exact pj_zret C Q P h dd_PJ_undoesAll_16
theorem dd_PJ_all_0 : pj_d cX10_all 0 (.iload_n 1) 1 1 := ⟨by decide +kernel, rfl⟩
theorem dd_PJ_all_1 : pj_dj cX10_all 1 (.ifCond .lt 23) 23 4 24 := ⟨by decide +kernel, rfl, by decide⟩
theorem dd_PJ_all_4 : pj_d cX10_all 4 (.iload_n 1) 1 5 := ⟨by decide +kernel, rfl⟩
theorem dd_PJ_all_5 : pj_d cX10_all 5 (.iconst 1) 1 6 := ⟨by decide +kernel, rfl⟩
theorem dd_PJ_all_6 : pj_dj cX10_all 6 (.if_icmp .gt 18) 18 9 24 := ⟨by decide +kernel, rfl, by decide⟩
theorem dd_PJ_all_9 : pj_d cX10_all 9 (.aload_n 0) 1 10 := ⟨by decide +kernel, rfl⟩
theorem dd_PJ_all_10 : pj_d cX10_all 10 (.getfield 10) 3 13 := ⟨by decide +kernel, rfl⟩
theorem dd_PJ_all_13 : pj_d cX10_all 13 (.getfield 65) 3 16 := ⟨by decide +kernel, rfl⟩
theorem dd_PJ_all_16 : pj_d cX10_all 16 (.getfield 155) 3 19 := ⟨by decide +kernel, rfl⟩
theorem dd_PJ_all_19 : pj_d cX10_all 19 (.lconst 0) 1 20 := ⟨by decide +kernel, rfl⟩
theorem dd_PJ_all_20 : pj_d cX10_all 20 (.lcmp) 1 21 := ⟨by decide +kernel, rfl⟩
theorem dd_PJ_all_21 : pj_dj cX10_all 21 (.ifCond .ne 5) 5 24 26 := ⟨by decide +kernel, rfl, by decide⟩
theorem dd_PJ_all_24 : pj_d cX10_all 24 (.iconst (-1)) 1 25 := ⟨by decide +kernel, rfl⟩
theorem dd_PJ_all_25 : pj_d cX10_all 25 (.ireturn) 1 26 := ⟨by decide +kernel, rfl⟩
theorem dd_PJ_all_26 : pj_d cX10_all 26 (.iconst 0) 1 27 := ⟨by decide +kernel, rfl⟩
theorem dd_PJ_all_27 : pj_d cX10_all 27 (.istore_n 2) 1 28 := ⟨by decide +kernel, rfl⟩
theorem dd_PJ_all_28 : pj_d cX10_all 28 (.iload_n 2) 1 29 := ⟨by decide +kernel, rfl⟩
theorem dd_PJ_all_29 : pj_d cX10_all 29 (.aload_n 0) 1 30 := ⟨by decide +kernel, rfl⟩
theorem dd_PJ_all_30 : pj_d cX10_all 30 (.getfield 10) 3 33 := ⟨by decide +kernel, rfl⟩
theorem dd_PJ_all_33 : pj_d cX10_all 33 (.getfield 65) 3 36 := ⟨by decide +kernel, rfl⟩
theorem dd_PJ_all_36 : pj_d cX10_all 36 (.invokevirtual 183) 3 39 := ⟨by decide +kernel, rfl⟩
theorem dd_PJ_all_39 : pj_dj cX10_all 39 (.if_icmp .ge 41) 41 42 80 := ⟨by decide +kernel, rfl, by decide⟩
theorem dd_PJ_all_42 : pj_d cX10_all 42 (.iconst 0) 1 43 := ⟨by decide +kernel, rfl⟩
theorem dd_PJ_all_43 : pj_d cX10_all 43 (.istore_n 3) 1 44 := ⟨by decide +kernel, rfl⟩
theorem dd_PJ_all_44 : pj_d cX10_all 44 (.iload_n 3) 1 45 := ⟨by decide +kernel, rfl⟩
theorem dd_PJ_all_45 : pj_d cX10_all 45 (.iconst 1) 1 46 := ⟨by decide +kernel, rfl⟩
theorem dd_PJ_all_46 : pj_dj cX10_all 46 (.if_icmp .gt 28) 28 49 74 := ⟨by decide +kernel, rfl, by decide⟩
theorem dd_PJ_all_49 : pj_d cX10_all 49 (.aload_n 0) 1 50 := ⟨by decide +kernel, rfl⟩
theorem dd_PJ_all_50 : pj_d cX10_all 50 (.iload_n 2) 1 51 := ⟨by decide +kernel, rfl⟩
theorem dd_PJ_all_51 : pj_d cX10_all 51 (.iload_n 3) 1 52 := ⟨by decide +kernel, rfl⟩
theorem dd_PJ_all_52 : pj_d cX10_all 52 (.invokevirtual 234) 3 55 := ⟨by decide +kernel, rfl⟩
theorem dd_PJ_all_55 : pj_dj cX10_all 55 (.ifCond .eq 13) 13 58 68 := ⟨by decide +kernel, rfl, by decide⟩
theorem dd_PJ_all_58 : pj_d cX10_all 58 (.iload_n 1) 1 59 := ⟨by decide +kernel, rfl⟩
theorem dd_PJ_all_59 : pj_dj cX10_all 59 (.ifCond .ne 7) 7 62 66 := ⟨by decide +kernel, rfl, by decide⟩
theorem dd_PJ_all_62 : pj_d cX10_all 62 (.iload_n 2) 1 63 := ⟨by decide +kernel, rfl⟩
theorem dd_PJ_all_63 : pj_dj cX10_all 63 (.goto 4) 4 66 67 := ⟨by decide +kernel, rfl, by decide⟩
theorem dd_PJ_all_66 : pj_d cX10_all 66 (.iload_n 3) 1 67 := ⟨by decide +kernel, rfl⟩
theorem dd_PJ_all_67 : pj_d cX10_all 67 (.ireturn) 1 68 := ⟨by decide +kernel, rfl⟩
theorem dd_PJ_all_68 : pj_d cX10_all 68 (.iinc 3 1) 3 71 := ⟨by decide +kernel, rfl⟩
theorem dd_PJ_all_71 : pj_dj cX10_all 71 (.goto (-27)) (-27) 74 44 := ⟨by decide +kernel, rfl, by decide⟩
theorem dd_PJ_all_74 : pj_d cX10_all 74 (.iinc 2 1) 3 77 := ⟨by decide +kernel, rfl⟩
theorem dd_PJ_all_77 : pj_dj cX10_all 77 (.goto (-49)) (-49) 80 28 := ⟨by decide +kernel, rfl, by decide⟩
theorem dd_PJ_all_80 : pj_d cX10_all 80 (.iconst (-1)) 1 81 := ⟨by decide +kernel, rfl⟩
theorem dd_PJ_all_81 : pj_d cX10_all 81 (.ireturn) 1 82 := ⟨by decide +kernel, rfl⟩
set_option maxHeartbeats 4000000 in
set_option maxRecDepth 100000 in
theorem bt_PJ_all_58 {B : pj_B} {A : Nat → Prop} {K : pj_K} {r0 : Int32} {z0 : pj_S} (hB : B.2.2.2.1 = pj_LC) (C : pj_C B A K cX10_all 4 RX10 6) (Q : pj_Qi B A K (some .int) r0 z0)  (v1 : Int32) (v2 : Int32) (v3 : Int32) (z : pj_S) (H : Heap) (lo : List Loc) (ls : Array Slot) (h : PJ_all_58 v1 v2 v3 z = some (r0, z0)) (P : pj_P B A K z H lo) (hl : lv_has ls 4 [(1, .int v1), (2, .int v2), (3, .int v3)]) : pj_W K H lo 58 ls [] := by
  unfold PJ_all_58 at h
  refine pj_iload_n C dd_PJ_all_58 rfl hl 0 rfl ?_
  refine pj_if_ne C h dd_PJ_all_59 (fun h => ?_) (fun h => ?_)
  · refine pj_iload_n C dd_PJ_all_66 rfl hl 2 rfl ?_
    exact pj_iret C Q P h dd_PJ_all_67
  · refine pj_iload_n C dd_PJ_all_62 rfl hl 1 rfl ?_
    refine pj_goto C dd_PJ_all_63 ?_
    exact pj_iret C Q P h dd_PJ_all_67
set_option maxHeartbeats 4000000 in
set_option maxRecDepth 100000 in
theorem bt_PJ_all_74 {B : pj_B} {A : Nat → Prop} {K : pj_K} {r0 : Int32} {z0 : pj_S} (hB : B.2.2.2.1 = pj_LC) (C : pj_C B A K cX10_all 4 RX10 6) (Q : pj_Qi B A K (some .int) r0 z0) (s28 : Int32 → Int32 → pj_S → Option (Int32 × pj_S)) (k28 : ∀ (v1 : Int32) (v2 : Int32) (z : pj_S) (H : Heap) (lo : List Loc) (ls : Array Slot), s28 v1 v2 z = some (r0, z0) → pj_P B A K z H lo → lv_has ls 4 [(0, .ref (B.2.1 0)), (1, .int v1), (2, .int v2)] → pj_W K H lo 28 ls []) (v1 : Int32) (v2 : Int32) (z : pj_S) (H : Heap) (lo : List Loc) (ls : Array Slot) (h : PJ_all_74 s28 v1 v2 z = some (r0, z0)) (P : pj_P B A K z H lo) (hl : lv_has ls 4 [(0, .ref (B.2.1 0)), (1, .int v1), (2, .int v2)]) : pj_W K H lo 74 ls [] := by
  unfold PJ_all_74 at h
  refine pj_iinc (v := (nI 1)) [(0, .ref (B.2.1 0)), (1, .int v1)] C h rfl dd_PJ_all_74 hl 2 rfl (by decide) rfl (fun x1 ls h hl => ?_)
  refine pj_goto C dd_PJ_all_77 ?_
  exact k28 _ _ _ _ _ _ h P (lv_sub hl [1, 2, 0] rfl)
set_option maxHeartbeats 4000000 in
set_option maxRecDepth 100000 in
theorem bt_PJ_all_44 {B : pj_B} {A : Nat → Prop} {K : pj_K} {r0 : Int32} {z0 : pj_S} (hB : B.2.2.2.1 = pj_LC) (C : pj_C B A K cX10_all 4 RX10 6) (Q : pj_Qi B A K (some .int) r0 z0) (s28 : Int32 → Int32 → pj_S → Option (Int32 × pj_S)) (k28 : ∀ (v1 : Int32) (v2 : Int32) (z : pj_S) (H : Heap) (lo : List Loc) (ls : Array Slot), s28 v1 v2 z = some (r0, z0) → pj_P B A K z H lo → lv_has ls 4 [(0, .ref (B.2.1 0)), (1, .int v1), (2, .int v2)] → pj_W K H lo 28 ls []) (s44 : Int32 → Int32 → Int32 → pj_S → Option (Int32 × pj_S)) (k44 : ∀ (v1 : Int32) (v2 : Int32) (v3 : Int32) (z : pj_S) (H : Heap) (lo : List Loc) (ls : Array Slot), s44 v1 v2 v3 z = some (r0, z0) → pj_P B A K z H lo → lv_has ls 4 [(0, .ref (B.2.1 0)), (1, .int v1), (2, .int v2), (3, .int v3)] → pj_W K H lo 44 ls []) (v1 : Int32) (v2 : Int32) (v3 : Int32) (z : pj_S) (H : Heap) (lo : List Loc) (ls : Array Slot) (h : PJ_all_44 s28 s44 v1 v2 v3 z = some (r0, z0)) (P : pj_P B A K z H lo) (hl : lv_has ls 4 [(0, .ref (B.2.1 0)), (1, .int v1), (2, .int v2), (3, .int v3)]) : pj_W K H lo 44 ls [] := by
  unfold PJ_all_44 at h
  refine pj_iload_n C dd_PJ_all_44 rfl hl 3 rfl ?_
  refine pj_iconst (v := (nI 1)) C dd_PJ_all_45 rfl ?_
  refine pj_ic_gt C h dd_PJ_all_46 (fun h => ?_) (fun h => ?_)
  · exact bt_PJ_all_74 hB C Q s28 k28 _ _ _ _ _ _ h P (lv_sub hl [0, 1, 2] rfl)
  · refine pj_aload_n C dd_PJ_all_49 rfl hl 0 rfl ?_
    refine pj_iload_n C dd_PJ_all_50 rfl hl 2 rfl ?_
    refine pj_iload_n C dd_PJ_all_51 rfl hl 3 rfl ?_
    obtain ⟨r3, z2, e1, h⟩ := pj_cE h
    refine pj_cVi (st := []) [.int v2, .int v3] C P 0 (LC0 hB) rfl (ct_PJ_undoesAll hB e1) cl_PJ_234 rfl (by decide) (by decide) hl.1 (Nat.le_of_ble_eq_true rfl) dd_PJ_all_52 (fun H lo P => ?_)
    refine pj_if_eq C h dd_PJ_all_55 (fun h => ?_) (fun h => ?_)
    · refine pj_iinc (v := (nI 1)) [(0, .ref (B.2.1 0)), (1, .int v1), (2, .int v2)] C h rfl dd_PJ_all_68 hl 3 rfl (by decide) rfl (fun x4 ls h hl => ?_)
      refine pj_goto C dd_PJ_all_71 ?_
      exact k44 _ _ _ _ _ _ _ h P (lv_sub hl [1, 2, 3, 0] rfl)
    · exact bt_PJ_all_58 hB C Q _ _ _ _ _ _ _ h P (lv_sub hl [1, 2, 3] rfl)
theorem lt_PJ_all_44 {B : pj_B} {A : Nat → Prop} {K : pj_K} {r0 : Int32} {z0 : pj_S} (hB : B.2.2.2.1 = pj_LC) (C : pj_C B A K cX10_all 4 RX10 6) (Q : pj_Qi B A K (some .int) r0 z0) (s28 : Int32 → Int32 → pj_S → Option (Int32 × pj_S)) (k28 : ∀ (v1 : Int32) (v2 : Int32) (z : pj_S) (H : Heap) (lo : List Loc) (ls : Array Slot), s28 v1 v2 z = some (r0, z0) → pj_P B A K z H lo → lv_has ls 4 [(0, .ref (B.2.1 0)), (1, .int v1), (2, .int v2)] → pj_W K H lo 28 ls []) : ∀ (n : Nat) (v1 : Int32) (v2 : Int32) (v3 : Int32) (z : pj_S) (H : Heap) (lo : List Loc) (ls : Array Slot), pj_lp3 (PJ_all_44 s28) n v1 v2 v3 z = some (r0, z0) → pj_P B A K z H lo → lv_has ls 4 [(0, .ref (B.2.1 0)), (1, .int v1), (2, .int v2), (3, .int v3)] → pj_W K H lo 44 ls [] := by
  intro n
  induction n with
  | zero => intro v1 v2 v3 z H lo ls h; rw [pj_lp3_0] at h; cases h
  | succ n ih =>
    intro v1 v2 v3 z H lo ls h P hl
    rw [pj_lp3_s] at h
    exact bt_PJ_all_44 hB C Q  s28 k28 (pj_lp3 (PJ_all_44 s28) n) ih v1 v2 v3 z H lo ls h P hl
set_option maxHeartbeats 4000000 in
set_option maxRecDepth 100000 in
theorem bt_PJ_all_28 {B : pj_B} {A : Nat → Prop} {K : pj_K} {r0 : Int32} {z0 : pj_S} (hB : B.2.2.2.1 = pj_LC) (C : pj_C B A K cX10_all 4 RX10 6) (Q : pj_Qi B A K (some .int) r0 z0) (s28 : Int32 → Int32 → pj_S → Option (Int32 × pj_S)) (k28 : ∀ (v1 : Int32) (v2 : Int32) (z : pj_S) (H : Heap) (lo : List Loc) (ls : Array Slot), s28 v1 v2 z = some (r0, z0) → pj_P B A K z H lo → lv_has ls 4 [(0, .ref (B.2.1 0)), (1, .int v1), (2, .int v2)] → pj_W K H lo 28 ls []) (v1 : Int32) (v2 : Int32) (z : pj_S) (H : Heap) (lo : List Loc) (ls : Array Slot) (h : PJ_all_28 s28 v1 v2 z = some (r0, z0)) (P : pj_P B A K z H lo) (hl : lv_has ls 4 [(0, .ref (B.2.1 0)), (1, .int v1), (2, .int v2)]) : pj_W K H lo 28 ls [] := by
  unfold PJ_all_28 at h
  refine pj_iload_n C dd_PJ_all_28 rfl hl 2 rfl ?_
  refine pj_aload_n C dd_PJ_all_29 rfl hl 0 rfl ?_
  refine pj_getR C P 0 (LC0 hB) rfl fl_PJ_10 dd_PJ_all_30 ?_
  refine pj_getR C P 1 (LC1 hB) rfl fl_PJ_65 dd_PJ_all_33 ?_
  obtain ⟨r3, z2, e1, h⟩ := pj_cE h
  refine pj_cVi (st := [.int v2]) [] C P 8 (LC8 hB) rfl (ct_Fabric_places hB e1) cl_PJ_183 rfl (by decide) (by decide) hl.1 (Nat.le_of_ble_eq_true rfl) dd_PJ_all_36 (fun H lo P => ?_)
  refine pj_ic_ge C h dd_PJ_all_39 (fun h => ?_) (fun h => ?_)
  · refine pj_iconst (v := (-1 : Int32)) C dd_PJ_all_80 rfl ?_
    exact pj_iret C Q P h dd_PJ_all_81
  · refine pj_iconst (v := (nI 0)) C dd_PJ_all_42 rfl ?_
    refine pj_istore_n [(3, .int (nI 0)), (0, .ref (B.2.1 0)), (1, .int v1), (2, .int v2)] C dd_PJ_all_43 rfl hl (by decide) rfl (fun ls hl => ?_)
    exact lt_PJ_all_44 hB C Q s28 k28 4000 _ _ _ _ _ _ _ h P (lv_sub hl [1, 2, 3, 0] rfl)
theorem lt_PJ_all_28 {B : pj_B} {A : Nat → Prop} {K : pj_K} {r0 : Int32} {z0 : pj_S} (hB : B.2.2.2.1 = pj_LC) (C : pj_C B A K cX10_all 4 RX10 6) (Q : pj_Qi B A K (some .int) r0 z0)  : ∀ (n : Nat) (v1 : Int32) (v2 : Int32) (z : pj_S) (H : Heap) (lo : List Loc) (ls : Array Slot), pj_lp2 PJ_all_28 n v1 v2 z = some (r0, z0) → pj_P B A K z H lo → lv_has ls 4 [(0, .ref (B.2.1 0)), (1, .int v1), (2, .int v2)] → pj_W K H lo 28 ls [] := by
  intro n
  induction n with
  | zero => intro v1 v2 z H lo ls h; rw [pj_lp2_0] at h; cases h
  | succ n ih =>
    intro v1 v2 z H lo ls h P hl
    rw [pj_lp2_s] at h
    exact bt_PJ_all_28 hB C Q   (pj_lp2 PJ_all_28 n) ih v1 v2 z H lo ls h P hl
set_option maxHeartbeats 4000000 in
set_option maxRecDepth 100000 in
theorem ct_PJ_all {l : Launch} {B : pj_B} (hB : B.2.2.2.1 = pj_LC) {v1 : Int32} {z : pj_S} {r0 : Int32} {z0 : pj_S} (h : PJ_all v1 z = some (r0, z0)) : pj_Mi l yX10_all cX10_all 4 (some .int) 6 [.ref (B.2.1 0), .int v1] B z r0 z0 := by
  refine pj_meti (own := RX10) (by decide +kernel) rfl (Nat.le_of_ble_eq_true rfl) ?_
  intro A K hK C Q H lo ls P hl
  have hl : lv_has ls 4 [(0, .ref (B.2.1 0)), (1, .int v1)] := hl
  unfold PJ_all at h
  refine pj_iload_n C dd_PJ_all_0 rfl hl 1 rfl ?_
  refine pj_if_lt C h dd_PJ_all_1 (fun h => ?_) (fun h => ?_)
  · refine pj_iconst (v := (-1 : Int32)) C dd_PJ_all_24 rfl ?_
    exact pj_iret C Q P h dd_PJ_all_25
  · refine pj_iload_n C dd_PJ_all_4 rfl hl 1 rfl ?_
    refine pj_iconst (v := (nI 1)) C dd_PJ_all_5 rfl ?_
    refine pj_ic_gt C h dd_PJ_all_6 (fun h => ?_) (fun h => ?_)
    · refine pj_iconst (v := (-1 : Int32)) C dd_PJ_all_24 rfl ?_
      exact pj_iret C Q P h dd_PJ_all_25
    · refine pj_aload_n C dd_PJ_all_9 rfl hl 0 rfl ?_
      refine pj_getR C P 0 (LC0 hB) rfl fl_PJ_10 dd_PJ_all_10 ?_
      refine pj_getR C P 1 (LC1 hB) rfl fl_PJ_65 dd_PJ_all_13 ?_
      refine pj_getJ C P 8 (LC8 hB) rfl fl_PJ_155 dd_PJ_all_16 ?_
      refine pj_lconst (v := (0 : Int64)) C dd_PJ_all_19 rfl ?_
      refine pj_lcmp C dd_PJ_all_20 ?_
      refine pj_if_ne C h dd_PJ_all_21 (fun h => ?_) (fun h => ?_)
      · refine pj_iconst (v := (nI 0)) C dd_PJ_all_26 rfl ?_
        refine pj_istore_n [(2, .int (nI 0)), (0, .ref (B.2.1 0)), (1, .int v1)] C dd_PJ_all_27 rfl hl (by decide) rfl (fun ls hl => ?_)
        exact lt_PJ_all_28 hB C Q 4000 _ _ _ _ _ _ h P (lv_sub hl [1, 2, 0] rfl)
      · refine pj_iconst (v := (-1 : Int32)) C dd_PJ_all_24 rfl ?_
        exact pj_iret C Q P h dd_PJ_all_25
theorem dd_Fabric_cutsAround_0 : pj_d cX1_cutsAround 0 (.iconst 0) 1 1 := ⟨by decide +kernel, rfl⟩
theorem dd_Fabric_cutsAround_1 : pj_d cX1_cutsAround 1 (.istore_n 3) 1 2 := ⟨by decide +kernel, rfl⟩
theorem dd_Fabric_cutsAround_2 : pj_d cX1_cutsAround 2 (.iconst 0) 1 3 := ⟨by decide +kernel, rfl⟩
theorem dd_Fabric_cutsAround_3 : pj_d cX1_cutsAround 3 (.istore 4) 2 5 := ⟨by decide +kernel, rfl⟩
theorem dd_Fabric_cutsAround_5 : pj_d cX1_cutsAround 5 (.iload 4) 2 7 := ⟨by decide +kernel, rfl⟩
theorem dd_Fabric_cutsAround_7 : pj_d cX1_cutsAround 7 (.iconst 1) 1 8 := ⟨by decide +kernel, rfl⟩
theorem dd_Fabric_cutsAround_8 : pj_d cX1_cutsAround 8 (.iadd) 1 9 := ⟨by decide +kernel, rfl⟩
theorem dd_Fabric_cutsAround_9 : pj_d cX1_cutsAround 9 (.aload_n 0) 1 10 := ⟨by decide +kernel, rfl⟩
theorem dd_Fabric_cutsAround_10 : pj_d cX1_cutsAround 10 (.invokevirtual 73) 3 13 := ⟨by decide +kernel, rfl⟩
theorem dd_Fabric_cutsAround_13 : pj_dj cX1_cutsAround 13 (.if_icmp .ge 94) 94 16 107 := ⟨by decide +kernel, rfl, by decide⟩
theorem dd_Fabric_cutsAround_16 : pj_d cX1_cutsAround 16 (.aload_n 0) 1 17 := ⟨by decide +kernel, rfl⟩
theorem dd_Fabric_cutsAround_17 : pj_d cX1_cutsAround 17 (.iload 4) 2 19 := ⟨by decide +kernel, rfl⟩
theorem dd_Fabric_cutsAround_19 : pj_d cX1_cutsAround 19 (.invokevirtual 83) 3 22 := ⟨by decide +kernel, rfl⟩
theorem dd_Fabric_cutsAround_22 : pj_d cX1_cutsAround 22 (.istore 5) 2 24 := ⟨by decide +kernel, rfl⟩
theorem dd_Fabric_cutsAround_24 : pj_d cX1_cutsAround 24 (.aload_n 0) 1 25 := ⟨by decide +kernel, rfl⟩
theorem dd_Fabric_cutsAround_25 : pj_d cX1_cutsAround 25 (.iload 4) 2 27 := ⟨by decide +kernel, rfl⟩
theorem dd_Fabric_cutsAround_27 : pj_d cX1_cutsAround 27 (.iconst 1) 1 28 := ⟨by decide +kernel, rfl⟩
theorem dd_Fabric_cutsAround_28 : pj_d cX1_cutsAround 28 (.iadd) 1 29 := ⟨by decide +kernel, rfl⟩
theorem dd_Fabric_cutsAround_29 : pj_d cX1_cutsAround 29 (.invokevirtual 83) 3 32 := ⟨by decide +kernel, rfl⟩
theorem dd_Fabric_cutsAround_32 : pj_d cX1_cutsAround 32 (.istore 6) 2 34 := ⟨by decide +kernel, rfl⟩
theorem dd_Fabric_cutsAround_34 : pj_d cX1_cutsAround 34 (.aload_n 0) 1 35 := ⟨by decide +kernel, rfl⟩
theorem dd_Fabric_cutsAround_35 : pj_d cX1_cutsAround 35 (.iload 4) 2 37 := ⟨by decide +kernel, rfl⟩
theorem dd_Fabric_cutsAround_37 : pj_d cX1_cutsAround 37 (.iload 4) 2 39 := ⟨by decide +kernel, rfl⟩
theorem dd_Fabric_cutsAround_39 : pj_d cX1_cutsAround 39 (.iconst 1) 1 40 := ⟨by decide +kernel, rfl⟩
theorem dd_Fabric_cutsAround_40 : pj_d cX1_cutsAround 40 (.iadd) 1 41 := ⟨by decide +kernel, rfl⟩
theorem dd_Fabric_cutsAround_41 : pj_d cX1_cutsAround 41 (.invokevirtual 87) 3 44 := ⟨by decide +kernel, rfl⟩
theorem dd_Fabric_cutsAround_44 : pj_dj cX1_cutsAround 44 (.ifCond .eq 31) 31 47 75 := ⟨by decide +kernel, rfl, by decide⟩
theorem dd_Fabric_cutsAround_47 : pj_d cX1_cutsAround 47 (.aload_n 0) 1 48 := ⟨by decide +kernel, rfl⟩
theorem dd_Fabric_cutsAround_48 : pj_d cX1_cutsAround 48 (.getfield 42) 3 51 := ⟨by decide +kernel, rfl⟩
theorem dd_Fabric_cutsAround_51 : pj_d cX1_cutsAround 51 (.iload 5) 2 53 := ⟨by decide +kernel, rfl⟩
theorem dd_Fabric_cutsAround_53 : pj_d cX1_cutsAround 53 (.invokestatic 48) 3 56 := ⟨by decide +kernel, rfl⟩
theorem dd_Fabric_cutsAround_56 : pj_dj cX1_cutsAround 56 (.ifCond .ne 19) 19 59 75 := ⟨by decide +kernel, rfl, by decide⟩
theorem dd_Fabric_cutsAround_59 : pj_d cX1_cutsAround 59 (.aload_n 0) 1 60 := ⟨by decide +kernel, rfl⟩
theorem dd_Fabric_cutsAround_60 : pj_d cX1_cutsAround 60 (.getfield 42) 3 63 := ⟨by decide +kernel, rfl⟩
theorem dd_Fabric_cutsAround_63 : pj_d cX1_cutsAround 63 (.iload 6) 2 65 := ⟨by decide +kernel, rfl⟩
theorem dd_Fabric_cutsAround_65 : pj_d cX1_cutsAround 65 (.invokestatic 48) 3 68 := ⟨by decide +kernel, rfl⟩
theorem dd_Fabric_cutsAround_68 : pj_dj cX1_cutsAround 68 (.ifCond .ne 7) 7 71 75 := ⟨by decide +kernel, rfl, by decide⟩
theorem dd_Fabric_cutsAround_71 : pj_d cX1_cutsAround 71 (.iconst 1) 1 72 := ⟨by decide +kernel, rfl⟩
theorem dd_Fabric_cutsAround_72 : pj_dj cX1_cutsAround 72 (.goto 4) 4 75 76 := ⟨by decide +kernel, rfl, by decide⟩
theorem dd_Fabric_cutsAround_75 : pj_d cX1_cutsAround 75 (.iconst 0) 1 76 := ⟨by decide +kernel, rfl⟩
theorem dd_Fabric_cutsAround_76 : pj_d cX1_cutsAround 76 (.istore 7) 2 78 := ⟨by decide +kernel, rfl⟩
theorem dd_Fabric_cutsAround_78 : pj_d cX1_cutsAround 78 (.iload 7) 2 80 := ⟨by decide +kernel, rfl⟩
theorem dd_Fabric_cutsAround_80 : pj_dj cX1_cutsAround 80 (.ifCond .eq 21) 21 83 101 := ⟨by decide +kernel, rfl, by decide⟩
theorem dd_Fabric_cutsAround_83 : pj_d cX1_cutsAround 83 (.lload_n 1) 1 84 := ⟨by decide +kernel, rfl⟩
theorem dd_Fabric_cutsAround_84 : pj_d cX1_cutsAround 84 (.iload 5) 2 86 := ⟨by decide +kernel, rfl⟩
theorem dd_Fabric_cutsAround_86 : pj_d cX1_cutsAround 86 (.invokestatic 48) 3 89 := ⟨by decide +kernel, rfl⟩
theorem dd_Fabric_cutsAround_89 : pj_d cX1_cutsAround 89 (.lload_n 1) 1 90 := ⟨by decide +kernel, rfl⟩
theorem dd_Fabric_cutsAround_90 : pj_d cX1_cutsAround 90 (.iload 6) 2 92 := ⟨by decide +kernel, rfl⟩
theorem dd_Fabric_cutsAround_92 : pj_d cX1_cutsAround 92 (.invokestatic 48) 3 95 := ⟨by decide +kernel, rfl⟩
theorem dd_Fabric_cutsAround_95 : pj_dj cX1_cutsAround 95 (.if_icmp .eq 6) 6 98 101 := ⟨by decide +kernel, rfl, by decide⟩
theorem dd_Fabric_cutsAround_98 : pj_d cX1_cutsAround 98 (.iinc 3 1) 3 101 := ⟨by decide +kernel, rfl⟩
theorem dd_Fabric_cutsAround_101 : pj_d cX1_cutsAround 101 (.iinc 4 1) 3 104 := ⟨by decide +kernel, rfl⟩
theorem dd_Fabric_cutsAround_104 : pj_dj cX1_cutsAround 104 (.goto (-99)) (-99) 107 5 := ⟨by decide +kernel, rfl, by decide⟩
theorem dd_Fabric_cutsAround_107 : pj_d cX1_cutsAround 107 (.iload_n 3) 1 108 := ⟨by decide +kernel, rfl⟩
theorem dd_Fabric_cutsAround_108 : pj_d cX1_cutsAround 108 (.ireturn) 1 109 := ⟨by decide +kernel, rfl⟩
set_option maxHeartbeats 4000000 in
set_option maxRecDepth 100000 in
theorem bt_Fabric_cutsAround_101 {B : pj_B} {A : Nat → Prop} {K : pj_K} {r0 : Int32} {z0 : pj_S} (hB : B.2.2.2.1 = pj_LC) (C : pj_C B A K cX1_cutsAround 8 RX1 3) (Q : pj_Qi B A K (some .int) r0 z0) (s5 : Int64 → Int32 → Int32 → pj_S → Option (Int32 × pj_S)) (k5 : ∀ (v1 : Int64) (v3 : Int32) (v4 : Int32) (z : pj_S) (H : Heap) (lo : List Loc) (ls : Array Slot), s5 v1 v3 v4 z = some (r0, z0) → pj_P B A K z H lo → lv_has ls 8 [(0, .ref (B.2.1 8)), (1, .long v1), (3, .int v3), (4, .int v4)] → pj_W K H lo 5 ls []) (v1 : Int64) (v3 : Int32) (v4 : Int32) (z : pj_S) (H : Heap) (lo : List Loc) (ls : Array Slot) (h : Fabric_cutsAround_101 s5 v1 v3 v4 z = some (r0, z0)) (P : pj_P B A K z H lo) (hl : lv_has ls 8 [(0, .ref (B.2.1 8)), (1, .long v1), (3, .int v3), (4, .int v4)]) : pj_W K H lo 101 ls [] := by
  unfold Fabric_cutsAround_101 at h
  refine pj_iinc (v := (nI 1)) [(0, .ref (B.2.1 8)), (1, .long v1), (3, .int v3)] C h rfl dd_Fabric_cutsAround_101 hl 3 rfl (by decide) rfl (fun x1 ls h hl => ?_)
  refine pj_goto C dd_Fabric_cutsAround_104 ?_
  exact k5 _ _ _ _ _ _ _ h P (lv_sub hl [1, 2, 3, 0] rfl)
set_option maxHeartbeats 4000000 in
set_option maxRecDepth 100000 in
theorem bt_Fabric_cutsAround_76 {B : pj_B} {A : Nat → Prop} {K : pj_K} {r0 : Int32} {z0 : pj_S} (hB : B.2.2.2.1 = pj_LC) (C : pj_C B A K cX1_cutsAround 8 RX1 3) (Q : pj_Qi B A K (some .int) r0 z0) (s5 : Int64 → Int32 → Int32 → pj_S → Option (Int32 × pj_S)) (k5 : ∀ (v1 : Int64) (v3 : Int32) (v4 : Int32) (z : pj_S) (H : Heap) (lo : List Loc) (ls : Array Slot), s5 v1 v3 v4 z = some (r0, z0) → pj_P B A K z H lo → lv_has ls 8 [(0, .ref (B.2.1 8)), (1, .long v1), (3, .int v3), (4, .int v4)] → pj_W K H lo 5 ls []) (v1 : Int64) (v3 : Int32) (v4 : Int32) (v5 : Int32) (v6 : Int32) (t0 : Int32) (z : pj_S) (H : Heap) (lo : List Loc) (ls : Array Slot) (h : Fabric_cutsAround_76 s5 v1 v3 v4 v5 v6 t0 z = some (r0, z0)) (P : pj_P B A K z H lo) (hl : lv_has ls 8 [(0, .ref (B.2.1 8)), (1, .long v1), (3, .int v3), (4, .int v4), (5, .int v5), (6, .int v6)]) : pj_W K H lo 76 ls [.int t0] := by
  unfold Fabric_cutsAround_76 at h
  refine pj_istore [(7, .int t0), (0, .ref (B.2.1 8)), (1, .long v1), (3, .int v3), (4, .int v4), (5, .int v5), (6, .int v6)] C dd_Fabric_cutsAround_76 hl (by decide) rfl (fun ls hl => ?_)
  refine pj_iload C dd_Fabric_cutsAround_78 hl 0 rfl ?_
  refine pj_if_eq C h dd_Fabric_cutsAround_80 (fun h => ?_) (fun h => ?_)
  · exact bt_Fabric_cutsAround_101 hB C Q s5 k5 _ _ _ _ _ _ _ h P (lv_sub hl [1, 2, 3, 4] rfl)
  · refine pj_lload_n C dd_Fabric_cutsAround_83 rfl hl 2 rfl ?_
    refine pj_iload C dd_Fabric_cutsAround_84 hl 5 rfl ?_
    obtain ⟨r3, z2, e1, h⟩ := pj_cE h
    refine pj_cNi (st := []) [.long v1, .int v5] C P (ct_PJ_bitOf hB e1) cl_Fabric_48 rfl (by decide) (by decide) hl.1 (Nat.le_of_ble_eq_true rfl) dd_Fabric_cutsAround_86 (fun H lo P => ?_)
    refine pj_lload_n C dd_Fabric_cutsAround_89 rfl hl 2 rfl ?_
    refine pj_iload C dd_Fabric_cutsAround_90 hl 6 rfl ?_
    obtain ⟨r6, z5, e4, h⟩ := pj_cE h
    refine pj_cNi (st := [.int r3]) [.long v1, .int v6] C P (ct_PJ_bitOf hB e4) cl_Fabric_48 rfl (by decide) (by decide) hl.1 (Nat.le_of_ble_eq_true rfl) dd_Fabric_cutsAround_92 (fun H lo P => ?_)
    refine pj_ic_eq C h dd_Fabric_cutsAround_95 (fun h => ?_) (fun h => ?_)
    · exact bt_Fabric_cutsAround_101 hB C Q s5 k5 _ _ _ _ _ _ _ h P (lv_sub hl [1, 2, 3, 4] rfl)
    · refine pj_iinc (v := (nI 1)) [(7, .int t0), (0, .ref (B.2.1 8)), (1, .long v1), (4, .int v4), (5, .int v5), (6, .int v6)] C h rfl dd_Fabric_cutsAround_98 hl 3 rfl (by decide) rfl (fun x7 ls h hl => ?_)
      exact bt_Fabric_cutsAround_101 hB C Q s5 k5 _ _ _ _ _ _ _ h P (lv_sub hl [2, 3, 0, 4] rfl)
set_option maxHeartbeats 4000000 in
set_option maxRecDepth 100000 in
theorem bt_Fabric_cutsAround_75 {B : pj_B} {A : Nat → Prop} {K : pj_K} {r0 : Int32} {z0 : pj_S} (hB : B.2.2.2.1 = pj_LC) (C : pj_C B A K cX1_cutsAround 8 RX1 3) (Q : pj_Qi B A K (some .int) r0 z0) (s5 : Int64 → Int32 → Int32 → pj_S → Option (Int32 × pj_S)) (k5 : ∀ (v1 : Int64) (v3 : Int32) (v4 : Int32) (z : pj_S) (H : Heap) (lo : List Loc) (ls : Array Slot), s5 v1 v3 v4 z = some (r0, z0) → pj_P B A K z H lo → lv_has ls 8 [(0, .ref (B.2.1 8)), (1, .long v1), (3, .int v3), (4, .int v4)] → pj_W K H lo 5 ls []) (v1 : Int64) (v3 : Int32) (v4 : Int32) (v5 : Int32) (v6 : Int32) (z : pj_S) (H : Heap) (lo : List Loc) (ls : Array Slot) (h : Fabric_cutsAround_75 s5 v1 v3 v4 v5 v6 z = some (r0, z0)) (P : pj_P B A K z H lo) (hl : lv_has ls 8 [(0, .ref (B.2.1 8)), (1, .long v1), (3, .int v3), (4, .int v4), (5, .int v5), (6, .int v6)]) : pj_W K H lo 75 ls [] := by
  unfold Fabric_cutsAround_75 at h
  refine pj_iconst (v := (nI 0)) C dd_Fabric_cutsAround_75 rfl ?_
  exact bt_Fabric_cutsAround_76 hB C Q s5 k5 _ _ _ _ _ _ _ _ _ _ h P (lv_sub hl [0, 1, 2, 3, 4, 5] rfl)
set_option maxHeartbeats 4000000 in
set_option maxRecDepth 100000 in
theorem bt_Fabric_cutsAround_5 {B : pj_B} {A : Nat → Prop} {K : pj_K} {r0 : Int32} {z0 : pj_S} (hB : B.2.2.2.1 = pj_LC) (C : pj_C B A K cX1_cutsAround 8 RX1 3) (Q : pj_Qi B A K (some .int) r0 z0) (s5 : Int64 → Int32 → Int32 → pj_S → Option (Int32 × pj_S)) (k5 : ∀ (v1 : Int64) (v3 : Int32) (v4 : Int32) (z : pj_S) (H : Heap) (lo : List Loc) (ls : Array Slot), s5 v1 v3 v4 z = some (r0, z0) → pj_P B A K z H lo → lv_has ls 8 [(0, .ref (B.2.1 8)), (1, .long v1), (3, .int v3), (4, .int v4)] → pj_W K H lo 5 ls []) (v1 : Int64) (v3 : Int32) (v4 : Int32) (z : pj_S) (H : Heap) (lo : List Loc) (ls : Array Slot) (h : Fabric_cutsAround_5 s5 v1 v3 v4 z = some (r0, z0)) (P : pj_P B A K z H lo) (hl : lv_has ls 8 [(0, .ref (B.2.1 8)), (1, .long v1), (3, .int v3), (4, .int v4)]) : pj_W K H lo 5 ls [] := by
  unfold Fabric_cutsAround_5 at h
  refine pj_iload C dd_Fabric_cutsAround_5 hl 3 rfl ?_
  refine pj_iconst (v := (nI 1)) C dd_Fabric_cutsAround_7 rfl ?_
  refine pj_iadd C dd_Fabric_cutsAround_8 ?_
  refine pj_aload_n C dd_Fabric_cutsAround_9 rfl hl 0 rfl ?_
  obtain ⟨r3, z2, e1, h⟩ := pj_cE h
  refine pj_cVi (st := [.int (v4 + (nI 1))]) [] C P 8 (LC8 hB) rfl (ct_Fabric_places hB e1) cl_Fabric_73 rfl (by decide) (by decide) hl.1 (Nat.le_of_ble_eq_true rfl) dd_Fabric_cutsAround_10 (fun H lo P => ?_)
  refine pj_ic_ge C h dd_Fabric_cutsAround_13 (fun h => ?_) (fun h => ?_)
  · refine pj_iload_n C dd_Fabric_cutsAround_107 rfl hl 2 rfl ?_
    exact pj_iret C Q P h dd_Fabric_cutsAround_108
  · refine pj_aload_n C dd_Fabric_cutsAround_16 rfl hl 0 rfl ?_
    refine pj_iload C dd_Fabric_cutsAround_17 hl 3 rfl ?_
    obtain ⟨r6, z5, e4, h⟩ := pj_cE h
    refine pj_cVi (st := []) [.int v4] C P 8 (LC8 hB) rfl (ct_Fabric_stitchAt hB e4) cl_Fabric_83 rfl (by decide) (by decide) hl.1 (Nat.le_of_ble_eq_true rfl) dd_Fabric_cutsAround_19 (fun H lo P => ?_)
    refine pj_istore [(5, .int r6), (0, .ref (B.2.1 8)), (1, .long v1), (3, .int v3), (4, .int v4)] C dd_Fabric_cutsAround_22 hl (by decide) rfl (fun ls hl => ?_)
    refine pj_aload_n C dd_Fabric_cutsAround_24 rfl hl 1 rfl ?_
    refine pj_iload C dd_Fabric_cutsAround_25 hl 4 rfl ?_
    refine pj_iconst (v := (nI 1)) C dd_Fabric_cutsAround_27 rfl ?_
    refine pj_iadd C dd_Fabric_cutsAround_28 ?_
    obtain ⟨r9, z8, e7, h⟩ := pj_cE h
    refine pj_cVi (st := []) [.int (v4 + (nI 1))] C P 8 (LC8 hB) rfl (ct_Fabric_stitchAt hB e7) cl_Fabric_83 rfl (by decide) (by decide) hl.1 (Nat.le_of_ble_eq_true rfl) dd_Fabric_cutsAround_29 (fun H lo P => ?_)
    refine pj_istore [(6, .int r9), (5, .int r6), (0, .ref (B.2.1 8)), (1, .long v1), (3, .int v3), (4, .int v4)] C dd_Fabric_cutsAround_32 hl (by decide) rfl (fun ls hl => ?_)
    refine pj_aload_n C dd_Fabric_cutsAround_34 rfl hl 2 rfl ?_
    refine pj_iload C dd_Fabric_cutsAround_35 hl 5 rfl ?_
    refine pj_iload C dd_Fabric_cutsAround_37 hl 5 rfl ?_
    refine pj_iconst (v := (nI 1)) C dd_Fabric_cutsAround_39 rfl ?_
    refine pj_iadd C dd_Fabric_cutsAround_40 ?_
    obtain ⟨r12, z11, e10, h⟩ := pj_cE h
    refine pj_cVi (st := []) [.int v4, .int (v4 + (nI 1))] C P 8 (LC8 hB) rfl (ct_Fabric_hasThreadBetween hB e10) cl_Fabric_87 rfl (by decide) (by decide) hl.1 (Nat.le_of_ble_eq_true rfl) dd_Fabric_cutsAround_41 (fun H lo P => ?_)
    refine pj_if_eq C h dd_Fabric_cutsAround_44 (fun h => ?_) (fun h => ?_)
    · exact bt_Fabric_cutsAround_75 hB C Q s5 k5 _ _ _ _ _ _ _ _ _ h P (lv_sub hl [2, 3, 4, 5, 1, 0] rfl)
    · refine pj_aload_n C dd_Fabric_cutsAround_47 rfl hl 2 rfl ?_
      refine pj_getJ C P 8 (LC8 hB) rfl fl_Fabric_42 dd_Fabric_cutsAround_48 ?_
      refine pj_iload C dd_Fabric_cutsAround_51 hl 1 rfl ?_
      obtain ⟨r15, z14, e13, h⟩ := pj_cE h
      refine pj_cNi (st := []) [.long (z11.2 8 8), .int r6] C P (ct_PJ_bitOf hB e13) cl_Fabric_48 rfl (by decide) (by decide) hl.1 (Nat.le_of_ble_eq_true rfl) dd_Fabric_cutsAround_53 (fun H lo P => ?_)
      refine pj_if_ne C h dd_Fabric_cutsAround_56 (fun h => ?_) (fun h => ?_)
      · exact bt_Fabric_cutsAround_75 hB C Q s5 k5 _ _ _ _ _ _ _ _ _ h P (lv_sub hl [2, 3, 4, 5, 1, 0] rfl)
      · refine pj_aload_n C dd_Fabric_cutsAround_59 rfl hl 2 rfl ?_
        refine pj_getJ C P 8 (LC8 hB) rfl fl_Fabric_42 dd_Fabric_cutsAround_60 ?_
        refine pj_iload C dd_Fabric_cutsAround_63 hl 0 rfl ?_
        obtain ⟨r18, z17, e16, h⟩ := pj_cE h
        refine pj_cNi (st := []) [.long (z14.2 8 8), .int r9] C P (ct_PJ_bitOf hB e16) cl_Fabric_48 rfl (by decide) (by decide) hl.1 (Nat.le_of_ble_eq_true rfl) dd_Fabric_cutsAround_65 (fun H lo P => ?_)
        refine pj_if_ne C h dd_Fabric_cutsAround_68 (fun h => ?_) (fun h => ?_)
        · exact bt_Fabric_cutsAround_75 hB C Q s5 k5 _ _ _ _ _ _ _ _ _ h P (lv_sub hl [2, 3, 4, 5, 1, 0] rfl)
        · refine pj_iconst (v := (nI 1)) C dd_Fabric_cutsAround_71 rfl ?_
          refine pj_goto C dd_Fabric_cutsAround_72 ?_
          exact bt_Fabric_cutsAround_76 hB C Q s5 k5 _ _ _ _ _ _ _ _ _ _ h P (lv_sub hl [2, 3, 4, 5, 1, 0] rfl)
theorem lt_Fabric_cutsAround_5 {B : pj_B} {A : Nat → Prop} {K : pj_K} {r0 : Int32} {z0 : pj_S} (hB : B.2.2.2.1 = pj_LC) (C : pj_C B A K cX1_cutsAround 8 RX1 3) (Q : pj_Qi B A K (some .int) r0 z0)  : ∀ (n : Nat) (v1 : Int64) (v3 : Int32) (v4 : Int32) (z : pj_S) (H : Heap) (lo : List Loc) (ls : Array Slot), pj_lp3 Fabric_cutsAround_5 n v1 v3 v4 z = some (r0, z0) → pj_P B A K z H lo → lv_has ls 8 [(0, .ref (B.2.1 8)), (1, .long v1), (3, .int v3), (4, .int v4)] → pj_W K H lo 5 ls [] := by
  intro n
  induction n with
  | zero => intro v1 v3 v4 z H lo ls h; rw [pj_lp3_0] at h; cases h
  | succ n ih =>
    intro v1 v3 v4 z H lo ls h P hl
    rw [pj_lp3_s] at h
    exact bt_Fabric_cutsAround_5 hB C Q   (pj_lp3 Fabric_cutsAround_5 n) ih v1 v3 v4 z H lo ls h P hl
set_option maxHeartbeats 4000000 in
set_option maxRecDepth 100000 in
theorem ct_Fabric_cutsAround {l : Launch} {B : pj_B} (hB : B.2.2.2.1 = pj_LC) {v1 : Int64} {z : pj_S} {r0 : Int32} {z0 : pj_S} (h : Fabric_cutsAround v1 z = some (r0, z0)) : pj_Mi l yX1_cutsAround cX1_cutsAround 8 (some .int) 3 [.ref (B.2.1 8), .long v1] B z r0 z0 := by
  refine pj_meti (own := RX1) (by decide +kernel) rfl (Nat.le_of_ble_eq_true rfl) ?_
  intro A K hK C Q H lo ls P hl
  have hl : lv_has ls 8 [(0, .ref (B.2.1 8)), (1, .long v1)] := hl
  unfold Fabric_cutsAround at h
  refine pj_iconst (v := (nI 0)) C dd_Fabric_cutsAround_0 rfl ?_
  refine pj_istore_n [(3, .int (nI 0)), (0, .ref (B.2.1 8)), (1, .long v1)] C dd_Fabric_cutsAround_1 rfl hl (by decide) rfl (fun ls hl => ?_)
  refine pj_iconst (v := (nI 0)) C dd_Fabric_cutsAround_2 rfl ?_
  refine pj_istore [(4, .int (nI 0)), (3, .int (nI 0)), (0, .ref (B.2.1 8)), (1, .long v1)] C dd_Fabric_cutsAround_3 hl (by decide) rfl (fun ls hl => ?_)
  exact lt_Fabric_cutsAround_5 hB C Q 4000 _ _ _ _ _ _ _ h P (lv_sub hl [2, 3, 1, 0] rfl)
theorem dd_PJ_part_0 : pj_d cX10_part 0 (.aload_n 0) 1 1 := ⟨by decide +kernel, rfl⟩
theorem dd_PJ_part_1 : pj_d cX10_part 1 (.getfield 10) 3 4 := ⟨by decide +kernel, rfl⟩
theorem dd_PJ_part_4 : pj_d cX10_part 4 (.getfield 65) 3 7 := ⟨by decide +kernel, rfl⟩
theorem dd_PJ_part_7 : pj_d cX10_part 7 (.astore 5) 2 9 := ⟨by decide +kernel, rfl⟩
theorem dd_PJ_part_9 : pj_d cX10_part 9 (.iload_n 1) 1 10 := ⟨by decide +kernel, rfl⟩
theorem dd_PJ_part_10 : pj_dj cX10_part 10 (.ifCond .lt 37) 37 13 47 := ⟨by decide +kernel, rfl, by decide⟩
theorem dd_PJ_part_13 : pj_d cX10_part 13 (.iload_n 2) 1 14 := ⟨by decide +kernel, rfl⟩
theorem dd_PJ_part_14 : pj_d cX10_part 14 (.iload_n 1) 1 15 := ⟨by decide +kernel, rfl⟩
theorem dd_PJ_part_15 : pj_dj cX10_part 15 (.if_icmp .lt 32) 32 18 47 := ⟨by decide +kernel, rfl, by decide⟩
theorem dd_PJ_part_18 : pj_d cX10_part 18 (.iload_n 2) 1 19 := ⟨by decide +kernel, rfl⟩
theorem dd_PJ_part_19 : pj_d cX10_part 19 (.aload 5) 2 21 := ⟨by decide +kernel, rfl⟩
theorem dd_PJ_part_21 : pj_d cX10_part 21 (.getfield 237) 3 24 := ⟨by decide +kernel, rfl⟩
theorem dd_PJ_part_24 : pj_dj cX10_part 24 (.if_icmp .ge 23) 23 27 47 := ⟨by decide +kernel, rfl, by decide⟩
theorem dd_PJ_part_27 : pj_d cX10_part 27 (.iload_n 3) 1 28 := ⟨by decide +kernel, rfl⟩
theorem dd_PJ_part_28 : pj_dj cX10_part 28 (.ifCond .lt 19) 19 31 47 := ⟨by decide +kernel, rfl, by decide⟩
theorem dd_PJ_part_31 : pj_d cX10_part 31 (.iload 4) 2 33 := ⟨by decide +kernel, rfl⟩
theorem dd_PJ_part_33 : pj_d cX10_part 33 (.iload_n 3) 1 34 := ⟨by decide +kernel, rfl⟩
theorem dd_PJ_part_34 : pj_dj cX10_part 34 (.if_icmp .lt 13) 13 37 47 := ⟨by decide +kernel, rfl, by decide⟩
theorem dd_PJ_part_37 : pj_d cX10_part 37 (.iload 4) 2 39 := ⟨by decide +kernel, rfl⟩
theorem dd_PJ_part_39 : pj_d cX10_part 39 (.aload 5) 2 41 := ⟨by decide +kernel, rfl⟩
theorem dd_PJ_part_41 : pj_d cX10_part 41 (.getfield 240) 3 44 := ⟨by decide +kernel, rfl⟩
theorem dd_PJ_part_44 : pj_dj cX10_part 44 (.if_icmp .lt 5) 5 47 49 := ⟨by decide +kernel, rfl, by decide⟩
theorem dd_PJ_part_47 : pj_d cX10_part 47 (.iconst (-1)) 1 48 := ⟨by decide +kernel, rfl⟩
theorem dd_PJ_part_48 : pj_d cX10_part 48 (.ireturn) 1 49 := ⟨by decide +kernel, rfl⟩
theorem dd_PJ_part_49 : pj_d cX10_part 49 (.aload 5) 2 51 := ⟨by decide +kernel, rfl⟩
theorem dd_PJ_part_51 : pj_d cX10_part 51 (.iload_n 1) 1 52 := ⟨by decide +kernel, rfl⟩
theorem dd_PJ_part_52 : pj_d cX10_part 52 (.iload_n 2) 1 53 := ⟨by decide +kernel, rfl⟩
theorem dd_PJ_part_53 : pj_d cX10_part 53 (.iload_n 3) 1 54 := ⟨by decide +kernel, rfl⟩
theorem dd_PJ_part_54 : pj_d cX10_part 54 (.iload 4) 2 56 := ⟨by decide +kernel, rfl⟩
theorem dd_PJ_part_56 : pj_d cX10_part 56 (.invokestatic 243) 3 59 := ⟨by decide +kernel, rfl⟩
theorem dd_PJ_part_59 : pj_d cX10_part 59 (.invokevirtual 247) 3 62 := ⟨by decide +kernel, rfl⟩
theorem dd_PJ_part_62 : pj_d cX10_part 62 (.ireturn) 1 63 := ⟨by decide +kernel, rfl⟩
set_option maxHeartbeats 4000000 in
set_option maxRecDepth 100000 in
theorem ct_PJ_part {l : Launch} {B : pj_B} (hB : B.2.2.2.1 = pj_LC) {v1 : Int32} {v2 : Int32} {v3 : Int32} {v4 : Int32} {z : pj_S} {r0 : Int32} {z0 : pj_S} (h : PJ_part v1 v2 v3 v4 z = some (r0, z0)) : pj_Mi l yX10_part cX10_part 6 (some .int) 4 [.ref (B.2.1 0), .int v1, .int v2, .int v3, .int v4] B z r0 z0 := by
  refine pj_meti (own := RX10) (by decide +kernel) rfl (Nat.le_of_ble_eq_true rfl) ?_
  intro A K hK C Q H lo ls P hl
  have hl : lv_has ls 6 [(0, .ref (B.2.1 0)), (1, .int v1), (2, .int v2), (3, .int v3), (4, .int v4)] := hl
  unfold PJ_part at h
  refine pj_aload_n C dd_PJ_part_0 rfl hl 0 rfl ?_
  refine pj_getR C P 0 (LC0 hB) rfl fl_PJ_10 dd_PJ_part_1 ?_
  refine pj_getR C P 1 (LC1 hB) rfl fl_PJ_65 dd_PJ_part_4 ?_
  refine pj_astore [(5, .ref (B.2.1 8)), (0, .ref (B.2.1 0)), (1, .int v1), (2, .int v2), (3, .int v3), (4, .int v4)] C dd_PJ_part_7 hl (by decide) rfl (fun ls hl => ?_)
  refine pj_iload_n C dd_PJ_part_9 rfl hl 2 rfl ?_
  refine pj_if_lt C h dd_PJ_part_10 (fun h => ?_) (fun h => ?_)
  · refine pj_iconst (v := (-1 : Int32)) C dd_PJ_part_47 rfl ?_
    exact pj_iret C Q P h dd_PJ_part_48
  · refine pj_iload_n C dd_PJ_part_13 rfl hl 3 rfl ?_
    refine pj_iload_n C dd_PJ_part_14 rfl hl 2 rfl ?_
    refine pj_ic_lt C h dd_PJ_part_15 (fun h => ?_) (fun h => ?_)
    · refine pj_iconst (v := (-1 : Int32)) C dd_PJ_part_47 rfl ?_
      exact pj_iret C Q P h dd_PJ_part_48
    · refine pj_iload_n C dd_PJ_part_18 rfl hl 3 rfl ?_
      refine pj_aload C dd_PJ_part_19 hl 0 rfl ?_
      refine pj_getI C P 8 (LC8 hB) rfl fl_PJ_237 dd_PJ_part_21 ?_
      refine pj_ic_ge C h dd_PJ_part_24 (fun h => ?_) (fun h => ?_)
      · refine pj_iconst (v := (-1 : Int32)) C dd_PJ_part_47 rfl ?_
        exact pj_iret C Q P h dd_PJ_part_48
      · refine pj_iload_n C dd_PJ_part_27 rfl hl 4 rfl ?_
        refine pj_if_lt C h dd_PJ_part_28 (fun h => ?_) (fun h => ?_)
        · refine pj_iconst (v := (-1 : Int32)) C dd_PJ_part_47 rfl ?_
          exact pj_iret C Q P h dd_PJ_part_48
        · refine pj_iload C dd_PJ_part_31 hl 5 rfl ?_
          refine pj_iload_n C dd_PJ_part_33 rfl hl 4 rfl ?_
          refine pj_ic_lt C h dd_PJ_part_34 (fun h => ?_) (fun h => ?_)
          · refine pj_iconst (v := (-1 : Int32)) C dd_PJ_part_47 rfl ?_
            exact pj_iret C Q P h dd_PJ_part_48
          · refine pj_iload C dd_PJ_part_37 hl 5 rfl ?_
            refine pj_aload C dd_PJ_part_39 hl 0 rfl ?_
            refine pj_getI C P 8 (LC8 hB) rfl fl_PJ_240 dd_PJ_part_41 ?_
            refine pj_ic_lt C h dd_PJ_part_44 (fun h => ?_) (fun h => ?_)
            · refine pj_aload C dd_PJ_part_49 hl 0 rfl ?_
              refine pj_iload_n C dd_PJ_part_51 rfl hl 2 rfl ?_
              refine pj_iload_n C dd_PJ_part_52 rfl hl 3 rfl ?_
              refine pj_iload_n C dd_PJ_part_53 rfl hl 4 rfl ?_
              refine pj_iload C dd_PJ_part_54 hl 5 rfl ?_
              obtain ⟨r3, z2, e1, h⟩ := pj_cE h
              refine pj_cSl (st := [.ref (B.2.1 8)]) [.int v1, .int v2, .int v3, .int v4] C P (ct_PJ_rectangle hB e1) cl_PJ_243 rfl (by decide) (by decide) hl.1 (Nat.le_of_ble_eq_true rfl) dd_PJ_part_56 (fun H lo P => ?_)
              obtain ⟨r6, z5, e4, h⟩ := pj_cE h
              refine pj_cVi (st := []) [.long r3] C P 8 (LC8 hB) rfl (ct_Fabric_cutsAround hB e4) cl_PJ_247 rfl (by decide) (by decide) hl.1 (Nat.le_of_ble_eq_true rfl) dd_PJ_part_59 (fun H lo P => ?_)
              exact pj_iret C Q P h dd_PJ_part_62
            · refine pj_iconst (v := (-1 : Int32)) C dd_PJ_part_47 rfl ?_
              exact pj_iret C Q P h dd_PJ_part_48
theorem dd_Wool_longestBut_0 : pj_d cX9_longestBut 0 (.iconst 0) 1 1 := ⟨by decide +kernel, rfl⟩
theorem dd_Wool_longestBut_1 : pj_d cX9_longestBut 1 (.istore_n 2) 1 2 := ⟨by decide +kernel, rfl⟩
theorem dd_Wool_longestBut_2 : pj_d cX9_longestBut 2 (.iconst 0) 1 3 := ⟨by decide +kernel, rfl⟩
theorem dd_Wool_longestBut_3 : pj_d cX9_longestBut 3 (.istore_n 3) 1 4 := ⟨by decide +kernel, rfl⟩
theorem dd_Wool_longestBut_4 : pj_d cX9_longestBut 4 (.iconst 0) 1 5 := ⟨by decide +kernel, rfl⟩
theorem dd_Wool_longestBut_5 : pj_d cX9_longestBut 5 (.istore 4) 2 7 := ⟨by decide +kernel, rfl⟩
theorem dd_Wool_longestBut_7 : pj_d cX9_longestBut 7 (.iload 4) 2 9 := ⟨by decide +kernel, rfl⟩
theorem dd_Wool_longestBut_9 : pj_d cX9_longestBut 9 (.aload_n 0) 1 10 := ⟨by decide +kernel, rfl⟩
theorem dd_Wool_longestBut_10 : pj_d cX9_longestBut 10 (.getfield 21) 3 13 := ⟨by decide +kernel, rfl⟩
theorem dd_Wool_longestBut_13 : pj_dj cX9_longestBut 13 (.if_icmp .ge 38) 38 16 51 := ⟨by decide +kernel, rfl, by decide⟩
theorem dd_Wool_longestBut_16 : pj_d cX9_longestBut 16 (.iload_n 1) 1 17 := ⟨by decide +kernel, rfl⟩
theorem dd_Wool_longestBut_17 : pj_d cX9_longestBut 17 (.iload 4) 2 19 := ⟨by decide +kernel, rfl⟩
theorem dd_Wool_longestBut_19 : pj_d cX9_longestBut 19 (.iushr) 1 20 := ⟨by decide +kernel, rfl⟩
theorem dd_Wool_longestBut_20 : pj_d cX9_longestBut 20 (.iconst 1) 1 21 := ⟨by decide +kernel, rfl⟩
theorem dd_Wool_longestBut_21 : pj_d cX9_longestBut 21 (.iand) 1 22 := ⟨by decide +kernel, rfl⟩
theorem dd_Wool_longestBut_22 : pj_dj cX9_longestBut 22 (.ifCond .ne 23) 23 25 45 := ⟨by decide +kernel, rfl, by decide⟩
theorem dd_Wool_longestBut_25 : pj_d cX9_longestBut 25 (.aload_n 0) 1 26 := ⟨by decide +kernel, rfl⟩
theorem dd_Wool_longestBut_26 : pj_d cX9_longestBut 26 (.iload 4) 2 28 := ⟨by decide +kernel, rfl⟩
theorem dd_Wool_longestBut_28 : pj_d cX9_longestBut 28 (.invokevirtual 25) 3 31 := ⟨by decide +kernel, rfl⟩
theorem dd_Wool_longestBut_31 : pj_d cX9_longestBut 31 (.iload_n 3) 1 32 := ⟨by decide +kernel, rfl⟩
theorem dd_Wool_longestBut_32 : pj_dj cX9_longestBut 32 (.if_icmp .le 13) 13 35 45 := ⟨by decide +kernel, rfl, by decide⟩
theorem dd_Wool_longestBut_35 : pj_d cX9_longestBut 35 (.iload 4) 2 37 := ⟨by decide +kernel, rfl⟩
theorem dd_Wool_longestBut_37 : pj_d cX9_longestBut 37 (.istore_n 2) 1 38 := ⟨by decide +kernel, rfl⟩
theorem dd_Wool_longestBut_38 : pj_d cX9_longestBut 38 (.aload_n 0) 1 39 := ⟨by decide +kernel, rfl⟩
theorem dd_Wool_longestBut_39 : pj_d cX9_longestBut 39 (.iload 4) 2 41 := ⟨by decide +kernel, rfl⟩
theorem dd_Wool_longestBut_41 : pj_d cX9_longestBut 41 (.invokevirtual 25) 3 44 := ⟨by decide +kernel, rfl⟩
theorem dd_Wool_longestBut_44 : pj_d cX9_longestBut 44 (.istore_n 3) 1 45 := ⟨by decide +kernel, rfl⟩
theorem dd_Wool_longestBut_45 : pj_d cX9_longestBut 45 (.iinc 4 1) 3 48 := ⟨by decide +kernel, rfl⟩
theorem dd_Wool_longestBut_48 : pj_dj cX9_longestBut 48 (.goto (-41)) (-41) 51 7 := ⟨by decide +kernel, rfl, by decide⟩
theorem dd_Wool_longestBut_51 : pj_d cX9_longestBut 51 (.iload_n 2) 1 52 := ⟨by decide +kernel, rfl⟩
theorem dd_Wool_longestBut_52 : pj_d cX9_longestBut 52 (.ireturn) 1 53 := ⟨by decide +kernel, rfl⟩
set_option maxHeartbeats 4000000 in
set_option maxRecDepth 100000 in
theorem bt_Wool_longestBut_45 {B : pj_B} {A : Nat → Prop} {K : pj_K} {r0 : Int32} {z0 : pj_S} (hB : B.2.2.2.1 = pj_LC) (C : pj_C B A K cX9_longestBut 5 RX9 2) (Q : pj_Qi B A K (some .int) r0 z0) (s7 : Int32 → Int32 → Int32 → Int32 → pj_S → Option (Int32 × pj_S)) (k7 : ∀ (v1 : Int32) (v2 : Int32) (v3 : Int32) (v4 : Int32) (z : pj_S) (H : Heap) (lo : List Loc) (ls : Array Slot), s7 v1 v2 v3 v4 z = some (r0, z0) → pj_P B A K z H lo → lv_has ls 5 [(0, .ref (B.2.1 11)), (1, .int v1), (2, .int v2), (3, .int v3), (4, .int v4)] → pj_W K H lo 7 ls []) (v1 : Int32) (v2 : Int32) (v3 : Int32) (v4 : Int32) (z : pj_S) (H : Heap) (lo : List Loc) (ls : Array Slot) (h : Wool_longestBut_45 s7 v1 v2 v3 v4 z = some (r0, z0)) (P : pj_P B A K z H lo) (hl : lv_has ls 5 [(0, .ref (B.2.1 11)), (1, .int v1), (2, .int v2), (3, .int v3), (4, .int v4)]) : pj_W K H lo 45 ls [] := by
  unfold Wool_longestBut_45 at h
  refine pj_iinc (v := (nI 1)) [(0, .ref (B.2.1 11)), (1, .int v1), (2, .int v2), (3, .int v3)] C h rfl dd_Wool_longestBut_45 hl 4 rfl (by decide) rfl (fun x1 ls h hl => ?_)
  refine pj_goto C dd_Wool_longestBut_48 ?_
  exact k7 _ _ _ _ _ _ _ _ h P (lv_sub hl [1, 2, 3, 4, 0] rfl)
set_option maxHeartbeats 4000000 in
set_option maxRecDepth 100000 in
theorem bt_Wool_longestBut_7 {B : pj_B} {A : Nat → Prop} {K : pj_K} {r0 : Int32} {z0 : pj_S} (hB : B.2.2.2.1 = pj_LC) (C : pj_C B A K cX9_longestBut 5 RX9 2) (Q : pj_Qi B A K (some .int) r0 z0) (s7 : Int32 → Int32 → Int32 → Int32 → pj_S → Option (Int32 × pj_S)) (k7 : ∀ (v1 : Int32) (v2 : Int32) (v3 : Int32) (v4 : Int32) (z : pj_S) (H : Heap) (lo : List Loc) (ls : Array Slot), s7 v1 v2 v3 v4 z = some (r0, z0) → pj_P B A K z H lo → lv_has ls 5 [(0, .ref (B.2.1 11)), (1, .int v1), (2, .int v2), (3, .int v3), (4, .int v4)] → pj_W K H lo 7 ls []) (v1 : Int32) (v2 : Int32) (v3 : Int32) (v4 : Int32) (z : pj_S) (H : Heap) (lo : List Loc) (ls : Array Slot) (h : Wool_longestBut_7 s7 v1 v2 v3 v4 z = some (r0, z0)) (P : pj_P B A K z H lo) (hl : lv_has ls 5 [(0, .ref (B.2.1 11)), (1, .int v1), (2, .int v2), (3, .int v3), (4, .int v4)]) : pj_W K H lo 7 ls [] := by
  unfold Wool_longestBut_7 at h
  refine pj_iload C dd_Wool_longestBut_7 hl 4 rfl ?_
  refine pj_aload_n C dd_Wool_longestBut_9 rfl hl 0 rfl ?_
  refine pj_getI C P 11 (LC11 hB) rfl fl_Wool_21 dd_Wool_longestBut_10 ?_
  refine pj_ic_ge C h dd_Wool_longestBut_13 (fun h => ?_) (fun h => ?_)
  · refine pj_iload_n C dd_Wool_longestBut_51 rfl hl 2 rfl ?_
    exact pj_iret C Q P h dd_Wool_longestBut_52
  · refine pj_iload_n C dd_Wool_longestBut_16 rfl hl 1 rfl ?_
    refine pj_iload C dd_Wool_longestBut_17 hl 4 rfl ?_
    refine pj_iushr C dd_Wool_longestBut_19 ?_
    refine pj_iconst (v := (nI 1)) C dd_Wool_longestBut_20 rfl ?_
    refine pj_iand C dd_Wool_longestBut_21 ?_
    refine pj_if_ne C h dd_Wool_longestBut_22 (fun h => ?_) (fun h => ?_)
    · exact bt_Wool_longestBut_45 hB C Q s7 k7 _ _ _ _ _ _ _ _ h P (lv_sub hl [0, 1, 2, 3, 4] rfl)
    · refine pj_aload_n C dd_Wool_longestBut_25 rfl hl 0 rfl ?_
      refine pj_iload C dd_Wool_longestBut_26 hl 4 rfl ?_
      obtain ⟨r3, z2, e1, h⟩ := pj_cE h
      refine pj_cVi (st := []) [.int v4] C P 11 (LC11 hB) rfl (ct_Wool_lengthOf hB e1) cl_Wool_25 rfl (by decide) (by decide) hl.1 (Nat.le_of_ble_eq_true rfl) dd_Wool_longestBut_28 (fun H lo P => ?_)
      refine pj_iload_n C dd_Wool_longestBut_31 rfl hl 3 rfl ?_
      refine pj_ic_le C h dd_Wool_longestBut_32 (fun h => ?_) (fun h => ?_)
      · exact bt_Wool_longestBut_45 hB C Q s7 k7 _ _ _ _ _ _ _ _ h P (lv_sub hl [0, 1, 2, 3, 4] rfl)
      · refine pj_iload C dd_Wool_longestBut_35 hl 4 rfl ?_
        refine pj_istore_n [(2, .int v4), (0, .ref (B.2.1 11)), (1, .int v1), (3, .int v3), (4, .int v4)] C dd_Wool_longestBut_37 rfl hl (by decide) rfl (fun ls hl => ?_)
        refine pj_aload_n C dd_Wool_longestBut_38 rfl hl 1 rfl ?_
        refine pj_iload C dd_Wool_longestBut_39 hl 4 rfl ?_
        obtain ⟨r6, z5, e4, h⟩ := pj_cE h
        refine pj_cVi (st := []) [.int v4] C P 11 (LC11 hB) rfl (ct_Wool_lengthOf hB e4) cl_Wool_25 rfl (by decide) (by decide) hl.1 (Nat.le_of_ble_eq_true rfl) dd_Wool_longestBut_41 (fun H lo P => ?_)
        refine pj_istore_n [(3, .int r6), (2, .int v4), (0, .ref (B.2.1 11)), (1, .int v1), (4, .int v4)] C dd_Wool_longestBut_44 rfl hl (by decide) rfl (fun ls hl => ?_)
        exact bt_Wool_longestBut_45 hB C Q s7 k7 _ _ _ _ _ _ _ _ h P (lv_sub hl [2, 3, 1, 0, 4] rfl)
theorem lt_Wool_longestBut_7 {B : pj_B} {A : Nat → Prop} {K : pj_K} {r0 : Int32} {z0 : pj_S} (hB : B.2.2.2.1 = pj_LC) (C : pj_C B A K cX9_longestBut 5 RX9 2) (Q : pj_Qi B A K (some .int) r0 z0)  : ∀ (n : Nat) (v1 : Int32) (v2 : Int32) (v3 : Int32) (v4 : Int32) (z : pj_S) (H : Heap) (lo : List Loc) (ls : Array Slot), pj_lp4 Wool_longestBut_7 n v1 v2 v3 v4 z = some (r0, z0) → pj_P B A K z H lo → lv_has ls 5 [(0, .ref (B.2.1 11)), (1, .int v1), (2, .int v2), (3, .int v3), (4, .int v4)] → pj_W K H lo 7 ls [] := by
  intro n
  induction n with
  | zero => intro v1 v2 v3 v4 z H lo ls h; rw [pj_lp4_0] at h; cases h
  | succ n ih =>
    intro v1 v2 v3 v4 z H lo ls h P hl
    rw [pj_lp4_s] at h
    exact bt_Wool_longestBut_7 hB C Q   (pj_lp4 Wool_longestBut_7 n) ih v1 v2 v3 v4 z H lo ls h P hl
set_option maxHeartbeats 4000000 in
set_option maxRecDepth 100000 in
theorem ct_Wool_longestBut {l : Launch} {B : pj_B} (hB : B.2.2.2.1 = pj_LC) {v1 : Int32} {z : pj_S} {r0 : Int32} {z0 : pj_S} (h : Wool_longestBut v1 z = some (r0, z0)) : pj_Mi l yX9_longestBut cX9_longestBut 5 (some .int) 2 [.ref (B.2.1 11), .int v1] B z r0 z0 := by
  refine pj_meti (own := RX9) (by decide +kernel) rfl (Nat.le_of_ble_eq_true rfl) ?_
  intro A K hK C Q H lo ls P hl
  have hl : lv_has ls 5 [(0, .ref (B.2.1 11)), (1, .int v1)] := hl
  unfold Wool_longestBut at h
  refine pj_iconst (v := (nI 0)) C dd_Wool_longestBut_0 rfl ?_
  refine pj_istore_n [(2, .int (nI 0)), (0, .ref (B.2.1 11)), (1, .int v1)] C dd_Wool_longestBut_1 rfl hl (by decide) rfl (fun ls hl => ?_)
  refine pj_iconst (v := (nI 0)) C dd_Wool_longestBut_2 rfl ?_
  refine pj_istore_n [(3, .int (nI 0)), (2, .int (nI 0)), (0, .ref (B.2.1 11)), (1, .int v1)] C dd_Wool_longestBut_3 rfl hl (by decide) rfl (fun ls hl => ?_)
  refine pj_iconst (v := (nI 0)) C dd_Wool_longestBut_4 rfl ?_
  refine pj_istore [(4, .int (nI 0)), (3, .int (nI 0)), (2, .int (nI 0)), (0, .ref (B.2.1 11)), (1, .int v1)] C dd_Wool_longestBut_5 hl (by decide) rfl (fun ls hl => ?_)
  exact lt_Wool_longestBut_7 hB C Q 4000 _ _ _ _ _ _ _ _ h P (lv_sub hl [3, 4, 2, 1, 0] rfl)
theorem dd_Wool_fewestFor_0 : pj_d cX9_fewestFor 0 (.iconst 0) 1 1 := ⟨by decide +kernel, rfl⟩
theorem dd_Wool_fewestFor_1 : pj_d cX9_fewestFor 1 (.istore_n 2) 1 2 := ⟨by decide +kernel, rfl⟩
theorem dd_Wool_fewestFor_2 : pj_d cX9_fewestFor 2 (.iconst 0) 1 3 := ⟨by decide +kernel, rfl⟩
theorem dd_Wool_fewestFor_3 : pj_d cX9_fewestFor 3 (.istore_n 3) 1 4 := ⟨by decide +kernel, rfl⟩
theorem dd_Wool_fewestFor_4 : pj_d cX9_fewestFor 4 (.iconst 1) 1 5 := ⟨by decide +kernel, rfl⟩
theorem dd_Wool_fewestFor_5 : pj_d cX9_fewestFor 5 (.istore 4) 2 7 := ⟨by decide +kernel, rfl⟩
theorem dd_Wool_fewestFor_7 : pj_d cX9_fewestFor 7 (.iload 4) 2 9 := ⟨by decide +kernel, rfl⟩
theorem dd_Wool_fewestFor_9 : pj_d cX9_fewestFor 9 (.aload_n 0) 1 10 := ⟨by decide +kernel, rfl⟩
theorem dd_Wool_fewestFor_10 : pj_d cX9_fewestFor 10 (.getfield 21) 3 13 := ⟨by decide +kernel, rfl⟩
theorem dd_Wool_fewestFor_13 : pj_dj cX9_fewestFor 13 (.if_icmp .gt 40) 40 16 53 := ⟨by decide +kernel, rfl, by decide⟩
theorem dd_Wool_fewestFor_16 : pj_d cX9_fewestFor 16 (.aload_n 0) 1 17 := ⟨by decide +kernel, rfl⟩
theorem dd_Wool_fewestFor_17 : pj_d cX9_fewestFor 17 (.iload_n 2) 1 18 := ⟨by decide +kernel, rfl⟩
theorem dd_Wool_fewestFor_18 : pj_d cX9_fewestFor 18 (.invokevirtual 29) 3 21 := ⟨by decide +kernel, rfl⟩
theorem dd_Wool_fewestFor_21 : pj_d cX9_fewestFor 21 (.istore 5) 2 23 := ⟨by decide +kernel, rfl⟩
theorem dd_Wool_fewestFor_23 : pj_d cX9_fewestFor 23 (.iload_n 2) 1 24 := ⟨by decide +kernel, rfl⟩
theorem dd_Wool_fewestFor_24 : pj_d cX9_fewestFor 24 (.iconst 1) 1 25 := ⟨by decide +kernel, rfl⟩
theorem dd_Wool_fewestFor_25 : pj_d cX9_fewestFor 25 (.iload 5) 2 27 := ⟨by decide +kernel, rfl⟩
theorem dd_Wool_fewestFor_27 : pj_d cX9_fewestFor 27 (.ishl) 1 28 := ⟨by decide +kernel, rfl⟩
theorem dd_Wool_fewestFor_28 : pj_d cX9_fewestFor 28 (.ior) 1 29 := ⟨by decide +kernel, rfl⟩
theorem dd_Wool_fewestFor_29 : pj_d cX9_fewestFor 29 (.istore_n 2) 1 30 := ⟨by decide +kernel, rfl⟩
theorem dd_Wool_fewestFor_30 : pj_d cX9_fewestFor 30 (.iload_n 3) 1 31 := ⟨by decide +kernel, rfl⟩
theorem dd_Wool_fewestFor_31 : pj_d cX9_fewestFor 31 (.aload_n 0) 1 32 := ⟨by decide +kernel, rfl⟩
theorem dd_Wool_fewestFor_32 : pj_d cX9_fewestFor 32 (.iload 5) 2 34 := ⟨by decide +kernel, rfl⟩
theorem dd_Wool_fewestFor_34 : pj_d cX9_fewestFor 34 (.invokevirtual 25) 3 37 := ⟨by decide +kernel, rfl⟩
theorem dd_Wool_fewestFor_37 : pj_d cX9_fewestFor 37 (.iadd) 1 38 := ⟨by decide +kernel, rfl⟩
theorem dd_Wool_fewestFor_38 : pj_d cX9_fewestFor 38 (.istore_n 3) 1 39 := ⟨by decide +kernel, rfl⟩
theorem dd_Wool_fewestFor_39 : pj_d cX9_fewestFor 39 (.iload_n 3) 1 40 := ⟨by decide +kernel, rfl⟩
theorem dd_Wool_fewestFor_40 : pj_d cX9_fewestFor 40 (.iload_n 1) 1 41 := ⟨by decide +kernel, rfl⟩
theorem dd_Wool_fewestFor_41 : pj_dj cX9_fewestFor 41 (.if_icmp .lt 6) 6 44 47 := ⟨by decide +kernel, rfl, by decide⟩
theorem dd_Wool_fewestFor_44 : pj_d cX9_fewestFor 44 (.iload 4) 2 46 := ⟨by decide +kernel, rfl⟩
theorem dd_Wool_fewestFor_46 : pj_d cX9_fewestFor 46 (.ireturn) 1 47 := ⟨by decide +kernel, rfl⟩
theorem dd_Wool_fewestFor_47 : pj_d cX9_fewestFor 47 (.iinc 4 1) 3 50 := ⟨by decide +kernel, rfl⟩
theorem dd_Wool_fewestFor_50 : pj_dj cX9_fewestFor 50 (.goto (-43)) (-43) 53 7 := ⟨by decide +kernel, rfl, by decide⟩
theorem dd_Wool_fewestFor_53 : pj_d cX9_fewestFor 53 (.iconst (-1)) 1 54 := ⟨by decide +kernel, rfl⟩
theorem dd_Wool_fewestFor_54 : pj_d cX9_fewestFor 54 (.ireturn) 1 55 := ⟨by decide +kernel, rfl⟩
set_option maxHeartbeats 4000000 in
set_option maxRecDepth 100000 in
theorem bt_Wool_fewestFor_44 {B : pj_B} {A : Nat → Prop} {K : pj_K} {r0 : Int32} {z0 : pj_S} (hB : B.2.2.2.1 = pj_LC) (C : pj_C B A K cX9_fewestFor 6 RX9 3) (Q : pj_Qi B A K (some .int) r0 z0)  (v4 : Int32) (z : pj_S) (H : Heap) (lo : List Loc) (ls : Array Slot) (h : Wool_fewestFor_44 v4 z = some (r0, z0)) (P : pj_P B A K z H lo) (hl : lv_has ls 6 [(4, .int v4)]) : pj_W K H lo 44 ls [] := by
  unfold Wool_fewestFor_44 at h
  refine pj_iload C dd_Wool_fewestFor_44 hl 0 rfl ?_
  exact pj_iret C Q P h dd_Wool_fewestFor_46
set_option maxHeartbeats 4000000 in
set_option maxRecDepth 100000 in
theorem bt_Wool_fewestFor_7 {B : pj_B} {A : Nat → Prop} {K : pj_K} {r0 : Int32} {z0 : pj_S} (hB : B.2.2.2.1 = pj_LC) (C : pj_C B A K cX9_fewestFor 6 RX9 3) (Q : pj_Qi B A K (some .int) r0 z0) (s7 : Int32 → Int32 → Int32 → Int32 → pj_S → Option (Int32 × pj_S)) (k7 : ∀ (v1 : Int32) (v2 : Int32) (v3 : Int32) (v4 : Int32) (z : pj_S) (H : Heap) (lo : List Loc) (ls : Array Slot), s7 v1 v2 v3 v4 z = some (r0, z0) → pj_P B A K z H lo → lv_has ls 6 [(0, .ref (B.2.1 11)), (1, .int v1), (2, .int v2), (3, .int v3), (4, .int v4)] → pj_W K H lo 7 ls []) (v1 : Int32) (v2 : Int32) (v3 : Int32) (v4 : Int32) (z : pj_S) (H : Heap) (lo : List Loc) (ls : Array Slot) (h : Wool_fewestFor_7 s7 v1 v2 v3 v4 z = some (r0, z0)) (P : pj_P B A K z H lo) (hl : lv_has ls 6 [(0, .ref (B.2.1 11)), (1, .int v1), (2, .int v2), (3, .int v3), (4, .int v4)]) : pj_W K H lo 7 ls [] := by
  unfold Wool_fewestFor_7 at h
  refine pj_iload C dd_Wool_fewestFor_7 hl 4 rfl ?_
  refine pj_aload_n C dd_Wool_fewestFor_9 rfl hl 0 rfl ?_
  refine pj_getI C P 11 (LC11 hB) rfl fl_Wool_21 dd_Wool_fewestFor_10 ?_
  refine pj_ic_gt C h dd_Wool_fewestFor_13 (fun h => ?_) (fun h => ?_)
  · refine pj_iconst (v := (-1 : Int32)) C dd_Wool_fewestFor_53 rfl ?_
    exact pj_iret C Q P h dd_Wool_fewestFor_54
  · refine pj_aload_n C dd_Wool_fewestFor_16 rfl hl 0 rfl ?_
    refine pj_iload_n C dd_Wool_fewestFor_17 rfl hl 2 rfl ?_
    obtain ⟨r3, z2, e1, h⟩ := pj_cE h
    refine pj_cVi (st := []) [.int v2] C P 11 (LC11 hB) rfl (ct_Wool_longestBut hB e1) cl_Wool_29 rfl (by decide) (by decide) hl.1 (Nat.le_of_ble_eq_true rfl) dd_Wool_fewestFor_18 (fun H lo P => ?_)
    refine pj_istore [(5, .int r3), (0, .ref (B.2.1 11)), (1, .int v1), (2, .int v2), (3, .int v3), (4, .int v4)] C dd_Wool_fewestFor_21 hl (by decide) rfl (fun ls hl => ?_)
    refine pj_iload_n C dd_Wool_fewestFor_23 rfl hl 3 rfl ?_
    refine pj_iconst (v := (nI 1)) C dd_Wool_fewestFor_24 rfl ?_
    refine pj_iload C dd_Wool_fewestFor_25 hl 0 rfl ?_
    refine pj_ishl C dd_Wool_fewestFor_27 ?_
    refine pj_ior C dd_Wool_fewestFor_28 ?_
    refine pj_istb_n [(5, .int r3), (0, .ref (B.2.1 11)), (1, .int v1), (3, .int v3), (4, .int v4)] C h dd_Wool_fewestFor_29 rfl hl (by decide) rfl (fun x4 ls h hl => ?_)
    refine pj_iload_n C dd_Wool_fewestFor_30 rfl hl 4 rfl ?_
    refine pj_aload_n C dd_Wool_fewestFor_31 rfl hl 2 rfl ?_
    refine pj_iload C dd_Wool_fewestFor_32 hl 1 rfl ?_
    obtain ⟨r7, z6, e5, h⟩ := pj_cE h
    refine pj_cVi (st := [.int v3]) [.int r3] C P 11 (LC11 hB) rfl (ct_Wool_lengthOf hB e5) cl_Wool_25 rfl (by decide) (by decide) hl.1 (Nat.le_of_ble_eq_true rfl) dd_Wool_fewestFor_34 (fun H lo P => ?_)
    refine pj_iadd C dd_Wool_fewestFor_37 ?_
    refine pj_istb_n [(2, .int x4), (5, .int r3), (0, .ref (B.2.1 11)), (1, .int v1), (4, .int v4)] C h dd_Wool_fewestFor_38 rfl hl (by decide) rfl (fun x8 ls h hl => ?_)
    refine pj_iload_n C dd_Wool_fewestFor_39 rfl hl 0 rfl ?_
    refine pj_iload_n C dd_Wool_fewestFor_40 rfl hl 4 rfl ?_
    refine pj_ic_lt C h dd_Wool_fewestFor_41 (fun h => ?_) (fun h => ?_)
    · refine pj_iinc (v := (nI 1)) [(3, .int x8), (2, .int x4), (5, .int r3), (0, .ref (B.2.1 11)), (1, .int v1)] C h rfl dd_Wool_fewestFor_47 hl 5 rfl (by decide) rfl (fun x9 ls h hl => ?_)
      refine pj_goto C dd_Wool_fewestFor_50 ?_
      exact k7 _ _ _ _ _ _ _ _ h P (lv_sub hl [4, 5, 2, 1, 0] rfl)
    · exact bt_Wool_fewestFor_44 hB C Q _ _ _ _ _ h P (lv_sub hl [5] rfl)
theorem lt_Wool_fewestFor_7 {B : pj_B} {A : Nat → Prop} {K : pj_K} {r0 : Int32} {z0 : pj_S} (hB : B.2.2.2.1 = pj_LC) (C : pj_C B A K cX9_fewestFor 6 RX9 3) (Q : pj_Qi B A K (some .int) r0 z0)  : ∀ (n : Nat) (v1 : Int32) (v2 : Int32) (v3 : Int32) (v4 : Int32) (z : pj_S) (H : Heap) (lo : List Loc) (ls : Array Slot), pj_lp4 Wool_fewestFor_7 n v1 v2 v3 v4 z = some (r0, z0) → pj_P B A K z H lo → lv_has ls 6 [(0, .ref (B.2.1 11)), (1, .int v1), (2, .int v2), (3, .int v3), (4, .int v4)] → pj_W K H lo 7 ls [] := by
  intro n
  induction n with
  | zero => intro v1 v2 v3 v4 z H lo ls h; rw [pj_lp4_0] at h; cases h
  | succ n ih =>
    intro v1 v2 v3 v4 z H lo ls h P hl
    rw [pj_lp4_s] at h
    exact bt_Wool_fewestFor_7 hB C Q   (pj_lp4 Wool_fewestFor_7 n) ih v1 v2 v3 v4 z H lo ls h P hl
set_option maxHeartbeats 4000000 in
set_option maxRecDepth 100000 in
theorem ct_Wool_fewestFor {l : Launch} {B : pj_B} (hB : B.2.2.2.1 = pj_LC) {v1 : Int32} {z : pj_S} {r0 : Int32} {z0 : pj_S} (h : Wool_fewestFor v1 z = some (r0, z0)) : pj_Mi l yX9_fewestFor cX9_fewestFor 6 (some .int) 3 [.ref (B.2.1 11), .int v1] B z r0 z0 := by
  refine pj_meti (own := RX9) (by decide +kernel) rfl (Nat.le_of_ble_eq_true rfl) ?_
  intro A K hK C Q H lo ls P hl
  have hl : lv_has ls 6 [(0, .ref (B.2.1 11)), (1, .int v1)] := hl
  unfold Wool_fewestFor at h
  refine pj_iconst (v := (nI 0)) C dd_Wool_fewestFor_0 rfl ?_
  refine pj_istore_n [(2, .int (nI 0)), (0, .ref (B.2.1 11)), (1, .int v1)] C dd_Wool_fewestFor_1 rfl hl (by decide) rfl (fun ls hl => ?_)
  refine pj_iconst (v := (nI 0)) C dd_Wool_fewestFor_2 rfl ?_
  refine pj_istore_n [(3, .int (nI 0)), (2, .int (nI 0)), (0, .ref (B.2.1 11)), (1, .int v1)] C dd_Wool_fewestFor_3 rfl hl (by decide) rfl (fun ls hl => ?_)
  refine pj_iconst (v := (nI 1)) C dd_Wool_fewestFor_4 rfl ?_
  refine pj_istore [(4, .int (nI 1)), (3, .int (nI 0)), (2, .int (nI 0)), (0, .ref (B.2.1 11)), (1, .int v1)] C dd_Wool_fewestFor_5 hl (by decide) rfl (fun ls hl => ?_)
  exact lt_Wool_fewestFor_7 hB C Q 4000 _ _ _ _ _ _ _ _ h P (lv_sub hl [3, 4, 2, 1, 0] rfl)
theorem dd_PJ_join_0 : pj_d cX10_join 0 (.iload_n 1) 1 1 := ⟨by decide +kernel, rfl⟩
theorem dd_PJ_join_1 : pj_d cX10_join 1 (.iconst 1) 1 2 := ⟨by decide +kernel, rfl⟩
theorem dd_PJ_join_2 : pj_dj cX10_join 2 (.if_icmp .ge 7) 7 5 9 := ⟨by decide +kernel, rfl, by decide⟩
theorem dd_PJ_join_5 : pj_d cX10_join 5 (.iconst (-1)) 1 6 := ⟨by decide +kernel, rfl⟩
theorem dd_PJ_join_6 : pj_dj cX10_join 6 (.goto 14) 14 9 20 := ⟨by decide +kernel, rfl, by decide⟩
theorem dd_PJ_join_9 : pj_d cX10_join 9 (.aload_n 0) 1 10 := ⟨by decide +kernel, rfl⟩
theorem dd_PJ_join_10 : pj_d cX10_join 10 (.getfield 10) 3 13 := ⟨by decide +kernel, rfl⟩
theorem dd_PJ_join_13 : pj_d cX10_join 13 (.getfield 189) 3 16 := ⟨by decide +kernel, rfl⟩
theorem dd_PJ_join_16 : pj_d cX10_join 16 (.iload_n 1) 1 17 := ⟨by decide +kernel, rfl⟩
theorem dd_PJ_join_17 : pj_d cX10_join 17 (.invokevirtual 250) 3 20 := ⟨by decide +kernel, rfl⟩
theorem dd_PJ_join_20 : pj_d cX10_join 20 (.ireturn) 1 21 := ⟨by decide +kernel, rfl⟩
set_option maxHeartbeats 4000000 in
set_option maxRecDepth 100000 in
theorem ct_PJ_join {l : Launch} {B : pj_B} (hB : B.2.2.2.1 = pj_LC) {v1 : Int32} {z : pj_S} {r0 : Int32} {z0 : pj_S} (h : PJ_join v1 z = some (r0, z0)) : pj_Mi l yX10_join cX10_join 2 (some .int) 4 [.ref (B.2.1 0), .int v1] B z r0 z0 := by
  refine pj_meti (own := RX10) (by decide +kernel) rfl (Nat.le_of_ble_eq_true rfl) ?_
  intro A K hK C Q H lo ls P hl
  have hl : lv_has ls 2 [(0, .ref (B.2.1 0)), (1, .int v1)] := hl
  unfold PJ_join at h
  refine pj_iload_n C dd_PJ_join_0 rfl hl 1 rfl ?_
  refine pj_iconst (v := (nI 1)) C dd_PJ_join_1 rfl ?_
  refine pj_ic_ge C h dd_PJ_join_2 (fun h => ?_) (fun h => ?_)
  · refine pj_aload_n C dd_PJ_join_9 rfl hl 0 rfl ?_
    refine pj_getR C P 0 (LC0 hB) rfl fl_PJ_10 dd_PJ_join_10 ?_
    refine pj_getR C P 1 (LC1 hB) rfl fl_PJ_189 dd_PJ_join_13 ?_
    refine pj_iload_n C dd_PJ_join_16 rfl hl 1 rfl ?_
    obtain ⟨r3, z2, e1, h⟩ := pj_cE h
    refine pj_cVi (st := []) [.int v1] C P 11 (LC11 hB) rfl (ct_Wool_fewestFor hB e1) cl_PJ_250 rfl (by decide) (by decide) hl.1 (Nat.le_of_ble_eq_true rfl) dd_PJ_join_17 (fun H lo P => ?_)
    exact pj_iret C Q P h dd_PJ_join_20
  · refine pj_iconst (v := (-1 : Int32)) C dd_PJ_join_5 rfl ?_
    refine pj_goto C dd_PJ_join_6 ?_
    exact pj_iret C Q P h dd_PJ_join_20
theorem dd_Whole_likelyQuiet_0 : pj_d cX8_likelyQuiet 0 (.aload_n 0) 1 1 := ⟨by decide +kernel, rfl⟩
theorem dd_Whole_likelyQuiet_1 : pj_d cX8_likelyQuiet 1 (.getfield 12) 3 4 := ⟨by decide +kernel, rfl⟩
theorem dd_Whole_likelyQuiet_4 : pj_d cX8_likelyQuiet 4 (.invokevirtual 112) 3 7 := ⟨by decide +kernel, rfl⟩
theorem dd_Whole_likelyQuiet_7 : pj_d cX8_likelyQuiet 7 (.lstore_n 1) 1 8 := ⟨by decide +kernel, rfl⟩
theorem dd_Whole_likelyQuiet_8 : pj_d cX8_likelyQuiet 8 (.ldc 133) 2 10 := ⟨by decide +kernel, rfl⟩
theorem dd_Whole_likelyQuiet_10 : pj_d cX8_likelyQuiet 10 (.istore_n 3) 1 11 := ⟨by decide +kernel, rfl⟩
theorem dd_Whole_likelyQuiet_11 : pj_d cX8_likelyQuiet 11 (.iconst 0) 1 12 := ⟨by decide +kernel, rfl⟩
theorem dd_Whole_likelyQuiet_12 : pj_d cX8_likelyQuiet 12 (.istore 4) 2 14 := ⟨by decide +kernel, rfl⟩
theorem dd_Whole_likelyQuiet_14 : pj_d cX8_likelyQuiet 14 (.iload 4) 2 16 := ⟨by decide +kernel, rfl⟩
theorem dd_Whole_likelyQuiet_16 : pj_d cX8_likelyQuiet 16 (.bipush 48) 2 18 := ⟨by decide +kernel, rfl⟩
theorem dd_Whole_likelyQuiet_18 : pj_dj cX8_likelyQuiet 18 (.if_icmp .ge 47) 47 21 65 := ⟨by decide +kernel, rfl, by decide⟩
theorem dd_Whole_likelyQuiet_21 : pj_d cX8_likelyQuiet 21 (.lload_n 1) 1 22 := ⟨by decide +kernel, rfl⟩
theorem dd_Whole_likelyQuiet_22 : pj_d cX8_likelyQuiet 22 (.iload 4) 2 24 := ⟨by decide +kernel, rfl⟩
theorem dd_Whole_likelyQuiet_24 : pj_d cX8_likelyQuiet 24 (.invokestatic 116) 3 27 := ⟨by decide +kernel, rfl⟩
theorem dd_Whole_likelyQuiet_27 : pj_d cX8_likelyQuiet 27 (.iconst 1) 1 28 := ⟨by decide +kernel, rfl⟩
theorem dd_Whole_likelyQuiet_28 : pj_dj cX8_likelyQuiet 28 (.if_icmp .ne 31) 31 31 59 := ⟨by decide +kernel, rfl, by decide⟩
theorem dd_Whole_likelyQuiet_31 : pj_d cX8_likelyQuiet 31 (.iload_n 3) 1 32 := ⟨by decide +kernel, rfl⟩
theorem dd_Whole_likelyQuiet_32 : pj_d cX8_likelyQuiet 32 (.sipush 1000) 3 35 := ⟨by decide +kernel, rfl⟩
theorem dd_Whole_likelyQuiet_35 : pj_d cX8_likelyQuiet 35 (.aload_n 0) 1 36 := ⟨by decide +kernel, rfl⟩
theorem dd_Whole_likelyQuiet_36 : pj_d cX8_likelyQuiet 36 (.getfield 21) 3 39 := ⟨by decide +kernel, rfl⟩
theorem dd_Whole_likelyQuiet_39 : pj_d cX8_likelyQuiet 39 (.aload_n 0) 1 40 := ⟨by decide +kernel, rfl⟩
theorem dd_Whole_likelyQuiet_40 : pj_d cX8_likelyQuiet 40 (.getfield 12) 3 43 := ⟨by decide +kernel, rfl⟩
theorem dd_Whole_likelyQuiet_43 : pj_d cX8_likelyQuiet 43 (.aload_n 0) 1 44 := ⟨by decide +kernel, rfl⟩
theorem dd_Whole_likelyQuiet_44 : pj_d cX8_likelyQuiet 44 (.getfield 51) 3 47 := ⟨by decide +kernel, rfl⟩
theorem dd_Whole_likelyQuiet_47 : pj_d cX8_likelyQuiet 47 (.iload 4) 2 49 := ⟨by decide +kernel, rfl⟩
theorem dd_Whole_likelyQuiet_49 : pj_d cX8_likelyQuiet 49 (.invokevirtual 120) 3 52 := ⟨by decide +kernel, rfl⟩
theorem dd_Whole_likelyQuiet_52 : pj_d cX8_likelyQuiet 52 (.isub) 1 53 := ⟨by decide +kernel, rfl⟩
theorem dd_Whole_likelyQuiet_53 : pj_d cX8_likelyQuiet 53 (.imul) 1 54 := ⟨by decide +kernel, rfl⟩
theorem dd_Whole_likelyQuiet_54 : pj_d cX8_likelyQuiet 54 (.sipush 1000) 3 57 := ⟨by decide +kernel, rfl⟩
theorem dd_Whole_likelyQuiet_57 : pj_d cX8_likelyQuiet 57 (.idiv) 1 58 := ⟨by decide +kernel, rfl⟩
theorem dd_Whole_likelyQuiet_58 : pj_d cX8_likelyQuiet 58 (.istore_n 3) 1 59 := ⟨by decide +kernel, rfl⟩
theorem dd_Whole_likelyQuiet_59 : pj_d cX8_likelyQuiet 59 (.iinc 4 1) 3 62 := ⟨by decide +kernel, rfl⟩
theorem dd_Whole_likelyQuiet_62 : pj_dj cX8_likelyQuiet 62 (.goto (-48)) (-48) 65 14 := ⟨by decide +kernel, rfl, by decide⟩
theorem dd_Whole_likelyQuiet_65 : pj_d cX8_likelyQuiet 65 (.iload_n 3) 1 66 := ⟨by decide +kernel, rfl⟩
theorem dd_Whole_likelyQuiet_66 : pj_d cX8_likelyQuiet 66 (.ireturn) 1 67 := ⟨by decide +kernel, rfl⟩
set_option maxHeartbeats 4000000 in
set_option maxRecDepth 100000 in
theorem bt_Whole_likelyQuiet_59 {B : pj_B} {A : Nat → Prop} {K : pj_K} {r0 : Int32} {z0 : pj_S} (hB : B.2.2.2.1 = pj_LC) (C : pj_C B A K cX8_likelyQuiet 5 RX8 6) (Q : pj_Qi B A K (some .int) r0 z0) (s14 : Int64 → Int32 → Int32 → pj_S → Option (Int32 × pj_S)) (k14 : ∀ (v1 : Int64) (v3 : Int32) (v4 : Int32) (z : pj_S) (H : Heap) (lo : List Loc) (ls : Array Slot), s14 v1 v3 v4 z = some (r0, z0) → pj_P B A K z H lo → lv_has ls 5 [(0, .ref (B.2.1 1)), (1, .long v1), (3, .int v3), (4, .int v4)] → pj_W K H lo 14 ls []) (v1 : Int64) (v3 : Int32) (v4 : Int32) (z : pj_S) (H : Heap) (lo : List Loc) (ls : Array Slot) (h : Whole_likelyQuiet_59 s14 v1 v3 v4 z = some (r0, z0)) (P : pj_P B A K z H lo) (hl : lv_has ls 5 [(0, .ref (B.2.1 1)), (1, .long v1), (3, .int v3), (4, .int v4)]) : pj_W K H lo 59 ls [] := by
  unfold Whole_likelyQuiet_59 at h
  refine pj_iinc (v := (nI 1)) [(0, .ref (B.2.1 1)), (1, .long v1), (3, .int v3)] C h rfl dd_Whole_likelyQuiet_59 hl 3 rfl (by decide) rfl (fun x1 ls h hl => ?_)
  refine pj_goto C dd_Whole_likelyQuiet_62 ?_
  exact k14 _ _ _ _ _ _ _ h P (lv_sub hl [1, 2, 3, 0] rfl)
set_option maxHeartbeats 4000000 in
set_option maxRecDepth 100000 in
theorem bt_Whole_likelyQuiet_14 {B : pj_B} {A : Nat → Prop} {K : pj_K} {r0 : Int32} {z0 : pj_S} (hB : B.2.2.2.1 = pj_LC) (C : pj_C B A K cX8_likelyQuiet 5 RX8 6) (Q : pj_Qi B A K (some .int) r0 z0) (s14 : Int64 → Int32 → Int32 → pj_S → Option (Int32 × pj_S)) (k14 : ∀ (v1 : Int64) (v3 : Int32) (v4 : Int32) (z : pj_S) (H : Heap) (lo : List Loc) (ls : Array Slot), s14 v1 v3 v4 z = some (r0, z0) → pj_P B A K z H lo → lv_has ls 5 [(0, .ref (B.2.1 1)), (1, .long v1), (3, .int v3), (4, .int v4)] → pj_W K H lo 14 ls []) (v1 : Int64) (v3 : Int32) (v4 : Int32) (z : pj_S) (H : Heap) (lo : List Loc) (ls : Array Slot) (h : Whole_likelyQuiet_14 s14 v1 v3 v4 z = some (r0, z0)) (P : pj_P B A K z H lo) (hl : lv_has ls 5 [(0, .ref (B.2.1 1)), (1, .long v1), (3, .int v3), (4, .int v4)]) : pj_W K H lo 14 ls [] := by
  unfold Whole_likelyQuiet_14 at h
  refine pj_iload C dd_Whole_likelyQuiet_14 hl 3 rfl ?_
  refine pj_bipush (v := (nI 48)) C dd_Whole_likelyQuiet_16 rfl ?_
  refine pj_ic_ge C h dd_Whole_likelyQuiet_18 (fun h => ?_) (fun h => ?_)
  · refine pj_iload_n C dd_Whole_likelyQuiet_65 rfl hl 2 rfl ?_
    exact pj_iret C Q P h dd_Whole_likelyQuiet_66
  · refine pj_lload_n C dd_Whole_likelyQuiet_21 rfl hl 1 rfl ?_
    refine pj_iload C dd_Whole_likelyQuiet_22 hl 3 rfl ?_
    obtain ⟨r3, z2, e1, h⟩ := pj_cE h
    refine pj_cNi (st := []) [.long v1, .int v4] C P (ct_PJ_bitOf hB e1) cl_Whole_116 rfl (by decide) (by decide) hl.1 (Nat.le_of_ble_eq_true rfl) dd_Whole_likelyQuiet_24 (fun H lo P => ?_)
    refine pj_iconst (v := (nI 1)) C dd_Whole_likelyQuiet_27 rfl ?_
    refine pj_ic_ne C h dd_Whole_likelyQuiet_28 (fun h => ?_) (fun h => ?_)
    · exact bt_Whole_likelyQuiet_59 hB C Q s14 k14 _ _ _ _ _ _ _ h P (lv_sub hl [0, 1, 2, 3] rfl)
    · refine pj_iload_n C dd_Whole_likelyQuiet_31 rfl hl 2 rfl ?_
      refine pj_sipush (v := (nI 1000)) C dd_Whole_likelyQuiet_32 rfl ?_
      refine pj_aload_n C dd_Whole_likelyQuiet_35 rfl hl 0 rfl ?_
      refine pj_getR C P 1 (LC1 hB) rfl fl_Whole_21 dd_Whole_likelyQuiet_36 ?_
      refine pj_aload_n C dd_Whole_likelyQuiet_39 rfl hl 0 rfl ?_
      refine pj_getR C P 1 (LC1 hB) rfl fl_Whole_12 dd_Whole_likelyQuiet_40 ?_
      refine pj_aload_n C dd_Whole_likelyQuiet_43 rfl hl 0 rfl ?_
      refine pj_getI C P 1 (LC1 hB) rfl fl_Whole_51 dd_Whole_likelyQuiet_44 ?_
      refine pj_iload C dd_Whole_likelyQuiet_47 hl 3 rfl ?_
      obtain ⟨r6, z5, e4, h⟩ := pj_cE h
      refine pj_cVi (st := [.int (nI 1000), .int v3]) [.ref (B.2.1 8), .int (z2.1 1 4), .int v4] C P 9 (LC9 hB) rfl (ct_Law_oddsOf hB e4) cl_Whole_120 rfl (by decide) (by decide) hl.1 (Nat.le_of_ble_eq_true rfl) dd_Whole_likelyQuiet_49 (fun H lo P => ?_)
      refine pj_isub C dd_Whole_likelyQuiet_52 ?_
      refine pj_imul C dd_Whole_likelyQuiet_53 ?_
      refine pj_sipush (v := (nI 1000)) C dd_Whole_likelyQuiet_54 rfl ?_
      refine pj_idiv C h dd_Whole_likelyQuiet_57 (fun h => ?_)
      refine pj_istb_n [(0, .ref (B.2.1 1)), (1, .long v1), (4, .int v4)] C h dd_Whole_likelyQuiet_58 rfl hl (by decide) rfl (fun x7 ls h hl => ?_)
      exact bt_Whole_likelyQuiet_59 hB C Q s14 k14 _ _ _ _ _ _ _ h P (lv_sub hl [1, 2, 0, 3] rfl)
theorem lt_Whole_likelyQuiet_14 {B : pj_B} {A : Nat → Prop} {K : pj_K} {r0 : Int32} {z0 : pj_S} (hB : B.2.2.2.1 = pj_LC) (C : pj_C B A K cX8_likelyQuiet 5 RX8 6) (Q : pj_Qi B A K (some .int) r0 z0)  : ∀ (n : Nat) (v1 : Int64) (v3 : Int32) (v4 : Int32) (z : pj_S) (H : Heap) (lo : List Loc) (ls : Array Slot), pj_lp3 Whole_likelyQuiet_14 n v1 v3 v4 z = some (r0, z0) → pj_P B A K z H lo → lv_has ls 5 [(0, .ref (B.2.1 1)), (1, .long v1), (3, .int v3), (4, .int v4)] → pj_W K H lo 14 ls [] := by
  intro n
  induction n with
  | zero => intro v1 v3 v4 z H lo ls h; rw [pj_lp3_0] at h; cases h
  | succ n ih =>
    intro v1 v3 v4 z H lo ls h P hl
    rw [pj_lp3_s] at h
    exact bt_Whole_likelyQuiet_14 hB C Q   (pj_lp3 Whole_likelyQuiet_14 n) ih v1 v3 v4 z H lo ls h P hl
set_option maxHeartbeats 4000000 in
set_option maxRecDepth 100000 in
theorem ct_Whole_likelyQuiet {l : Launch} {B : pj_B} (hB : B.2.2.2.1 = pj_LC)  {z : pj_S} {r0 : Int32} {z0 : pj_S} (h : Whole_likelyQuiet z = some (r0, z0)) : pj_Mi l yX8_likelyQuiet cX8_likelyQuiet 5 (some .int) 6 [.ref (B.2.1 1)] B z r0 z0 := by
  refine pj_meti (own := RX8) (by decide +kernel) rfl (Nat.le_of_ble_eq_true rfl) ?_
  intro A K hK C Q H lo ls P hl
  have hl : lv_has ls 5 [(0, .ref (B.2.1 1))] := hl
  unfold Whole_likelyQuiet at h
  refine pj_aload_n C dd_Whole_likelyQuiet_0 rfl hl 0 rfl ?_
  refine pj_getR C P 1 (LC1 hB) rfl fl_Whole_12 dd_Whole_likelyQuiet_1 ?_
  obtain ⟨r3, z2, e1, h⟩ := pj_cE h
  refine pj_cVl (st := []) [] C P 8 (LC8 hB) rfl (ct_Fabric_loose hB e1) cl_Whole_112 rfl (by decide) (by decide) hl.1 (Nat.le_of_ble_eq_true rfl) dd_Whole_likelyQuiet_4 (fun H lo P => ?_)
  refine pj_lstore_n [(1, .long r3), (0, .ref (B.2.1 1))] C dd_Whole_likelyQuiet_7 rfl hl (by decide) rfl (fun ls hl => ?_)
  refine pj_ldc (v := (nI 1000000)) C co_Whole_133 dd_Whole_likelyQuiet_8 ?_
  refine pj_istore_n [(3, .int (nI 1000000)), (1, .long r3), (0, .ref (B.2.1 1))] C dd_Whole_likelyQuiet_10 rfl hl (by decide) rfl (fun ls hl => ?_)
  refine pj_iconst (v := (nI 0)) C dd_Whole_likelyQuiet_11 rfl ?_
  refine pj_istore [(4, .int (nI 0)), (3, .int (nI 1000000)), (1, .long r3), (0, .ref (B.2.1 1))] C dd_Whole_likelyQuiet_12 hl (by decide) rfl (fun ls hl => ?_)
  exact lt_Whole_likelyQuiet_14 hB C Q 4000 _ _ _ _ _ _ _ h P (lv_sub hl [3, 2, 1, 0] rfl)
theorem dd_PJ_quiet_0 : pj_d cX10_quiet 0 (.aload_n 0) 1 1 := ⟨by decide +kernel, rfl⟩
theorem dd_PJ_quiet_1 : pj_d cX10_quiet 1 (.getfield 10) 3 4 := ⟨by decide +kernel, rfl⟩
theorem dd_PJ_quiet_4 : pj_d cX10_quiet 4 (.invokevirtual 253) 3 7 := ⟨by decide +kernel, rfl⟩
theorem dd_PJ_quiet_7 : pj_d cX10_quiet 7 (.ireturn) 1 8 := ⟨by decide +kernel, rfl⟩
set_option maxHeartbeats 4000000 in
set_option maxRecDepth 100000 in
theorem ct_PJ_quiet {l : Launch} {B : pj_B} (hB : B.2.2.2.1 = pj_LC)  {z : pj_S} {r0 : Int32} {z0 : pj_S} (h : PJ_quiet z = some (r0, z0)) : pj_Mi l yX10_quiet cX10_quiet 1 (some .int) 7 [.ref (B.2.1 0)] B z r0 z0 := by
  refine pj_meti (own := RX10) (by decide +kernel) rfl (Nat.le_of_ble_eq_true rfl) ?_
  intro A K hK C Q H lo ls P hl
  have hl : lv_has ls 1 [(0, .ref (B.2.1 0))] := hl
  unfold PJ_quiet at h
  refine pj_aload_n C dd_PJ_quiet_0 rfl hl 0 rfl ?_
  refine pj_getR C P 0 (LC0 hB) rfl fl_PJ_10 dd_PJ_quiet_1 ?_
  obtain ⟨r3, z2, e1, h⟩ := pj_cE h
  refine pj_cVi (st := []) [] C P 1 (LC1 hB) rfl (ct_Whole_likelyQuiet hB e1) cl_PJ_253 rfl (by decide) (by decide) hl.1 (Nat.le_of_ble_eq_true rfl) dd_PJ_quiet_4 (fun H lo P => ?_)
  exact pj_iret C Q P h dd_PJ_quiet_7
theorem dd_Fabric_firsts_0 : pj_d cX1_firsts 0 (.lconst 0) 1 1 := ⟨by decide +kernel, rfl⟩
theorem dd_Fabric_firsts_1 : pj_d cX1_firsts 1 (.lstore_n 1) 1 2 := ⟨by decide +kernel, rfl⟩
theorem dd_Fabric_firsts_2 : pj_d cX1_firsts 2 (.iconst 0) 1 3 := ⟨by decide +kernel, rfl⟩
theorem dd_Fabric_firsts_3 : pj_d cX1_firsts 3 (.istore_n 3) 1 4 := ⟨by decide +kernel, rfl⟩
theorem dd_Fabric_firsts_4 : pj_d cX1_firsts 4 (.iload_n 3) 1 5 := ⟨by decide +kernel, rfl⟩
theorem dd_Fabric_firsts_5 : pj_d cX1_firsts 5 (.bipush 48) 2 7 := ⟨by decide +kernel, rfl⟩
theorem dd_Fabric_firsts_7 : pj_dj cX1_firsts 7 (.if_icmp .ge 54) 54 10 61 := ⟨by decide +kernel, rfl, by decide⟩
theorem dd_Fabric_firsts_10 : pj_d cX1_firsts 10 (.lconst 1) 1 11 := ⟨by decide +kernel, rfl⟩
theorem dd_Fabric_firsts_11 : pj_d cX1_firsts 11 (.iload_n 3) 1 12 := ⟨by decide +kernel, rfl⟩
theorem dd_Fabric_firsts_12 : pj_d cX1_firsts 12 (.lshl) 1 13 := ⟨by decide +kernel, rfl⟩
theorem dd_Fabric_firsts_13 : pj_d cX1_firsts 13 (.lstore 4) 2 15 := ⟨by decide +kernel, rfl⟩
theorem dd_Fabric_firsts_15 : pj_d cX1_firsts 15 (.aload_n 0) 1 16 := ⟨by decide +kernel, rfl⟩
theorem dd_Fabric_firsts_16 : pj_d cX1_firsts 16 (.iload_n 3) 1 17 := ⟨by decide +kernel, rfl⟩
theorem dd_Fabric_firsts_17 : pj_d cX1_firsts 17 (.invokevirtual 52) 3 20 := ⟨by decide +kernel, rfl⟩
theorem dd_Fabric_firsts_20 : pj_dj cX1_firsts 20 (.ifCond .eq 35) 35 23 55 := ⟨by decide +kernel, rfl, by decide⟩
theorem dd_Fabric_firsts_23 : pj_d cX1_firsts 23 (.aload_n 0) 1 24 := ⟨by decide +kernel, rfl⟩
theorem dd_Fabric_firsts_24 : pj_d cX1_firsts 24 (.aload_n 0) 1 25 := ⟨by decide +kernel, rfl⟩
theorem dd_Fabric_firsts_25 : pj_d cX1_firsts 25 (.getfield 26) 3 28 := ⟨by decide +kernel, rfl⟩
theorem dd_Fabric_firsts_28 : pj_d cX1_firsts 28 (.lload 4) 2 30 := ⟨by decide +kernel, rfl⟩
theorem dd_Fabric_firsts_30 : pj_d cX1_firsts 30 (.ldc2_w 56) 3 33 := ⟨by decide +kernel, rfl⟩
theorem dd_Fabric_firsts_33 : pj_d cX1_firsts 33 (.lxor) 1 34 := ⟨by decide +kernel, rfl⟩
theorem dd_Fabric_firsts_34 : pj_d cX1_firsts 34 (.land) 1 35 := ⟨by decide +kernel, rfl⟩
theorem dd_Fabric_firsts_35 : pj_d cX1_firsts 35 (.aload_n 0) 1 36 := ⟨by decide +kernel, rfl⟩
theorem dd_Fabric_firsts_36 : pj_d cX1_firsts 36 (.getfield 39) 3 39 := ⟨by decide +kernel, rfl⟩
theorem dd_Fabric_firsts_39 : pj_d cX1_firsts 39 (.invokevirtual 70) 3 42 := ⟨by decide +kernel, rfl⟩
theorem dd_Fabric_firsts_42 : pj_d cX1_firsts 42 (.aload_n 0) 1 43 := ⟨by decide +kernel, rfl⟩
theorem dd_Fabric_firsts_43 : pj_d cX1_firsts 43 (.getfield 36) 3 46 := ⟨by decide +kernel, rfl⟩
theorem dd_Fabric_firsts_46 : pj_d cX1_firsts 46 (.lcmp) 1 47 := ⟨by decide +kernel, rfl⟩
theorem dd_Fabric_firsts_47 : pj_dj cX1_firsts 47 (.ifCond .ne 8) 8 50 55 := ⟨by decide +kernel, rfl, by decide⟩
theorem dd_Fabric_firsts_50 : pj_d cX1_firsts 50 (.lload_n 1) 1 51 := ⟨by decide +kernel, rfl⟩
theorem dd_Fabric_firsts_51 : pj_d cX1_firsts 51 (.lload 4) 2 53 := ⟨by decide +kernel, rfl⟩
theorem dd_Fabric_firsts_53 : pj_d cX1_firsts 53 (.lor) 1 54 := ⟨by decide +kernel, rfl⟩
theorem dd_Fabric_firsts_54 : pj_d cX1_firsts 54 (.lstore_n 1) 1 55 := ⟨by decide +kernel, rfl⟩
theorem dd_Fabric_firsts_55 : pj_d cX1_firsts 55 (.iinc 3 1) 3 58 := ⟨by decide +kernel, rfl⟩
theorem dd_Fabric_firsts_58 : pj_dj cX1_firsts 58 (.goto (-54)) (-54) 61 4 := ⟨by decide +kernel, rfl, by decide⟩
theorem dd_Fabric_firsts_61 : pj_d cX1_firsts 61 (.lload_n 1) 1 62 := ⟨by decide +kernel, rfl⟩
theorem dd_Fabric_firsts_62 : pj_d cX1_firsts 62 (.lreturn) 1 63 := ⟨by decide +kernel, rfl⟩
set_option maxHeartbeats 4000000 in
set_option maxRecDepth 100000 in
theorem bt_Fabric_firsts_61 {B : pj_B} {A : Nat → Prop} {K : pj_K} {r0 : Int64} {z0 : pj_S} (hB : B.2.2.2.1 = pj_LC) (C : pj_C B A K cX1_firsts 6 RX1 4) (Q : pj_Ql B A K (some .long) r0 z0)  (v1 : Int64) (z : pj_S) (H : Heap) (lo : List Loc) (ls : Array Slot) (h : Fabric_firsts_61 v1 z = some (r0, z0)) (P : pj_P B A K z H lo) (hl : lv_has ls 6 [(1, .long v1)]) : pj_W K H lo 61 ls [] := by
  unfold Fabric_firsts_61 at h
  refine pj_lload_n C dd_Fabric_firsts_61 rfl hl 0 rfl ?_
  exact pj_lret C Q P h dd_Fabric_firsts_62
set_option maxHeartbeats 4000000 in
set_option maxRecDepth 100000 in
theorem bt_Fabric_firsts_55 {B : pj_B} {A : Nat → Prop} {K : pj_K} {r0 : Int64} {z0 : pj_S} (hB : B.2.2.2.1 = pj_LC) (C : pj_C B A K cX1_firsts 6 RX1 4) (Q : pj_Ql B A K (some .long) r0 z0) (s4 : Int64 → Int32 → pj_S → Option (Int64 × pj_S)) (k4 : ∀ (v1 : Int64) (v3 : Int32) (z : pj_S) (H : Heap) (lo : List Loc) (ls : Array Slot), s4 v1 v3 z = some (r0, z0) → pj_P B A K z H lo → lv_has ls 6 [(0, .ref (B.2.1 8)), (1, .long v1), (3, .int v3)] → pj_W K H lo 4 ls []) (v1 : Int64) (v3 : Int32) (z : pj_S) (H : Heap) (lo : List Loc) (ls : Array Slot) (h : Fabric_firsts_55 s4 v1 v3 z = some (r0, z0)) (P : pj_P B A K z H lo) (hl : lv_has ls 6 [(0, .ref (B.2.1 8)), (1, .long v1), (3, .int v3)]) : pj_W K H lo 55 ls [] := by
  unfold Fabric_firsts_55 at h
  refine pj_iinc (v := (nI 1)) [(0, .ref (B.2.1 8)), (1, .long v1)] C h rfl dd_Fabric_firsts_55 hl 2 rfl (by decide) rfl (fun x1 ls h hl => ?_)
  refine pj_goto C dd_Fabric_firsts_58 ?_
  exact k4 _ _ _ _ _ _ h P (lv_sub hl [1, 2, 0] rfl)
set_option maxHeartbeats 4000000 in
set_option maxRecDepth 100000 in
theorem bt_Fabric_firsts_4 {B : pj_B} {A : Nat → Prop} {K : pj_K} {r0 : Int64} {z0 : pj_S} (hB : B.2.2.2.1 = pj_LC) (C : pj_C B A K cX1_firsts 6 RX1 4) (Q : pj_Ql B A K (some .long) r0 z0) (s4 : Int64 → Int32 → pj_S → Option (Int64 × pj_S)) (k4 : ∀ (v1 : Int64) (v3 : Int32) (z : pj_S) (H : Heap) (lo : List Loc) (ls : Array Slot), s4 v1 v3 z = some (r0, z0) → pj_P B A K z H lo → lv_has ls 6 [(0, .ref (B.2.1 8)), (1, .long v1), (3, .int v3)] → pj_W K H lo 4 ls []) (v1 : Int64) (v3 : Int32) (z : pj_S) (H : Heap) (lo : List Loc) (ls : Array Slot) (h : Fabric_firsts_4 s4 v1 v3 z = some (r0, z0)) (P : pj_P B A K z H lo) (hl : lv_has ls 6 [(0, .ref (B.2.1 8)), (1, .long v1), (3, .int v3)]) : pj_W K H lo 4 ls [] := by
  unfold Fabric_firsts_4 at h
  refine pj_iload_n C dd_Fabric_firsts_4 rfl hl 2 rfl ?_
  refine pj_bipush (v := (nI 48)) C dd_Fabric_firsts_5 rfl ?_
  refine pj_ic_ge C h dd_Fabric_firsts_7 (fun h => ?_) (fun h => ?_)
  · exact bt_Fabric_firsts_61 hB C Q _ _ _ _ _ h P (lv_sub hl [1] rfl)
  · refine pj_lconst (v := (1 : Int64)) C dd_Fabric_firsts_10 rfl ?_
    refine pj_iload_n C dd_Fabric_firsts_11 rfl hl 2 rfl ?_
    refine pj_lshl C dd_Fabric_firsts_12 ?_
    refine pj_lstb [(0, .ref (B.2.1 8)), (1, .long v1), (3, .int v3)] C h dd_Fabric_firsts_13 hl (by decide) rfl (fun x1 ls h hl => ?_)
    refine pj_aload_n C dd_Fabric_firsts_15 rfl hl 1 rfl ?_
    refine pj_iload_n C dd_Fabric_firsts_16 rfl hl 3 rfl ?_
    obtain ⟨r4, z3, e2, h⟩ := pj_cE h
    refine pj_cVi (st := []) [.int v3] C P 8 (LC8 hB) rfl (ct_Fabric_has hB e2) cl_Fabric_52 rfl (by decide) (by decide) hl.1 (Nat.le_of_ble_eq_true rfl) dd_Fabric_firsts_17 (fun H lo P => ?_)
    refine pj_if_eq C h dd_Fabric_firsts_20 (fun h => ?_) (fun h => ?_)
    · exact bt_Fabric_firsts_55 hB C Q s4 k4 _ _ _ _ _ _ h P (lv_sub hl [1, 2, 3] rfl)
    · refine pj_aload_n C dd_Fabric_firsts_23 rfl hl 1 rfl ?_
      refine pj_aload_n C dd_Fabric_firsts_24 rfl hl 1 rfl ?_
      refine pj_getJ C P 8 (LC8 hB) rfl fl_Fabric_26 dd_Fabric_firsts_25 ?_
      refine pj_lload C dd_Fabric_firsts_28 hl 0 rfl ?_
      refine pj_ldc2 (v := (-1 : Int64)) C co_Fabric_56 dd_Fabric_firsts_30 ?_
      refine pj_lxor C dd_Fabric_firsts_33 ?_
      refine pj_land C dd_Fabric_firsts_34 ?_
      refine pj_aload_n C dd_Fabric_firsts_35 rfl hl 1 rfl ?_
      refine pj_getJ C P 8 (LC8 hB) rfl fl_Fabric_39 dd_Fabric_firsts_36 ?_
      obtain ⟨r7, z6, e5, h⟩ := pj_cE h
      refine pj_cVl (st := []) [.long ((z3.2 8 3) &&& (x1 ^^^ (-1 : Int64))), .long (z3.2 8 7)] C P 8 (LC8 hB) rfl (ct_Fabric_inTheEnd hB e5) cl_Fabric_70 rfl (by decide) (by decide) hl.1 (Nat.le_of_ble_eq_true rfl) dd_Fabric_firsts_39 (fun H lo P => ?_)
      refine pj_aload_n C dd_Fabric_firsts_42 rfl hl 1 rfl ?_
      refine pj_getJ C P 8 (LC8 hB) rfl fl_Fabric_36 dd_Fabric_firsts_43 ?_
      refine pj_lcmp C dd_Fabric_firsts_46 ?_
      refine pj_if_ne C h dd_Fabric_firsts_47 (fun h => ?_) (fun h => ?_)
      · exact bt_Fabric_firsts_55 hB C Q s4 k4 _ _ _ _ _ _ h P (lv_sub hl [1, 2, 3] rfl)
      · refine pj_lload_n C dd_Fabric_firsts_50 rfl hl 2 rfl ?_
        refine pj_lload C dd_Fabric_firsts_51 hl 0 rfl ?_
        refine pj_lor C dd_Fabric_firsts_53 ?_
        refine pj_lstb_n [(4, .long x1), (0, .ref (B.2.1 8)), (3, .int v3)] C h dd_Fabric_firsts_54 rfl hl (by decide) rfl (fun x8 ls h hl => ?_)
        exact bt_Fabric_firsts_55 hB C Q s4 k4 _ _ _ _ _ _ h P (lv_sub hl [2, 0, 3] rfl)
theorem lt_Fabric_firsts_4 {B : pj_B} {A : Nat → Prop} {K : pj_K} {r0 : Int64} {z0 : pj_S} (hB : B.2.2.2.1 = pj_LC) (C : pj_C B A K cX1_firsts 6 RX1 4) (Q : pj_Ql B A K (some .long) r0 z0)  : ∀ (n : Nat) (v1 : Int64) (v3 : Int32) (z : pj_S) (H : Heap) (lo : List Loc) (ls : Array Slot), pj_lp2 Fabric_firsts_4 n v1 v3 z = some (r0, z0) → pj_P B A K z H lo → lv_has ls 6 [(0, .ref (B.2.1 8)), (1, .long v1), (3, .int v3)] → pj_W K H lo 4 ls [] := by
  intro n
  induction n with
  | zero => intro v1 v3 z H lo ls h; rw [pj_lp2_0] at h; cases h
  | succ n ih =>
    intro v1 v3 z H lo ls h P hl
    rw [pj_lp2_s] at h
    exact bt_Fabric_firsts_4 hB C Q   (pj_lp2 Fabric_firsts_4 n) ih v1 v3 z H lo ls h P hl
set_option maxHeartbeats 4000000 in
set_option maxRecDepth 100000 in
theorem ct_Fabric_firsts {l : Launch} {B : pj_B} (hB : B.2.2.2.1 = pj_LC)  {z : pj_S} {r0 : Int64} {z0 : pj_S} (h : Fabric_firsts z = some (r0, z0)) : pj_Ml l yX1_firsts cX1_firsts 6 (some .long) 4 [.ref (B.2.1 8)] B z r0 z0 := by
  refine pj_metl (own := RX1) (by decide +kernel) rfl (Nat.le_of_ble_eq_true rfl) ?_
  intro A K hK C Q H lo ls P hl
  have hl : lv_has ls 6 [(0, .ref (B.2.1 8))] := hl
  unfold Fabric_firsts at h
  refine pj_lconst (v := (0 : Int64)) C dd_Fabric_firsts_0 rfl ?_
  refine pj_lstore_n [(1, .long (0 : Int64)), (0, .ref (B.2.1 8))] C dd_Fabric_firsts_1 rfl hl (by decide) rfl (fun ls hl => ?_)
  refine pj_iconst (v := (nI 0)) C dd_Fabric_firsts_2 rfl ?_
  refine pj_istore_n [(3, .int (nI 0)), (1, .long (0 : Int64)), (0, .ref (B.2.1 8))] C dd_Fabric_firsts_3 rfl hl (by decide) rfl (fun ls hl => ?_)
  exact lt_Fabric_firsts_4 hB C Q 4000 _ _ _ _ _ _ h P (lv_sub hl [2, 1, 0] rfl)
theorem dd_PJ_first_0 : pj_d cX10_first 0 (.iload_n 1) 1 1 := ⟨by decide +kernel, rfl⟩
theorem dd_PJ_first_1 : pj_dj cX10_first 1 (.ifCond .lt 8) 8 4 9 := ⟨by decide +kernel, rfl, by decide⟩
theorem dd_PJ_first_4 : pj_d cX10_first 4 (.iload_n 1) 1 5 := ⟨by decide +kernel, rfl⟩
theorem dd_PJ_first_5 : pj_d cX10_first 5 (.iconst 1) 1 6 := ⟨by decide +kernel, rfl⟩
theorem dd_PJ_first_6 : pj_dj cX10_first 6 (.if_icmp .le 5) 5 9 11 := ⟨by decide +kernel, rfl, by decide⟩
theorem dd_PJ_first_9 : pj_d cX10_first 9 (.iconst (-1)) 1 10 := ⟨by decide +kernel, rfl⟩
theorem dd_PJ_first_10 : pj_d cX10_first 10 (.ireturn) 1 11 := ⟨by decide +kernel, rfl⟩
theorem dd_PJ_first_11 : pj_d cX10_first 11 (.aload_n 0) 1 12 := ⟨by decide +kernel, rfl⟩
theorem dd_PJ_first_12 : pj_d cX10_first 12 (.getfield 10) 3 15 := ⟨by decide +kernel, rfl⟩
theorem dd_PJ_first_15 : pj_d cX10_first 15 (.getfield 65) 3 18 := ⟨by decide +kernel, rfl⟩
theorem dd_PJ_first_18 : pj_d cX10_first 18 (.invokevirtual 256) 3 21 := ⟨by decide +kernel, rfl⟩
theorem dd_PJ_first_21 : pj_d cX10_first 21 (.lstore_n 2) 1 22 := ⟨by decide +kernel, rfl⟩
theorem dd_PJ_first_22 : pj_d cX10_first 22 (.iload_n 1) 1 23 := ⟨by decide +kernel, rfl⟩
theorem dd_PJ_first_23 : pj_dj cX10_first 23 (.ifCond .ne 10) 10 26 33 := ⟨by decide +kernel, rfl, by decide⟩
theorem dd_PJ_first_26 : pj_d cX10_first 26 (.lload_n 2) 1 27 := ⟨by decide +kernel, rfl⟩
theorem dd_PJ_first_27 : pj_d cX10_first 27 (.invokestatic 212) 3 30 := ⟨by decide +kernel, rfl⟩
theorem dd_PJ_first_30 : pj_dj cX10_first 30 (.goto 8) 8 33 38 := ⟨by decide +kernel, rfl, by decide⟩
theorem dd_PJ_first_33 : pj_d cX10_first 33 (.lload_n 2) 1 34 := ⟨by decide +kernel, rfl⟩
theorem dd_PJ_first_34 : pj_d cX10_first 34 (.iconst 0) 1 35 := ⟨by decide +kernel, rfl⟩
theorem dd_PJ_first_35 : pj_d cX10_first 35 (.invokestatic 218) 3 38 := ⟨by decide +kernel, rfl⟩
theorem dd_PJ_first_38 : pj_d cX10_first 38 (.ireturn) 1 39 := ⟨by decide +kernel, rfl⟩
set_option maxHeartbeats 4000000 in
set_option maxRecDepth 100000 in
theorem ct_PJ_first {l : Launch} {B : pj_B} (hB : B.2.2.2.1 = pj_LC) {v1 : Int32} {z : pj_S} {r0 : Int32} {z0 : pj_S} (h : PJ_first v1 z = some (r0, z0)) : pj_Mi l yX10_first cX10_first 4 (some .int) 5 [.ref (B.2.1 0), .int v1] B z r0 z0 := by
  refine pj_meti (own := RX10) (by decide +kernel) rfl (Nat.le_of_ble_eq_true rfl) ?_
  intro A K hK C Q H lo ls P hl
  have hl : lv_has ls 4 [(0, .ref (B.2.1 0)), (1, .int v1)] := hl
  unfold PJ_first at h
  refine pj_iload_n C dd_PJ_first_0 rfl hl 1 rfl ?_
  refine pj_if_lt C h dd_PJ_first_1 (fun h => ?_) (fun h => ?_)
  · refine pj_iconst (v := (-1 : Int32)) C dd_PJ_first_9 rfl ?_
    exact pj_iret C Q P h dd_PJ_first_10
  · refine pj_iload_n C dd_PJ_first_4 rfl hl 1 rfl ?_
    refine pj_iconst (v := (nI 1)) C dd_PJ_first_5 rfl ?_
    refine pj_ic_le C h dd_PJ_first_6 (fun h => ?_) (fun h => ?_)
    · refine pj_aload_n C dd_PJ_first_11 rfl hl 0 rfl ?_
      refine pj_getR C P 0 (LC0 hB) rfl fl_PJ_10 dd_PJ_first_12 ?_
      refine pj_getR C P 1 (LC1 hB) rfl fl_PJ_65 dd_PJ_first_15 ?_
      obtain ⟨r3, z2, e1, h⟩ := pj_cE h
      refine pj_cVl (st := []) [] C P 8 (LC8 hB) rfl (ct_Fabric_firsts hB e1) cl_PJ_256 rfl (by decide) (by decide) hl.1 (Nat.le_of_ble_eq_true rfl) dd_PJ_first_18 (fun H lo P => ?_)
      refine pj_lstore_n [(2, .long r3), (0, .ref (B.2.1 0)), (1, .int v1)] C dd_PJ_first_21 rfl hl (by decide) rfl (fun ls hl => ?_)
      refine pj_iload_n C dd_PJ_first_22 rfl hl 2 rfl ?_
      refine pj_if_ne C h dd_PJ_first_23 (fun h => ?_) (fun h => ?_)
      · refine pj_lload_n C dd_PJ_first_33 rfl hl 0 rfl ?_
        refine pj_iconst (v := (nI 0)) C dd_PJ_first_34 rfl ?_
        obtain ⟨r6, z5, e4, h⟩ := pj_cE h
        refine pj_cSi (st := []) [.long r3, .int (nI 0)] C P (ct_PJ_numberIn hB e4) cl_PJ_218 rfl (by decide) (by decide) hl.1 (Nat.le_of_ble_eq_true rfl) dd_PJ_first_35 (fun H lo P => ?_)
        exact pj_iret C Q P h dd_PJ_first_38
      · refine pj_lload_n C dd_PJ_first_26 rfl hl 0 rfl ?_
        obtain ⟨r9, z8, e7, h⟩ := pj_cE h
        refine pj_cSi (st := []) [.long r3] C P (ct_JLong_bitCount hB e7) cl_PJ_212 rfl (by decide) (by decide) hl.1 (Nat.le_of_ble_eq_true rfl) dd_PJ_first_27 (fun H lo P => ?_)
        refine pj_goto C dd_PJ_first_30 ?_
        exact pj_iret C Q P h dd_PJ_first_38
    · refine pj_iconst (v := (-1 : Int32)) C dd_PJ_first_9 rfl ?_
      exact pj_iret C Q P h dd_PJ_first_10
theorem dd_Past_goBack_0 : pj_d cX4_goBack 0 (.aload_n 0) 1 1 := ⟨by decide +kernel, rfl⟩
theorem dd_Past_goBack_1 : pj_d cX4_goBack 1 (.getfield 34) 3 4 := ⟨by decide +kernel, rfl⟩
theorem dd_Past_goBack_4 : pj_dj cX4_goBack 4 (.ifCond .gt 5) 5 7 9 := ⟨by decide +kernel, rfl, by decide⟩
theorem dd_Past_goBack_7 : pj_d cX4_goBack 7 (.iconst 0) 1 8 := ⟨by decide +kernel, rfl⟩
theorem dd_Past_goBack_8 : pj_d cX4_goBack 8 (.ireturn) 1 9 := ⟨by decide +kernel, rfl⟩
theorem dd_Past_goBack_9 : pj_d cX4_goBack 9 (.aload_n 0) 1 10 := ⟨by decide +kernel, rfl⟩
theorem dd_Past_goBack_10 : pj_d cX4_goBack 10 (.getfield 38) 3 13 := ⟨by decide +kernel, rfl⟩
theorem dd_Past_goBack_13 : pj_d cX4_goBack 13 (.iconst 1) 1 14 := ⟨by decide +kernel, rfl⟩
theorem dd_Past_goBack_14 : pj_d cX4_goBack 14 (.isub) 1 15 := ⟨by decide +kernel, rfl⟩
theorem dd_Past_goBack_15 : pj_d cX4_goBack 15 (.bipush 7) 2 17 := ⟨by decide +kernel, rfl⟩
theorem dd_Past_goBack_17 : pj_d cX4_goBack 17 (.iand) 1 18 := ⟨by decide +kernel, rfl⟩
theorem dd_Past_goBack_18 : pj_d cX4_goBack 18 (.istore_n 2) 1 19 := ⟨by decide +kernel, rfl⟩
theorem dd_Past_goBack_19 : pj_d cX4_goBack 19 (.aload_n 1) 1 20 := ⟨by decide +kernel, rfl⟩
theorem dd_Past_goBack_20 : pj_d cX4_goBack 20 (.getfield 41) 3 23 := ⟨by decide +kernel, rfl⟩
theorem dd_Past_goBack_23 : pj_d cX4_goBack 23 (.aload_n 0) 1 24 := ⟨by decide +kernel, rfl⟩
theorem dd_Past_goBack_24 : pj_d cX4_goBack 24 (.getfield 9) 3 27 := ⟨by decide +kernel, rfl⟩
theorem dd_Past_goBack_27 : pj_d cX4_goBack 27 (.iload_n 2) 1 28 := ⟨by decide +kernel, rfl⟩
theorem dd_Past_goBack_28 : pj_d cX4_goBack 28 (.laload) 1 29 := ⟨by decide +kernel, rfl⟩
theorem dd_Past_goBack_29 : pj_d cX4_goBack 29 (.putfield 47) 3 32 := ⟨by decide +kernel, rfl⟩
theorem dd_Past_goBack_32 : pj_d cX4_goBack 32 (.aload_n 1) 1 33 := ⟨by decide +kernel, rfl⟩
theorem dd_Past_goBack_33 : pj_d cX4_goBack 33 (.getfield 41) 3 36 := ⟨by decide +kernel, rfl⟩
theorem dd_Past_goBack_36 : pj_d cX4_goBack 36 (.aload_n 0) 1 37 := ⟨by decide +kernel, rfl⟩
theorem dd_Past_goBack_37 : pj_d cX4_goBack 37 (.getfield 15) 3 40 := ⟨by decide +kernel, rfl⟩
theorem dd_Past_goBack_40 : pj_d cX4_goBack 40 (.iload_n 2) 1 41 := ⟨by decide +kernel, rfl⟩
theorem dd_Past_goBack_41 : pj_d cX4_goBack 41 (.laload) 1 42 := ⟨by decide +kernel, rfl⟩
theorem dd_Past_goBack_42 : pj_d cX4_goBack 42 (.putfield 52) 3 45 := ⟨by decide +kernel, rfl⟩
theorem dd_Past_goBack_45 : pj_d cX4_goBack 45 (.aload_n 1) 1 46 := ⟨by decide +kernel, rfl⟩
theorem dd_Past_goBack_46 : pj_d cX4_goBack 46 (.getfield 41) 3 49 := ⟨by decide +kernel, rfl⟩
theorem dd_Past_goBack_49 : pj_d cX4_goBack 49 (.aload_n 0) 1 50 := ⟨by decide +kernel, rfl⟩
theorem dd_Past_goBack_50 : pj_d cX4_goBack 50 (.getfield 18) 3 53 := ⟨by decide +kernel, rfl⟩
theorem dd_Past_goBack_53 : pj_d cX4_goBack 53 (.iload_n 2) 1 54 := ⟨by decide +kernel, rfl⟩
theorem dd_Past_goBack_54 : pj_d cX4_goBack 54 (.laload) 1 55 := ⟨by decide +kernel, rfl⟩
theorem dd_Past_goBack_55 : pj_d cX4_goBack 55 (.putfield 54) 3 58 := ⟨by decide +kernel, rfl⟩
theorem dd_Past_goBack_58 : pj_d cX4_goBack 58 (.aload_n 1) 1 59 := ⟨by decide +kernel, rfl⟩
theorem dd_Past_goBack_59 : pj_d cX4_goBack 59 (.aload_n 0) 1 60 := ⟨by decide +kernel, rfl⟩
theorem dd_Past_goBack_60 : pj_d cX4_goBack 60 (.getfield 21) 3 63 := ⟨by decide +kernel, rfl⟩
theorem dd_Past_goBack_63 : pj_d cX4_goBack 63 (.iload_n 2) 1 64 := ⟨by decide +kernel, rfl⟩
theorem dd_Past_goBack_64 : pj_d cX4_goBack 64 (.iaload) 1 65 := ⟨by decide +kernel, rfl⟩
theorem dd_Past_goBack_65 : pj_d cX4_goBack 65 (.putfield 56) 3 68 := ⟨by decide +kernel, rfl⟩
theorem dd_Past_goBack_68 : pj_d cX4_goBack 68 (.aload_n 1) 1 69 := ⟨by decide +kernel, rfl⟩
theorem dd_Past_goBack_69 : pj_d cX4_goBack 69 (.aload_n 0) 1 70 := ⟨by decide +kernel, rfl⟩
theorem dd_Past_goBack_70 : pj_d cX4_goBack 70 (.getfield 25) 3 73 := ⟨by decide +kernel, rfl⟩
theorem dd_Past_goBack_73 : pj_d cX4_goBack 73 (.iload_n 2) 1 74 := ⟨by decide +kernel, rfl⟩
theorem dd_Past_goBack_74 : pj_d cX4_goBack 74 (.iaload) 1 75 := ⟨by decide +kernel, rfl⟩
theorem dd_Past_goBack_75 : pj_d cX4_goBack 75 (.putfield 58) 3 78 := ⟨by decide +kernel, rfl⟩
theorem dd_Past_goBack_78 : pj_d cX4_goBack 78 (.aload_n 1) 1 79 := ⟨by decide +kernel, rfl⟩
theorem dd_Past_goBack_79 : pj_d cX4_goBack 79 (.getfield 60) 3 82 := ⟨by decide +kernel, rfl⟩
theorem dd_Past_goBack_82 : pj_d cX4_goBack 82 (.aload_n 0) 1 83 := ⟨by decide +kernel, rfl⟩
theorem dd_Past_goBack_83 : pj_d cX4_goBack 83 (.getfield 28) 3 86 := ⟨by decide +kernel, rfl⟩
theorem dd_Past_goBack_86 : pj_d cX4_goBack 86 (.iload_n 2) 1 87 := ⟨by decide +kernel, rfl⟩
theorem dd_Past_goBack_87 : pj_d cX4_goBack 87 (.iaload) 1 88 := ⟨by decide +kernel, rfl⟩
theorem dd_Past_goBack_88 : pj_d cX4_goBack 88 (.putfield 64) 3 91 := ⟨by decide +kernel, rfl⟩
theorem dd_Past_goBack_91 : pj_d cX4_goBack 91 (.aload_n 1) 1 92 := ⟨by decide +kernel, rfl⟩
theorem dd_Past_goBack_92 : pj_d cX4_goBack 92 (.getfield 67) 3 95 := ⟨by decide +kernel, rfl⟩
theorem dd_Past_goBack_95 : pj_d cX4_goBack 95 (.aload_n 0) 1 96 := ⟨by decide +kernel, rfl⟩
theorem dd_Past_goBack_96 : pj_d cX4_goBack 96 (.getfield 31) 3 99 := ⟨by decide +kernel, rfl⟩
theorem dd_Past_goBack_99 : pj_d cX4_goBack 99 (.iload_n 2) 1 100 := ⟨by decide +kernel, rfl⟩
theorem dd_Past_goBack_100 : pj_d cX4_goBack 100 (.iaload) 1 101 := ⟨by decide +kernel, rfl⟩
theorem dd_Past_goBack_101 : pj_d cX4_goBack 101 (.putfield 71) 3 104 := ⟨by decide +kernel, rfl⟩
theorem dd_Past_goBack_104 : pj_d cX4_goBack 104 (.aload_n 0) 1 105 := ⟨by decide +kernel, rfl⟩
theorem dd_Past_goBack_105 : pj_d cX4_goBack 105 (.iload_n 2) 1 106 := ⟨by decide +kernel, rfl⟩
theorem dd_Past_goBack_106 : pj_d cX4_goBack 106 (.putfield 38) 3 109 := ⟨by decide +kernel, rfl⟩
theorem dd_Past_goBack_109 : pj_d cX4_goBack 109 (.aload_n 0) 1 110 := ⟨by decide +kernel, rfl⟩
theorem dd_Past_goBack_110 : pj_d cX4_goBack 110 (.dup) 1 111 := ⟨by decide +kernel, rfl⟩
theorem dd_Past_goBack_111 : pj_d cX4_goBack 111 (.getfield 34) 3 114 := ⟨by decide +kernel, rfl⟩
theorem dd_Past_goBack_114 : pj_d cX4_goBack 114 (.iconst 1) 1 115 := ⟨by decide +kernel, rfl⟩
theorem dd_Past_goBack_115 : pj_d cX4_goBack 115 (.isub) 1 116 := ⟨by decide +kernel, rfl⟩
theorem dd_Past_goBack_116 : pj_d cX4_goBack 116 (.putfield 34) 3 119 := ⟨by decide +kernel, rfl⟩
theorem dd_Past_goBack_119 : pj_d cX4_goBack 119 (.iconst 1) 1 120 := ⟨by decide +kernel, rfl⟩
theorem dd_Past_goBack_120 : pj_d cX4_goBack 120 (.ireturn) 1 121 := ⟨by decide +kernel, rfl⟩
set_option maxHeartbeats 4000000 in
set_option maxRecDepth 100000 in
theorem ct_Past_goBack {l : Launch} {B : pj_B} (hB : B.2.2.2.1 = pj_LC)  {z : pj_S} {r0 : Int32} {z0 : pj_S} (h : Past_goBack z = some (r0, z0)) : pj_Mi l yX4_goBack cX4_goBack 3 (some .boolean) 1 [.ref (B.2.1 3), .ref (B.2.1 1)] B z r0 z0 := by
  refine pj_meti (own := RX4) (by decide +kernel) rfl (Nat.le_of_ble_eq_true rfl) ?_
  intro A K hK C Q H lo ls P hl
  have hl : lv_has ls 3 [(0, .ref (B.2.1 3)), (1, .ref (B.2.1 1))] := hl
  unfold Past_goBack at h
  refine pj_aload_n C dd_Past_goBack_0 rfl hl 0 rfl ?_
  refine pj_getI C P 3 (LC3 hB) rfl fl_Past_34 dd_Past_goBack_1 ?_
  refine pj_if_gt C h dd_Past_goBack_4 (fun h => ?_) (fun h => ?_)
  · refine pj_aload_n C dd_Past_goBack_9 rfl hl 0 rfl ?_
    refine pj_getI C P 3 (LC3 hB) rfl fl_Past_38 dd_Past_goBack_10 ?_
    refine pj_iconst (v := (nI 1)) C dd_Past_goBack_13 rfl ?_
    refine pj_isub C dd_Past_goBack_14 ?_
    refine pj_bipush (v := (nI 7)) C dd_Past_goBack_15 rfl ?_
    refine pj_iand C dd_Past_goBack_17 ?_
    refine pj_istb_n [(0, .ref (B.2.1 3)), (1, .ref (B.2.1 1))] C h dd_Past_goBack_18 rfl hl (by decide) rfl (fun x1 ls h hl => ?_)
    refine pj_aload_n C dd_Past_goBack_19 rfl hl 2 rfl ?_
    refine pj_getR C P 1 (LC1 hB) rfl fl_Past_41 dd_Past_goBack_20 ?_
    refine pj_aload_n C dd_Past_goBack_23 rfl hl 1 rfl ?_
    refine pj_getR C P 3 (LC3 hB) rfl fl_Past_9 dd_Past_goBack_24 ?_
    refine pj_iload_n C dd_Past_goBack_27 rfl hl 0 rfl ?_
    refine pj_lald C P 16 (LC16 hB) h dd_Past_goBack_28 (fun h => ?_)
    refine pj_putJ C P 8 (LC8 hB) rfl fl_Past_47 rfl fy_1_6 h dd_Past_goBack_29 (fun H lo z2 h P => ?_)
    refine pj_aload_n C dd_Past_goBack_32 rfl hl 2 rfl ?_
    refine pj_getR C P 1 (LC1 hB) rfl fl_Past_41 dd_Past_goBack_33 ?_
    refine pj_aload_n C dd_Past_goBack_36 rfl hl 1 rfl ?_
    refine pj_getR C P 3 (LC3 hB) rfl fl_Past_15 dd_Past_goBack_37 ?_
    refine pj_iload_n C dd_Past_goBack_40 rfl hl 0 rfl ?_
    refine pj_lald C P 17 (LC17 hB) h dd_Past_goBack_41 (fun h => ?_)
    refine pj_putJ C P 8 (LC8 hB) rfl fl_Past_52 rfl fy_1_8 h dd_Past_goBack_42 (fun H lo z3 h P => ?_)
    refine pj_aload_n C dd_Past_goBack_45 rfl hl 2 rfl ?_
    refine pj_getR C P 1 (LC1 hB) rfl fl_Past_41 dd_Past_goBack_46 ?_
    refine pj_aload_n C dd_Past_goBack_49 rfl hl 1 rfl ?_
    refine pj_getR C P 3 (LC3 hB) rfl fl_Past_18 dd_Past_goBack_50 ?_
    refine pj_iload_n C dd_Past_goBack_53 rfl hl 0 rfl ?_
    refine pj_lald C P 18 (LC18 hB) h dd_Past_goBack_54 (fun h => ?_)
    refine pj_putJ C P 8 (LC8 hB) rfl fl_Past_54 rfl fy_1_9 h dd_Past_goBack_55 (fun H lo z4 h P => ?_)
    refine pj_aload_n C dd_Past_goBack_58 rfl hl 2 rfl ?_
    refine pj_aload_n C dd_Past_goBack_59 rfl hl 1 rfl ?_
    refine pj_getR C P 3 (LC3 hB) rfl fl_Past_21 dd_Past_goBack_60 ?_
    refine pj_iload_n C dd_Past_goBack_63 rfl hl 0 rfl ?_
    refine pj_iald C P 19 (LC19 hB) h dd_Past_goBack_64 (fun h => ?_)
    refine pj_putI C P 1 (LC1 hB) rfl fl_Past_56 rfl fy_8_4 h dd_Past_goBack_65 (fun H lo z5 h P => ?_)
    refine pj_aload_n C dd_Past_goBack_68 rfl hl 2 rfl ?_
    refine pj_aload_n C dd_Past_goBack_69 rfl hl 1 rfl ?_
    refine pj_getR C P 3 (LC3 hB) rfl fl_Past_25 dd_Past_goBack_70 ?_
    refine pj_iload_n C dd_Past_goBack_73 rfl hl 0 rfl ?_
    refine pj_iald C P 20 (LC20 hB) h dd_Past_goBack_74 (fun h => ?_)
    refine pj_putI C P 1 (LC1 hB) rfl fl_Past_58 rfl fy_8_5 h dd_Past_goBack_75 (fun H lo z6 h P => ?_)
    refine pj_aload_n C dd_Past_goBack_78 rfl hl 2 rfl ?_
    refine pj_getR C P 1 (LC1 hB) rfl fl_Past_60 dd_Past_goBack_79 ?_
    refine pj_aload_n C dd_Past_goBack_82 rfl hl 1 rfl ?_
    refine pj_getR C P 3 (LC3 hB) rfl fl_Past_28 dd_Past_goBack_83 ?_
    refine pj_iload_n C dd_Past_goBack_86 rfl hl 0 rfl ?_
    refine pj_iald C P 21 (LC21 hB) h dd_Past_goBack_87 (fun h => ?_)
    refine pj_putI C P 10 (LC10 hB) rfl fl_Past_64 rfl fy_0_3 h dd_Past_goBack_88 (fun H lo z7 h P => ?_)
    refine pj_aload_n C dd_Past_goBack_91 rfl hl 2 rfl ?_
    refine pj_getR C P 1 (LC1 hB) rfl fl_Past_67 dd_Past_goBack_92 ?_
    refine pj_aload_n C dd_Past_goBack_95 rfl hl 1 rfl ?_
    refine pj_getR C P 3 (LC3 hB) rfl fl_Past_31 dd_Past_goBack_96 ?_
    refine pj_iload_n C dd_Past_goBack_99 rfl hl 0 rfl ?_
    refine pj_iald C P 22 (LC22 hB) h dd_Past_goBack_100 (fun h => ?_)
    refine pj_putI C P 11 (LC11 hB) rfl fl_Past_71 rfl fy_9_1 h dd_Past_goBack_101 (fun H lo z8 h P => ?_)
    refine pj_aload_n C dd_Past_goBack_104 rfl hl 1 rfl ?_
    refine pj_iload_n C dd_Past_goBack_105 rfl hl 0 rfl ?_
    refine pj_putI C P 3 (LC3 hB) rfl fl_Past_38 rfl fy_4_8 h dd_Past_goBack_106 (fun H lo z9 h P => ?_)
    refine pj_aload_n C dd_Past_goBack_109 rfl hl 1 rfl ?_
    refine pj_dup C dd_Past_goBack_110 rfl ?_
    refine pj_getI C P 3 (LC3 hB) rfl fl_Past_34 dd_Past_goBack_111 ?_
    refine pj_iconst (v := (nI 1)) C dd_Past_goBack_114 rfl ?_
    refine pj_isub C dd_Past_goBack_115 ?_
    refine pj_putI C P 3 (LC3 hB) rfl fl_Past_34 rfl fy_4_7 h dd_Past_goBack_116 (fun H lo z10 h P => ?_)
    refine pj_iconst (v := (nI 1)) C dd_Past_goBack_119 rfl ?_
    exact pj_zret C Q P h dd_Past_goBack_120
  · refine pj_iconst (v := (nI 0)) C dd_Past_goBack_7 rfl ?_
    exact pj_zret C Q P h dd_Past_goBack_8
