theorem dd_Md_state_0 : pj_d cX11_state 0 (.aload_n 0) 1 1 := ⟨by decide +kernel, rfl⟩
theorem dd_Md_state_1 : pj_d cX11_state 1 (.getfield 7) 3 4 := ⟨by decide +kernel, rfl⟩
theorem dd_Md_state_4 : pj_d cX11_state 4 (.bipush 6) 2 6 := ⟨by decide +kernel, rfl⟩
theorem dd_Md_state_6 : pj_d cX11_state 6 (.iaload) 1 7 := ⟨by decide +kernel, rfl⟩
theorem dd_Md_state_7 : pj_d cX11_state 7 (.istore_n 2) 1 8 := ⟨by decide +kernel, rfl⟩
theorem dd_Md_state_8 : pj_d cX11_state 8 (.aload_n 0) 1 9 := ⟨by decide +kernel, rfl⟩
theorem dd_Md_state_9 : pj_d cX11_state 9 (.getfield 7) 3 12 := ⟨by decide +kernel, rfl⟩
theorem dd_Md_state_12 : pj_d cX11_state 12 (.bipush 6) 2 14 := ⟨by decide +kernel, rfl⟩
theorem dd_Md_state_14 : pj_d cX11_state 14 (.iload_n 1) 1 15 := ⟨by decide +kernel, rfl⟩
theorem dd_Md_state_15 : pj_d cX11_state 15 (.iastore) 1 16 := ⟨by decide +kernel, rfl⟩
theorem dd_Md_state_16 : pj_d cX11_state 16 (.aload_n 0) 1 17 := ⟨by decide +kernel, rfl⟩
theorem dd_Md_state_17 : pj_d cX11_state 17 (.iconst 0) 1 18 := ⟨by decide +kernel, rfl⟩
theorem dd_Md_state_18 : pj_d cX11_state 18 (.putfield 67) 3 21 := ⟨by decide +kernel, rfl⟩
theorem dd_Md_state_21 : pj_d cX11_state 21 (.iload_n 2) 1 22 := ⟨by decide +kernel, rfl⟩
theorem dd_Md_state_22 : pj_d cX11_state 22 (.ireturn) 1 23 := ⟨by decide +kernel, rfl⟩
set_option maxHeartbeats 4000000 in
set_option maxRecDepth 100000 in
theorem ct_Md_state {l : Launch} {B : pj_B} (hB : B.2.2.2.1 = pj_LM) {v1 : Int32} {z : pj_S} {r0 : Int32} {z0 : pj_S} (h : Md_state v1 z = some (r0, z0)) : pj_Mi l yX11_state cX11_state 3 (some .int) 1 [.ref (B.2.1 0), .int v1] B z r0 z0 := by
  refine pj_meti (own := RX11) (by decide +kernel) rfl (Nat.le_of_ble_eq_true rfl) ?_
  intro A K hK C Q H lo ls P hl
  have hl : lv_has ls 3 [(0, .ref (B.2.1 0)), (1, .int v1)] := hl
  unfold Md_state at h
  refine pj_aload_n C dd_Md_state_0 rfl hl 0 rfl ?_
  refine pj_getR C P 0 (LM0 hB) rfl fl_Md_7 dd_Md_state_1 ?_
  refine pj_bipush (v := (nI 6)) C dd_Md_state_4 rfl ?_
  refine pj_iald C P 1 (LM1 hB) h dd_Md_state_6 (fun h => ?_)
  refine pj_istb_n [(0, .ref (B.2.1 0)), (1, .int v1)] C h dd_Md_state_7 rfl hl (by decide) rfl (fun x1 ls h hl => ?_)
  refine pj_aload_n C dd_Md_state_8 rfl hl 1 rfl ?_
  refine pj_getR C P 0 (LM0 hB) rfl fl_Md_7 dd_Md_state_9 ?_
  refine pj_bipush (v := (nI 6)) C dd_Md_state_12 rfl ?_
  refine pj_iload_n C dd_Md_state_14 rfl hl 2 rfl ?_
  refine pj_iast C P 1 (LM1 hB) h dd_Md_state_15 (fun H lo z2 h P => ?_)
  refine pj_aload_n C dd_Md_state_16 rfl hl 1 rfl ?_
  refine pj_iconst (v := (nI 0)) C dd_Md_state_17 rfl ?_
  refine pj_putI C P 0 (LM0 hB) rfl fl_Md_67 rfl fy_11_3 h dd_Md_state_18 (fun H lo z3 h P => ?_)
  refine pj_iload_n C dd_Md_state_21 rfl hl 0 rfl ?_
  exact pj_iret C Q P h dd_Md_state_22
theorem dd_Md_isIn_0 : pj_d cX11_isIn 0 (.iload_n 0) 1 1 := ⟨by decide +kernel, rfl⟩
theorem dd_Md_isIn_1 : pj_d cX11_isIn 1 (.iload_n 1) 1 2 := ⟨by decide +kernel, rfl⟩
theorem dd_Md_isIn_2 : pj_dj cX11_isIn 2 (.if_icmp .lt 12) 12 5 14 := ⟨by decide +kernel, rfl, by decide⟩
theorem dd_Md_isIn_5 : pj_d cX11_isIn 5 (.iload_n 0) 1 6 := ⟨by decide +kernel, rfl⟩
theorem dd_Md_isIn_6 : pj_d cX11_isIn 6 (.iload_n 2) 1 7 := ⟨by decide +kernel, rfl⟩
theorem dd_Md_isIn_7 : pj_dj cX11_isIn 7 (.if_icmp .gt 7) 7 10 14 := ⟨by decide +kernel, rfl, by decide⟩
theorem dd_Md_isIn_10 : pj_d cX11_isIn 10 (.iconst 1) 1 11 := ⟨by decide +kernel, rfl⟩
theorem dd_Md_isIn_11 : pj_dj cX11_isIn 11 (.goto 4) 4 14 15 := ⟨by decide +kernel, rfl, by decide⟩
theorem dd_Md_isIn_14 : pj_d cX11_isIn 14 (.iconst 0) 1 15 := ⟨by decide +kernel, rfl⟩
theorem dd_Md_isIn_15 : pj_d cX11_isIn 15 (.ireturn) 1 16 := ⟨by decide +kernel, rfl⟩
set_option maxHeartbeats 4000000 in
set_option maxRecDepth 100000 in
theorem ct_Md_isInM {l : Launch} {B : pj_B} (hB : B.2.2.2.1 = pj_LM) {v0 : Int32} {v1 : Int32} {v2 : Int32} {z : pj_S} {r0 : Int32} {z0 : pj_S} (h : Md_isInM v0 v1 v2 z = some (r0, z0)) : pj_Mi l yX11_isIn cX11_isIn 3 (some .boolean) 1 [.int v0, .int v1, .int v2] B z r0 z0 := by
  refine pj_meti (own := RX11) (by decide +kernel) rfl (Nat.le_of_ble_eq_true rfl) ?_
  intro A K hK C Q H lo ls P hl
  have hl : lv_has ls 3 [(0, .int v0), (1, .int v1), (2, .int v2)] := hl
  unfold Md_isInM at h
  refine pj_iload_n C dd_Md_isIn_0 rfl hl 0 rfl ?_
  refine pj_iload_n C dd_Md_isIn_1 rfl hl 1 rfl ?_
  refine pj_ic_lt C h dd_Md_isIn_2 (fun h => ?_) (fun h => ?_)
  · refine pj_iconst (v := (nI 0)) C dd_Md_isIn_14 rfl ?_
    exact pj_zret C Q P h dd_Md_isIn_15
  · refine pj_iload_n C dd_Md_isIn_5 rfl hl 0 rfl ?_
    refine pj_iload_n C dd_Md_isIn_6 rfl hl 2 rfl ?_
    refine pj_ic_gt C h dd_Md_isIn_7 (fun h => ?_) (fun h => ?_)
    · refine pj_iconst (v := (nI 0)) C dd_Md_isIn_14 rfl ?_
      exact pj_zret C Q P h dd_Md_isIn_15
    · refine pj_iconst (v := (nI 1)) C dd_Md_isIn_10 rfl ?_
      refine pj_goto C dd_Md_isIn_11 ?_
      exact pj_zret C Q P h dd_Md_isIn_15
theorem dd_Md_isStitch_0 : pj_d cX11_isStitch 0 (.iload_n 1) 1 1 := ⟨by decide +kernel, rfl⟩
theorem dd_Md_isStitch_1 : pj_d cX11_isStitch 1 (.iconst 0) 1 2 := ⟨by decide +kernel, rfl⟩
theorem dd_Md_isStitch_2 : pj_d cX11_isStitch 2 (.bipush 63) 2 4 := ⟨by decide +kernel, rfl⟩
theorem dd_Md_isStitch_4 : pj_d cX11_isStitch 4 (.invokestatic 70) 3 7 := ⟨by decide +kernel, rfl⟩
theorem dd_Md_isStitch_7 : pj_dj cX11_isStitch 7 (.ifCond .eq 33) 33 10 40 := ⟨by decide +kernel, rfl, by decide⟩
theorem dd_Md_isStitch_10 : pj_d cX11_isStitch 10 (.iload_n 1) 1 11 := ⟨by decide +kernel, rfl⟩
theorem dd_Md_isStitch_11 : pj_d cX11_isStitch 11 (.bipush 8) 2 13 := ⟨by decide +kernel, rfl⟩
theorem dd_Md_isStitch_13 : pj_d cX11_isStitch 13 (.irem) 1 14 := ⟨by decide +kernel, rfl⟩
theorem dd_Md_isStitch_14 : pj_d cX11_isStitch 14 (.aload_n 0) 1 15 := ⟨by decide +kernel, rfl⟩
theorem dd_Md_isStitch_15 : pj_d cX11_isStitch 15 (.getfield 7) 3 18 := ⟨by decide +kernel, rfl⟩
theorem dd_Md_isStitch_18 : pj_d cX11_isStitch 18 (.iconst 0) 1 19 := ⟨by decide +kernel, rfl⟩
theorem dd_Md_isStitch_19 : pj_d cX11_isStitch 19 (.iaload) 1 20 := ⟨by decide +kernel, rfl⟩
theorem dd_Md_isStitch_20 : pj_dj cX11_isStitch 20 (.if_icmp .ge 20) 20 23 40 := ⟨by decide +kernel, rfl, by decide⟩
theorem dd_Md_isStitch_23 : pj_d cX11_isStitch 23 (.iload_n 1) 1 24 := ⟨by decide +kernel, rfl⟩
theorem dd_Md_isStitch_24 : pj_d cX11_isStitch 24 (.bipush 8) 2 26 := ⟨by decide +kernel, rfl⟩
theorem dd_Md_isStitch_26 : pj_d cX11_isStitch 26 (.idiv) 1 27 := ⟨by decide +kernel, rfl⟩
theorem dd_Md_isStitch_27 : pj_d cX11_isStitch 27 (.aload_n 0) 1 28 := ⟨by decide +kernel, rfl⟩
theorem dd_Md_isStitch_28 : pj_d cX11_isStitch 28 (.getfield 7) 3 31 := ⟨by decide +kernel, rfl⟩
theorem dd_Md_isStitch_31 : pj_d cX11_isStitch 31 (.iconst 1) 1 32 := ⟨by decide +kernel, rfl⟩
theorem dd_Md_isStitch_32 : pj_d cX11_isStitch 32 (.iaload) 1 33 := ⟨by decide +kernel, rfl⟩
theorem dd_Md_isStitch_33 : pj_dj cX11_isStitch 33 (.if_icmp .ge 7) 7 36 40 := ⟨by decide +kernel, rfl, by decide⟩
theorem dd_Md_isStitch_36 : pj_d cX11_isStitch 36 (.iconst 1) 1 37 := ⟨by decide +kernel, rfl⟩
theorem dd_Md_isStitch_37 : pj_dj cX11_isStitch 37 (.goto 4) 4 40 41 := ⟨by decide +kernel, rfl, by decide⟩
theorem dd_Md_isStitch_40 : pj_d cX11_isStitch 40 (.iconst 0) 1 41 := ⟨by decide +kernel, rfl⟩
theorem dd_Md_isStitch_41 : pj_d cX11_isStitch 41 (.ireturn) 1 42 := ⟨by decide +kernel, rfl⟩
set_option maxHeartbeats 4000000 in
set_option maxRecDepth 100000 in
theorem ct_Md_isStitch {l : Launch} {B : pj_B} (hB : B.2.2.2.1 = pj_LM) {v1 : Int32} {z : pj_S} {r0 : Int32} {z0 : pj_S} (h : Md_isStitch v1 z = some (r0, z0)) : pj_Mi l yX11_isStitch cX11_isStitch 2 (some .boolean) 2 [.ref (B.2.1 0), .int v1] B z r0 z0 := by
  refine pj_meti (own := RX11) (by decide +kernel) rfl (Nat.le_of_ble_eq_true rfl) ?_
  intro A K hK C Q H lo ls P hl
  have hl : lv_has ls 2 [(0, .ref (B.2.1 0)), (1, .int v1)] := hl
  unfold Md_isStitch at h
  refine pj_iload_n C dd_Md_isStitch_0 rfl hl 1 rfl ?_
  refine pj_iconst (v := (nI 0)) C dd_Md_isStitch_1 rfl ?_
  refine pj_bipush (v := (nI 63)) C dd_Md_isStitch_2 rfl ?_
  obtain ⟨r3, z2, e1, h⟩ := pj_cE h
  refine pj_cSi (st := []) [.int v1, .int (nI 0), .int (nI 63)] C P (ct_Md_isInM hB e1) cl_Md_70 rfl (by decide) (by decide) hl.1 (Nat.le_of_ble_eq_true rfl) dd_Md_isStitch_4 (fun H lo P => ?_)
  refine pj_if_eq C h dd_Md_isStitch_7 (fun h => ?_) (fun h => ?_)
  · refine pj_iconst (v := (nI 0)) C dd_Md_isStitch_40 rfl ?_
    exact pj_zret C Q P h dd_Md_isStitch_41
  · refine pj_iload_n C dd_Md_isStitch_10 rfl hl 1 rfl ?_
    refine pj_bipush (v := (nI 8)) C dd_Md_isStitch_11 rfl ?_
    refine pj_irem C h dd_Md_isStitch_13 (fun h => ?_)
    refine pj_aload_n C dd_Md_isStitch_14 rfl hl 0 rfl ?_
    refine pj_getR C P 0 (LM0 hB) rfl fl_Md_7 dd_Md_isStitch_15 ?_
    refine pj_iconst (v := (nI 0)) C dd_Md_isStitch_18 rfl ?_
    refine pj_iald C P 1 (LM1 hB) h dd_Md_isStitch_19 (fun h => ?_)
    refine pj_ic_ge C h dd_Md_isStitch_20 (fun h => ?_) (fun h => ?_)
    · refine pj_iconst (v := (nI 0)) C dd_Md_isStitch_40 rfl ?_
      exact pj_zret C Q P h dd_Md_isStitch_41
    · refine pj_iload_n C dd_Md_isStitch_23 rfl hl 1 rfl ?_
      refine pj_bipush (v := (nI 8)) C dd_Md_isStitch_24 rfl ?_
      refine pj_idiv C h dd_Md_isStitch_26 (fun h => ?_)
      refine pj_aload_n C dd_Md_isStitch_27 rfl hl 0 rfl ?_
      refine pj_getR C P 0 (LM0 hB) rfl fl_Md_7 dd_Md_isStitch_28 ?_
      refine pj_iconst (v := (nI 1)) C dd_Md_isStitch_31 rfl ?_
      refine pj_iald C P 1 (LM1 hB) h dd_Md_isStitch_32 (fun h => ?_)
      refine pj_ic_ge C h dd_Md_isStitch_33 (fun h => ?_) (fun h => ?_)
      · refine pj_iconst (v := (nI 0)) C dd_Md_isStitch_40 rfl ?_
        exact pj_zret C Q P h dd_Md_isStitch_41
      · refine pj_iconst (v := (nI 1)) C dd_Md_isStitch_36 rfl ?_
        refine pj_goto C dd_Md_isStitch_37 ?_
        exact pj_zret C Q P h dd_Md_isStitch_41
theorem dd_Md_begins_0 : pj_d cX11_begins 0 (.aload_n 0) 1 1 := ⟨by decide +kernel, rfl⟩
theorem dd_Md_begins_1 : pj_d cX11_begins 1 (.getfield 7) 3 4 := ⟨by decide +kernel, rfl⟩
theorem dd_Md_begins_4 : pj_d cX11_begins 4 (.bipush 6) 2 6 := ⟨by decide +kernel, rfl⟩
theorem dd_Md_begins_6 : pj_d cX11_begins 6 (.iaload) 1 7 := ⟨by decide +kernel, rfl⟩
theorem dd_Md_begins_7 : pj_d cX11_begins 7 (.istore_n 3) 1 8 := ⟨by decide +kernel, rfl⟩
theorem dd_Md_begins_8 : pj_d cX11_begins 8 (.iconst 0) 1 9 := ⟨by decide +kernel, rfl⟩
theorem dd_Md_begins_9 : pj_d cX11_begins 9 (.istore 4) 2 11 := ⟨by decide +kernel, rfl⟩
theorem dd_Md_begins_11 : pj_d cX11_begins 11 (.iload 4) 2 13 := ⟨by decide +kernel, rfl⟩
theorem dd_Md_begins_13 : pj_d cX11_begins 13 (.sipush 1554) 3 16 := ⟨by decide +kernel, rfl⟩
theorem dd_Md_begins_16 : pj_dj cX11_begins 16 (.if_icmp .ge 17) 17 19 33 := ⟨by decide +kernel, rfl, by decide⟩
theorem dd_Md_begins_19 : pj_d cX11_begins 19 (.aload_n 0) 1 20 := ⟨by decide +kernel, rfl⟩
theorem dd_Md_begins_20 : pj_d cX11_begins 20 (.getfield 7) 3 23 := ⟨by decide +kernel, rfl⟩
theorem dd_Md_begins_23 : pj_d cX11_begins 23 (.iload 4) 2 25 := ⟨by decide +kernel, rfl⟩
theorem dd_Md_begins_25 : pj_d cX11_begins 25 (.iconst 0) 1 26 := ⟨by decide +kernel, rfl⟩
theorem dd_Md_begins_26 : pj_d cX11_begins 26 (.iastore) 1 27 := ⟨by decide +kernel, rfl⟩
theorem dd_Md_begins_27 : pj_d cX11_begins 27 (.iinc 4 1) 3 30 := ⟨by decide +kernel, rfl⟩
theorem dd_Md_begins_30 : pj_dj cX11_begins 30 (.goto (-19)) (-19) 33 11 := ⟨by decide +kernel, rfl, by decide⟩
theorem dd_Md_begins_33 : pj_d cX11_begins 33 (.aload_n 0) 1 34 := ⟨by decide +kernel, rfl⟩
theorem dd_Md_begins_34 : pj_d cX11_begins 34 (.getfield 7) 3 37 := ⟨by decide +kernel, rfl⟩
theorem dd_Md_begins_37 : pj_d cX11_begins 37 (.bipush 6) 2 39 := ⟨by decide +kernel, rfl⟩
theorem dd_Md_begins_39 : pj_d cX11_begins 39 (.iload_n 3) 1 40 := ⟨by decide +kernel, rfl⟩
theorem dd_Md_begins_40 : pj_d cX11_begins 40 (.iastore) 1 41 := ⟨by decide +kernel, rfl⟩
theorem dd_Md_begins_41 : pj_d cX11_begins 41 (.aload_n 0) 1 42 := ⟨by decide +kernel, rfl⟩
theorem dd_Md_begins_42 : pj_d cX11_begins 42 (.getfield 7) 3 45 := ⟨by decide +kernel, rfl⟩
theorem dd_Md_begins_45 : pj_d cX11_begins 45 (.iconst 0) 1 46 := ⟨by decide +kernel, rfl⟩
theorem dd_Md_begins_46 : pj_d cX11_begins 46 (.iload_n 1) 1 47 := ⟨by decide +kernel, rfl⟩
theorem dd_Md_begins_47 : pj_d cX11_begins 47 (.iastore) 1 48 := ⟨by decide +kernel, rfl⟩
theorem dd_Md_begins_48 : pj_d cX11_begins 48 (.aload_n 0) 1 49 := ⟨by decide +kernel, rfl⟩
theorem dd_Md_begins_49 : pj_d cX11_begins 49 (.getfield 7) 3 52 := ⟨by decide +kernel, rfl⟩
theorem dd_Md_begins_52 : pj_d cX11_begins 52 (.iconst 1) 1 53 := ⟨by decide +kernel, rfl⟩
theorem dd_Md_begins_53 : pj_d cX11_begins 53 (.iload_n 2) 1 54 := ⟨by decide +kernel, rfl⟩
theorem dd_Md_begins_54 : pj_d cX11_begins 54 (.iastore) 1 55 := ⟨by decide +kernel, rfl⟩
theorem dd_Md_begins_55 : pj_d cX11_begins 55 (.aload_n 0) 1 56 := ⟨by decide +kernel, rfl⟩
theorem dd_Md_begins_56 : pj_d cX11_begins 56 (.getfield 7) 3 59 := ⟨by decide +kernel, rfl⟩
theorem dd_Md_begins_59 : pj_d cX11_begins 59 (.iconst 2) 1 60 := ⟨by decide +kernel, rfl⟩
theorem dd_Md_begins_60 : pj_d cX11_begins 60 (.iconst 1) 1 61 := ⟨by decide +kernel, rfl⟩
theorem dd_Md_begins_61 : pj_d cX11_begins 61 (.iastore) 1 62 := ⟨by decide +kernel, rfl⟩
theorem dd_Md_begins_62 : pj_d cX11_begins 62 (.iconst 0) 1 63 := ⟨by decide +kernel, rfl⟩
theorem dd_Md_begins_63 : pj_d cX11_begins 63 (.istore 4) 2 65 := ⟨by decide +kernel, rfl⟩
theorem dd_Md_begins_65 : pj_d cX11_begins 65 (.iload 4) 2 67 := ⟨by decide +kernel, rfl⟩
theorem dd_Md_begins_67 : pj_d cX11_begins 67 (.bipush 64) 2 69 := ⟨by decide +kernel, rfl⟩
theorem dd_Md_begins_69 : pj_dj cX11_begins 69 (.if_icmp .ge 33) 33 72 102 := ⟨by decide +kernel, rfl, by decide⟩
theorem dd_Md_begins_72 : pj_d cX11_begins 72 (.aload_n 0) 1 73 := ⟨by decide +kernel, rfl⟩
theorem dd_Md_begins_73 : pj_d cX11_begins 73 (.getfield 7) 3 76 := ⟨by decide +kernel, rfl⟩
theorem dd_Md_begins_76 : pj_d cX11_begins 76 (.bipush 74) 2 78 := ⟨by decide +kernel, rfl⟩
theorem dd_Md_begins_78 : pj_d cX11_begins 78 (.iload 4) 2 80 := ⟨by decide +kernel, rfl⟩
theorem dd_Md_begins_80 : pj_d cX11_begins 80 (.iadd) 1 81 := ⟨by decide +kernel, rfl⟩
theorem dd_Md_begins_81 : pj_d cX11_begins 81 (.aload_n 0) 1 82 := ⟨by decide +kernel, rfl⟩
theorem dd_Md_begins_82 : pj_d cX11_begins 82 (.iload 4) 2 84 := ⟨by decide +kernel, rfl⟩
theorem dd_Md_begins_84 : pj_d cX11_begins 84 (.invokevirtual 63) 3 87 := ⟨by decide +kernel, rfl⟩
theorem dd_Md_begins_87 : pj_dj cX11_begins 87 (.ifCond .eq 7) 7 90 94 := ⟨by decide +kernel, rfl, by decide⟩
theorem dd_Md_begins_90 : pj_d cX11_begins 90 (.iconst 1) 1 91 := ⟨by decide +kernel, rfl⟩
theorem dd_Md_begins_91 : pj_dj cX11_begins 91 (.goto 4) 4 94 95 := ⟨by decide +kernel, rfl, by decide⟩
theorem dd_Md_begins_94 : pj_d cX11_begins 94 (.iconst 0) 1 95 := ⟨by decide +kernel, rfl⟩
theorem dd_Md_begins_95 : pj_d cX11_begins 95 (.iastore) 1 96 := ⟨by decide +kernel, rfl⟩
theorem dd_Md_begins_96 : pj_d cX11_begins 96 (.iinc 4 1) 3 99 := ⟨by decide +kernel, rfl⟩
theorem dd_Md_begins_99 : pj_dj cX11_begins 99 (.goto (-34)) (-34) 102 65 := ⟨by decide +kernel, rfl, by decide⟩
theorem dd_Md_begins_102 : pj_d cX11_begins 102 (.aload_n 0) 1 103 := ⟨by decide +kernel, rfl⟩
theorem dd_Md_begins_103 : pj_d cX11_begins 103 (.iconst 0) 1 104 := ⟨by decide +kernel, rfl⟩
theorem dd_Md_begins_104 : pj_d cX11_begins 104 (.putfield 67) 3 107 := ⟨by decide +kernel, rfl⟩
theorem dd_Md_begins_107 : pj_d cX11_begins 107 (.return_) 1 108 := ⟨by decide +kernel, rfl⟩
set_option maxHeartbeats 4000000 in
set_option maxRecDepth 100000 in
theorem bt_Md_begins_102 {B : pj_B} {A : Nat → Prop} {K : pj_K} {r0 : Unit} {z0 : pj_S} (hB : B.2.2.2.1 = pj_LM) (C : pj_C B A K cX11_begins 5 RX11 3) (Q : pj_Qv B A K none r0 z0)   (z : pj_S) (H : Heap) (lo : List Loc) (ls : Array Slot) (h : Md_begins_102 z = some (r0, z0)) (P : pj_P B A K z H lo) (hl : lv_has ls 5 [(0, .ref (B.2.1 0))]) : pj_W K H lo 102 ls [] := by
  unfold Md_begins_102 at h
  refine pj_aload_n C dd_Md_begins_102 rfl hl 0 rfl ?_
  refine pj_iconst (v := (nI 0)) C dd_Md_begins_103 rfl ?_
  refine pj_putI C P 0 (LM0 hB) rfl fl_Md_67 rfl fy_11_3 h dd_Md_begins_104 (fun H lo z1 h P => ?_)
  exact pj_vret C Q P h dd_Md_begins_107
set_option maxHeartbeats 4000000 in
set_option maxRecDepth 100000 in
theorem bt_Md_begins_95 {B : pj_B} {A : Nat → Prop} {K : pj_K} {r0 : Unit} {z0 : pj_S} (hB : B.2.2.2.1 = pj_LM) (C : pj_C B A K cX11_begins 5 RX11 3) (Q : pj_Qv B A K none r0 z0) (s65 : Int32 → pj_S → Option (Unit × pj_S)) (k65 : ∀ (v4 : Int32) (z : pj_S) (H : Heap) (lo : List Loc) (ls : Array Slot), s65 v4 z = some (r0, z0) → pj_P B A K z H lo → lv_has ls 5 [(0, .ref (B.2.1 0)), (4, .int v4)] → pj_W K H lo 65 ls []) (v4 : Int32) (t0 : Int32) (t1 : Int32) (z : pj_S) (H : Heap) (lo : List Loc) (ls : Array Slot) (h : Md_begins_95 s65 v4 t0 t1 z = some (r0, z0)) (P : pj_P B A K z H lo) (hl : lv_has ls 5 [(0, .ref (B.2.1 0)), (4, .int v4)]) : pj_W K H lo 95 ls [.int t0, .int t1, .ref (B.2.1 1)] := by
  unfold Md_begins_95 at h
  refine pj_iast C P 1 (LM1 hB) h dd_Md_begins_95 (fun H lo z1 h P => ?_)
  refine pj_iinc (v := (nI 1)) [(0, .ref (B.2.1 0))] C h rfl dd_Md_begins_96 hl 1 rfl (by decide) rfl (fun x2 ls h hl => ?_)
  refine pj_goto C dd_Md_begins_99 ?_
  exact k65 _ _ _ _ _ h P (lv_sub hl [1, 0] rfl)
set_option maxHeartbeats 4000000 in
set_option maxRecDepth 100000 in
theorem bt_Md_begins_65 {B : pj_B} {A : Nat → Prop} {K : pj_K} {r0 : Unit} {z0 : pj_S} (hB : B.2.2.2.1 = pj_LM) (C : pj_C B A K cX11_begins 5 RX11 3) (Q : pj_Qv B A K none r0 z0) (s65 : Int32 → pj_S → Option (Unit × pj_S)) (k65 : ∀ (v4 : Int32) (z : pj_S) (H : Heap) (lo : List Loc) (ls : Array Slot), s65 v4 z = some (r0, z0) → pj_P B A K z H lo → lv_has ls 5 [(0, .ref (B.2.1 0)), (4, .int v4)] → pj_W K H lo 65 ls []) (v4 : Int32) (z : pj_S) (H : Heap) (lo : List Loc) (ls : Array Slot) (h : Md_begins_65 s65 v4 z = some (r0, z0)) (P : pj_P B A K z H lo) (hl : lv_has ls 5 [(0, .ref (B.2.1 0)), (4, .int v4)]) : pj_W K H lo 65 ls [] := by
  unfold Md_begins_65 at h
  refine pj_iload C dd_Md_begins_65 hl 1 rfl ?_
  refine pj_bipush (v := (nI 64)) C dd_Md_begins_67 rfl ?_
  refine pj_ic_ge C h dd_Md_begins_69 (fun h => ?_) (fun h => ?_)
  · exact bt_Md_begins_102 hB C Q _ _ _ _ h P (lv_sub hl [0] rfl)
  · refine pj_aload_n C dd_Md_begins_72 rfl hl 0 rfl ?_
    refine pj_getR C P 0 (LM0 hB) rfl fl_Md_7 dd_Md_begins_73 ?_
    refine pj_bipush (v := (nI 74)) C dd_Md_begins_76 rfl ?_
    refine pj_iload C dd_Md_begins_78 hl 1 rfl ?_
    refine pj_iadd C dd_Md_begins_80 ?_
    refine pj_aload_n C dd_Md_begins_81 rfl hl 0 rfl ?_
    refine pj_iload C dd_Md_begins_82 hl 1 rfl ?_
    obtain ⟨r3, z2, e1, h⟩ := pj_cE h
    refine pj_cVi (st := [.int ((nI 74) + v4), .ref (B.2.1 1)]) [.int v4] C P 0 (LM0 hB) rfl (ct_Md_isStitch hB e1) cl_Md_63 rfl (by decide) (by decide) hl.1 (Nat.le_of_ble_eq_true rfl) dd_Md_begins_84 (fun H lo P => ?_)
    refine pj_if_eq C h dd_Md_begins_87 (fun h => ?_) (fun h => ?_)
    · refine pj_iconst (v := (nI 0)) C dd_Md_begins_94 rfl ?_
      exact bt_Md_begins_95 hB C Q s65 k65 _ _ _ _ _ _ _ h P (lv_sub hl [0, 1] rfl)
    · refine pj_iconst (v := (nI 1)) C dd_Md_begins_90 rfl ?_
      refine pj_goto C dd_Md_begins_91 ?_
      exact bt_Md_begins_95 hB C Q s65 k65 _ _ _ _ _ _ _ h P (lv_sub hl [0, 1] rfl)
theorem lt_Md_begins_65 {B : pj_B} {A : Nat → Prop} {K : pj_K} {r0 : Unit} {z0 : pj_S} (hB : B.2.2.2.1 = pj_LM) (C : pj_C B A K cX11_begins 5 RX11 3) (Q : pj_Qv B A K none r0 z0)  : ∀ (n : Nat) (v4 : Int32) (z : pj_S) (H : Heap) (lo : List Loc) (ls : Array Slot), pj_lp1 Md_begins_65 n v4 z = some (r0, z0) → pj_P B A K z H lo → lv_has ls 5 [(0, .ref (B.2.1 0)), (4, .int v4)] → pj_W K H lo 65 ls [] := by
  intro n
  induction n with
  | zero => intro v4 z H lo ls h; rw [pj_lp1_0] at h; cases h
  | succ n ih =>
    intro v4 z H lo ls h P hl
    rw [pj_lp1_s] at h
    exact bt_Md_begins_65 hB C Q   (pj_lp1 Md_begins_65 n) ih v4 z H lo ls h P hl
set_option maxHeartbeats 4000000 in
set_option maxRecDepth 100000 in
theorem bt_Md_begins_33 {B : pj_B} {A : Nat → Prop} {K : pj_K} {r0 : Unit} {z0 : pj_S} (hB : B.2.2.2.1 = pj_LM) (C : pj_C B A K cX11_begins 5 RX11 3) (Q : pj_Qv B A K none r0 z0)  (v1 : Int32) (v2 : Int32) (v3 : Int32) (z : pj_S) (H : Heap) (lo : List Loc) (ls : Array Slot) (h : Md_begins_33 v1 v2 v3 z = some (r0, z0)) (P : pj_P B A K z H lo) (hl : lv_has ls 5 [(0, .ref (B.2.1 0)), (1, .int v1), (2, .int v2), (3, .int v3)]) : pj_W K H lo 33 ls [] := by
  unfold Md_begins_33 at h
  refine pj_aload_n C dd_Md_begins_33 rfl hl 0 rfl ?_
  refine pj_getR C P 0 (LM0 hB) rfl fl_Md_7 dd_Md_begins_34 ?_
  refine pj_bipush (v := (nI 6)) C dd_Md_begins_37 rfl ?_
  refine pj_iload_n C dd_Md_begins_39 rfl hl 3 rfl ?_
  refine pj_iast C P 1 (LM1 hB) h dd_Md_begins_40 (fun H lo z1 h P => ?_)
  refine pj_aload_n C dd_Md_begins_41 rfl hl 0 rfl ?_
  refine pj_getR C P 0 (LM0 hB) rfl fl_Md_7 dd_Md_begins_42 ?_
  refine pj_iconst (v := (nI 0)) C dd_Md_begins_45 rfl ?_
  refine pj_iload_n C dd_Md_begins_46 rfl hl 1 rfl ?_
  refine pj_iast C P 1 (LM1 hB) h dd_Md_begins_47 (fun H lo z2 h P => ?_)
  refine pj_aload_n C dd_Md_begins_48 rfl hl 0 rfl ?_
  refine pj_getR C P 0 (LM0 hB) rfl fl_Md_7 dd_Md_begins_49 ?_
  refine pj_iconst (v := (nI 1)) C dd_Md_begins_52 rfl ?_
  refine pj_iload_n C dd_Md_begins_53 rfl hl 2 rfl ?_
  refine pj_iast C P 1 (LM1 hB) h dd_Md_begins_54 (fun H lo z3 h P => ?_)
  refine pj_aload_n C dd_Md_begins_55 rfl hl 0 rfl ?_
  refine pj_getR C P 0 (LM0 hB) rfl fl_Md_7 dd_Md_begins_56 ?_
  refine pj_iconst (v := (nI 2)) C dd_Md_begins_59 rfl ?_
  refine pj_iconst (v := (nI 1)) C dd_Md_begins_60 rfl ?_
  refine pj_iast C P 1 (LM1 hB) h dd_Md_begins_61 (fun H lo z4 h P => ?_)
  refine pj_iconst (v := (nI 0)) C dd_Md_begins_62 rfl ?_
  refine pj_istore [(4, .int (nI 0)), (0, .ref (B.2.1 0)), (1, .int v1), (2, .int v2), (3, .int v3)] C dd_Md_begins_63 hl (by decide) rfl (fun ls hl => ?_)
  exact lt_Md_begins_65 hB C Q 4000 _ _ _ _ _ h P (lv_sub hl [1, 0] rfl)
set_option maxHeartbeats 4000000 in
set_option maxRecDepth 100000 in
theorem bt_Md_begins_11 {B : pj_B} {A : Nat → Prop} {K : pj_K} {r0 : Unit} {z0 : pj_S} (hB : B.2.2.2.1 = pj_LM) (C : pj_C B A K cX11_begins 5 RX11 3) (Q : pj_Qv B A K none r0 z0) (s11 : Int32 → Int32 → Int32 → Int32 → pj_S → Option (Unit × pj_S)) (k11 : ∀ (v1 : Int32) (v2 : Int32) (v3 : Int32) (v4 : Int32) (z : pj_S) (H : Heap) (lo : List Loc) (ls : Array Slot), s11 v1 v2 v3 v4 z = some (r0, z0) → pj_P B A K z H lo → lv_has ls 5 [(0, .ref (B.2.1 0)), (1, .int v1), (2, .int v2), (3, .int v3), (4, .int v4)] → pj_W K H lo 11 ls []) (v1 : Int32) (v2 : Int32) (v3 : Int32) (v4 : Int32) (z : pj_S) (H : Heap) (lo : List Loc) (ls : Array Slot) (h : Md_begins_11 s11 v1 v2 v3 v4 z = some (r0, z0)) (P : pj_P B A K z H lo) (hl : lv_has ls 5 [(0, .ref (B.2.1 0)), (1, .int v1), (2, .int v2), (3, .int v3), (4, .int v4)]) : pj_W K H lo 11 ls [] := by
  unfold Md_begins_11 at h
  refine pj_iload C dd_Md_begins_11 hl 4 rfl ?_
  refine pj_sipush (v := (nI 1554)) C dd_Md_begins_13 rfl ?_
  refine pj_ic_ge C h dd_Md_begins_16 (fun h => ?_) (fun h => ?_)
  · exact bt_Md_begins_33 hB C Q _ _ _ _ _ _ _ h P (lv_sub hl [0, 1, 2, 3] rfl)
  · refine pj_aload_n C dd_Md_begins_19 rfl hl 0 rfl ?_
    refine pj_getR C P 0 (LM0 hB) rfl fl_Md_7 dd_Md_begins_20 ?_
    refine pj_iload C dd_Md_begins_23 hl 4 rfl ?_
    refine pj_iconst (v := (nI 0)) C dd_Md_begins_25 rfl ?_
    refine pj_iast C P 1 (LM1 hB) h dd_Md_begins_26 (fun H lo z1 h P => ?_)
    refine pj_iinc (v := (nI 1)) [(0, .ref (B.2.1 0)), (1, .int v1), (2, .int v2), (3, .int v3)] C h rfl dd_Md_begins_27 hl 4 rfl (by decide) rfl (fun x2 ls h hl => ?_)
    refine pj_goto C dd_Md_begins_30 ?_
    exact k11 _ _ _ _ _ _ _ _ h P (lv_sub hl [1, 2, 3, 4, 0] rfl)
theorem lt_Md_begins_11 {B : pj_B} {A : Nat → Prop} {K : pj_K} {r0 : Unit} {z0 : pj_S} (hB : B.2.2.2.1 = pj_LM) (C : pj_C B A K cX11_begins 5 RX11 3) (Q : pj_Qv B A K none r0 z0)  : ∀ (n : Nat) (v1 : Int32) (v2 : Int32) (v3 : Int32) (v4 : Int32) (z : pj_S) (H : Heap) (lo : List Loc) (ls : Array Slot), pj_lp4 Md_begins_11 n v1 v2 v3 v4 z = some (r0, z0) → pj_P B A K z H lo → lv_has ls 5 [(0, .ref (B.2.1 0)), (1, .int v1), (2, .int v2), (3, .int v3), (4, .int v4)] → pj_W K H lo 11 ls [] := by
  intro n
  induction n with
  | zero => intro v1 v2 v3 v4 z H lo ls h; rw [pj_lp4_0] at h; cases h
  | succ n ih =>
    intro v1 v2 v3 v4 z H lo ls h P hl
    rw [pj_lp4_s] at h
    exact bt_Md_begins_11 hB C Q   (pj_lp4 Md_begins_11 n) ih v1 v2 v3 v4 z H lo ls h P hl
set_option maxHeartbeats 4000000 in
set_option maxRecDepth 100000 in
theorem ct_Md_begins {l : Launch} {B : pj_B} (hB : B.2.2.2.1 = pj_LM) {v1 : Int32} {v2 : Int32} {z : pj_S} {r0 : Unit} {z0 : pj_S} (h : Md_begins v1 v2 z = some (r0, z0)) : pj_Mv l yX11_begins cX11_begins 5 none 3 [.ref (B.2.1 0), .int v1, .int v2] B z r0 z0 := by
  refine pj_metv (own := RX11) (by decide +kernel) rfl (Nat.le_of_ble_eq_true rfl) ?_
  intro A K hK C Q H lo ls P hl
  have hl : lv_has ls 5 [(0, .ref (B.2.1 0)), (1, .int v1), (2, .int v2)] := hl
  unfold Md_begins at h
  refine pj_aload_n C dd_Md_begins_0 rfl hl 0 rfl ?_
  refine pj_getR C P 0 (LM0 hB) rfl fl_Md_7 dd_Md_begins_1 ?_
  refine pj_bipush (v := (nI 6)) C dd_Md_begins_4 rfl ?_
  refine pj_iald C P 1 (LM1 hB) h dd_Md_begins_6 (fun h => ?_)
  refine pj_istb_n [(0, .ref (B.2.1 0)), (1, .int v1), (2, .int v2)] C h dd_Md_begins_7 rfl hl (by decide) rfl (fun x1 ls h hl => ?_)
  refine pj_iconst (v := (nI 0)) C dd_Md_begins_8 rfl ?_
  refine pj_istore [(4, .int (nI 0)), (3, .int x1), (0, .ref (B.2.1 0)), (1, .int v1), (2, .int v2)] C dd_Md_begins_9 hl (by decide) rfl (fun ls hl => ?_)
  exact lt_Md_begins_11 hB C Q 4000 _ _ _ _ _ _ _ _ h P (lv_sub hl [2, 3, 4, 1, 0] rfl)
theorem dd_Md_cloth_0 : pj_d cX11_cloth 0 (.iload_n 1) 1 1 := ⟨by decide +kernel, rfl⟩
theorem dd_Md_cloth_1 : pj_d cX11_cloth 1 (.iconst 2) 1 2 := ⟨by decide +kernel, rfl⟩
theorem dd_Md_cloth_2 : pj_d cX11_cloth 2 (.bipush 6) 2 4 := ⟨by decide +kernel, rfl⟩
theorem dd_Md_cloth_4 : pj_d cX11_cloth 4 (.invokestatic 70) 3 7 := ⟨by decide +kernel, rfl⟩
theorem dd_Md_cloth_7 : pj_dj cX11_cloth 7 (.ifCond .eq 13) 13 10 20 := ⟨by decide +kernel, rfl, by decide⟩
theorem dd_Md_cloth_10 : pj_d cX11_cloth 10 (.iload_n 2) 1 11 := ⟨by decide +kernel, rfl⟩
theorem dd_Md_cloth_11 : pj_d cX11_cloth 11 (.iconst 2) 1 12 := ⟨by decide +kernel, rfl⟩
theorem dd_Md_cloth_12 : pj_d cX11_cloth 12 (.bipush 6) 2 14 := ⟨by decide +kernel, rfl⟩
theorem dd_Md_cloth_14 : pj_d cX11_cloth 14 (.invokestatic 70) 3 17 := ⟨by decide +kernel, rfl⟩
theorem dd_Md_cloth_17 : pj_dj cX11_cloth 17 (.ifCond .ne 5) 5 20 22 := ⟨by decide +kernel, rfl, by decide⟩
theorem dd_Md_cloth_20 : pj_d cX11_cloth 20 (.iconst 0) 1 21 := ⟨by decide +kernel, rfl⟩
theorem dd_Md_cloth_21 : pj_d cX11_cloth 21 (.ireturn) 1 22 := ⟨by decide +kernel, rfl⟩
theorem dd_Md_cloth_22 : pj_d cX11_cloth 22 (.aload_n 0) 1 23 := ⟨by decide +kernel, rfl⟩
theorem dd_Md_cloth_23 : pj_d cX11_cloth 23 (.iload_n 1) 1 24 := ⟨by decide +kernel, rfl⟩
theorem dd_Md_cloth_24 : pj_d cX11_cloth 24 (.iload_n 2) 1 25 := ⟨by decide +kernel, rfl⟩
theorem dd_Md_cloth_25 : pj_d cX11_cloth 25 (.invokevirtual 59) 3 28 := ⟨by decide +kernel, rfl⟩
theorem dd_Md_cloth_28 : pj_d cX11_cloth 28 (.iconst 1) 1 29 := ⟨by decide +kernel, rfl⟩
theorem dd_Md_cloth_29 : pj_d cX11_cloth 29 (.ireturn) 1 30 := ⟨by decide +kernel, rfl⟩
set_option maxHeartbeats 4000000 in
set_option maxRecDepth 100000 in
theorem ct_Md_cloth {l : Launch} {B : pj_B} (hB : B.2.2.2.1 = pj_LM) {v1 : Int32} {v2 : Int32} {z : pj_S} {r0 : Int32} {z0 : pj_S} (h : Md_cloth v1 v2 z = some (r0, z0)) : pj_Mi l yX11_cloth cX11_cloth 3 (some .boolean) 4 [.ref (B.2.1 0), .int v1, .int v2] B z r0 z0 := by
  refine pj_meti (own := RX11) (by decide +kernel) rfl (Nat.le_of_ble_eq_true rfl) ?_
  intro A K hK C Q H lo ls P hl
  have hl : lv_has ls 3 [(0, .ref (B.2.1 0)), (1, .int v1), (2, .int v2)] := hl
  unfold Md_cloth at h
  refine pj_iload_n C dd_Md_cloth_0 rfl hl 1 rfl ?_
  refine pj_iconst (v := (nI 2)) C dd_Md_cloth_1 rfl ?_
  refine pj_bipush (v := (nI 6)) C dd_Md_cloth_2 rfl ?_
  obtain ⟨r3, z2, e1, h⟩ := pj_cE h
  refine pj_cSi (st := []) [.int v1, .int (nI 2), .int (nI 6)] C P (ct_Md_isInM hB e1) cl_Md_70 rfl (by decide) (by decide) hl.1 (Nat.le_of_ble_eq_true rfl) dd_Md_cloth_4 (fun H lo P => ?_)
  refine pj_if_eq C h dd_Md_cloth_7 (fun h => ?_) (fun h => ?_)
  · refine pj_iconst (v := (nI 0)) C dd_Md_cloth_20 rfl ?_
    exact pj_zret C Q P h dd_Md_cloth_21
  · refine pj_iload_n C dd_Md_cloth_10 rfl hl 2 rfl ?_
    refine pj_iconst (v := (nI 2)) C dd_Md_cloth_11 rfl ?_
    refine pj_bipush (v := (nI 6)) C dd_Md_cloth_12 rfl ?_
    obtain ⟨r6, z5, e4, h⟩ := pj_cE h
    refine pj_cSi (st := []) [.int v2, .int (nI 2), .int (nI 6)] C P (ct_Md_isInM hB e4) cl_Md_70 rfl (by decide) (by decide) hl.1 (Nat.le_of_ble_eq_true rfl) dd_Md_cloth_14 (fun H lo P => ?_)
    refine pj_if_ne C h dd_Md_cloth_17 (fun h => ?_) (fun h => ?_)
    · refine pj_aload_n C dd_Md_cloth_22 rfl hl 0 rfl ?_
      refine pj_iload_n C dd_Md_cloth_23 rfl hl 1 rfl ?_
      refine pj_iload_n C dd_Md_cloth_24 rfl hl 2 rfl ?_
      obtain ⟨r9, z8, e7, h⟩ := pj_cE h
      refine pj_cVv (st := []) [.int v1, .int v2] C P 0 (LM0 hB) rfl (ct_Md_begins hB e7) cl_Md_59 rfl (by decide) (by decide) hl.1 (Nat.le_of_ble_eq_true rfl) dd_Md_cloth_25 (fun H lo P => ?_)
      refine pj_iconst (v := (nI 1)) C dd_Md_cloth_28 rfl ?_
      exact pj_zret C Q P h dd_Md_cloth_29
    · refine pj_iconst (v := (nI 0)) C dd_Md_cloth_20 rfl ?_
      exact pj_zret C Q P h dd_Md_cloth_21
theorem dd_Md_comesBack_0 : pj_d cX11_comesBack 0 (.aload_n 0) 1 1 := ⟨by decide +kernel, rfl⟩
theorem dd_Md_comesBack_1 : pj_d cX11_comesBack 1 (.getfield 7) 3 4 := ⟨by decide +kernel, rfl⟩
theorem dd_Md_comesBack_4 : pj_d cX11_comesBack 4 (.bipush 74) 2 6 := ⟨by decide +kernel, rfl⟩
theorem dd_Md_comesBack_6 : pj_d cX11_comesBack 6 (.iload_n 1) 1 7 := ⟨by decide +kernel, rfl⟩
theorem dd_Md_comesBack_7 : pj_d cX11_comesBack 7 (.iadd) 1 8 := ⟨by decide +kernel, rfl⟩
theorem dd_Md_comesBack_8 : pj_d cX11_comesBack 8 (.iconst 1) 1 9 := ⟨by decide +kernel, rfl⟩
theorem dd_Md_comesBack_9 : pj_d cX11_comesBack 9 (.iastore) 1 10 := ⟨by decide +kernel, rfl⟩
theorem dd_Md_comesBack_10 : pj_d cX11_comesBack 10 (.aload_n 0) 1 11 := ⟨by decide +kernel, rfl⟩
theorem dd_Md_comesBack_11 : pj_d cX11_comesBack 11 (.getfield 7) 3 14 := ⟨by decide +kernel, rfl⟩
theorem dd_Md_comesBack_14 : pj_d cX11_comesBack 14 (.sipush 1490) 3 17 := ⟨by decide +kernel, rfl⟩
theorem dd_Md_comesBack_17 : pj_d cX11_comesBack 17 (.iload_n 1) 1 18 := ⟨by decide +kernel, rfl⟩
theorem dd_Md_comesBack_18 : pj_d cX11_comesBack 18 (.iadd) 1 19 := ⟨by decide +kernel, rfl⟩
theorem dd_Md_comesBack_19 : pj_d cX11_comesBack 19 (.iconst 0) 1 20 := ⟨by decide +kernel, rfl⟩
theorem dd_Md_comesBack_20 : pj_d cX11_comesBack 20 (.iastore) 1 21 := ⟨by decide +kernel, rfl⟩
theorem dd_Md_comesBack_21 : pj_d cX11_comesBack 21 (.return_) 1 22 := ⟨by decide +kernel, rfl⟩
set_option maxHeartbeats 4000000 in
set_option maxRecDepth 100000 in
theorem ct_Md_comesBack {l : Launch} {B : pj_B} (hB : B.2.2.2.1 = pj_LM) {v1 : Int32} {z : pj_S} {r0 : Unit} {z0 : pj_S} (h : Md_comesBack v1 z = some (r0, z0)) : pj_Mv l yX11_comesBack cX11_comesBack 2 none 1 [.ref (B.2.1 0), .int v1] B z r0 z0 := by
  refine pj_metv (own := RX11) (by decide +kernel) rfl (Nat.le_of_ble_eq_true rfl) ?_
  intro A K hK C Q H lo ls P hl
  have hl : lv_has ls 2 [(0, .ref (B.2.1 0)), (1, .int v1)] := hl
  unfold Md_comesBack at h
  refine pj_aload_n C dd_Md_comesBack_0 rfl hl 0 rfl ?_
  refine pj_getR C P 0 (LM0 hB) rfl fl_Md_7 dd_Md_comesBack_1 ?_
  refine pj_bipush (v := (nI 74)) C dd_Md_comesBack_4 rfl ?_
  refine pj_iload_n C dd_Md_comesBack_6 rfl hl 1 rfl ?_
  refine pj_iadd C dd_Md_comesBack_7 ?_
  refine pj_iconst (v := (nI 1)) C dd_Md_comesBack_8 rfl ?_
  refine pj_iast C P 1 (LM1 hB) h dd_Md_comesBack_9 (fun H lo z1 h P => ?_)
  refine pj_aload_n C dd_Md_comesBack_10 rfl hl 0 rfl ?_
  refine pj_getR C P 0 (LM0 hB) rfl fl_Md_7 dd_Md_comesBack_11 ?_
  refine pj_sipush (v := (nI 1490)) C dd_Md_comesBack_14 rfl ?_
  refine pj_iload_n C dd_Md_comesBack_17 rfl hl 1 rfl ?_
  refine pj_iadd C dd_Md_comesBack_18 ?_
  refine pj_iconst (v := (nI 0)) C dd_Md_comesBack_19 rfl ?_
  refine pj_iast C P 1 (LM1 hB) h dd_Md_comesBack_20 (fun H lo z2 h P => ?_)
  exact pj_vret C Q P h dd_Md_comesBack_21
theorem dd_Md_set_0 : pj_d cX11_set 0 (.iload_n 1) 1 1 := ⟨by decide +kernel, rfl⟩
theorem dd_Md_set_1 : pj_dj cX11_set 1 (.ifCond .ne 33) 33 4 34 := ⟨by decide +kernel, rfl, by decide⟩
theorem dd_Md_set_4 : pj_d cX11_set 4 (.aload_n 0) 1 5 := ⟨by decide +kernel, rfl⟩
theorem dd_Md_set_5 : pj_d cX11_set 5 (.iload_n 2) 1 6 := ⟨by decide +kernel, rfl⟩
theorem dd_Md_set_6 : pj_d cX11_set 6 (.invokevirtual 63) 3 9 := ⟨by decide +kernel, rfl⟩
theorem dd_Md_set_9 : pj_dj cX11_set 9 (.ifCond .eq 25) 25 12 34 := ⟨by decide +kernel, rfl, by decide⟩
theorem dd_Md_set_12 : pj_d cX11_set 12 (.iload_n 3) 1 13 := ⟨by decide +kernel, rfl⟩
theorem dd_Md_set_13 : pj_d cX11_set 13 (.iconst 0) 1 14 := ⟨by decide +kernel, rfl⟩
theorem dd_Md_set_14 : pj_d cX11_set 14 (.iconst 3) 1 15 := ⟨by decide +kernel, rfl⟩
theorem dd_Md_set_15 : pj_d cX11_set 15 (.invokestatic 70) 3 18 := ⟨by decide +kernel, rfl⟩
theorem dd_Md_set_18 : pj_dj cX11_set 18 (.ifCond .eq 16) 16 21 34 := ⟨by decide +kernel, rfl, by decide⟩
theorem dd_Md_set_21 : pj_d cX11_set 21 (.aload_n 0) 1 22 := ⟨by decide +kernel, rfl⟩
theorem dd_Md_set_22 : pj_d cX11_set 22 (.getfield 7) 3 25 := ⟨by decide +kernel, rfl⟩
theorem dd_Md_set_25 : pj_d cX11_set 25 (.bipush 10) 2 27 := ⟨by decide +kernel, rfl⟩
theorem dd_Md_set_27 : pj_d cX11_set 27 (.iload_n 2) 1 28 := ⟨by decide +kernel, rfl⟩
theorem dd_Md_set_28 : pj_d cX11_set 28 (.iadd) 1 29 := ⟨by decide +kernel, rfl⟩
theorem dd_Md_set_29 : pj_d cX11_set 29 (.iload_n 3) 1 30 := ⟨by decide +kernel, rfl⟩
theorem dd_Md_set_30 : pj_d cX11_set 30 (.iastore) 1 31 := ⟨by decide +kernel, rfl⟩
theorem dd_Md_set_31 : pj_dj cX11_set 31 (.goto 86) 86 34 117 := ⟨by decide +kernel, rfl, by decide⟩
theorem dd_Md_set_34 : pj_d cX11_set 34 (.iload_n 1) 1 35 := ⟨by decide +kernel, rfl⟩
theorem dd_Md_set_35 : pj_d cX11_set 35 (.iconst 1) 1 36 := ⟨by decide +kernel, rfl⟩
theorem dd_Md_set_36 : pj_dj cX11_set 36 (.if_icmp .ne 34) 34 39 70 := ⟨by decide +kernel, rfl, by decide⟩
theorem dd_Md_set_39 : pj_d cX11_set 39 (.aload_n 0) 1 40 := ⟨by decide +kernel, rfl⟩
theorem dd_Md_set_40 : pj_d cX11_set 40 (.iload_n 2) 1 41 := ⟨by decide +kernel, rfl⟩
theorem dd_Md_set_41 : pj_d cX11_set 41 (.invokevirtual 63) 3 44 := ⟨by decide +kernel, rfl⟩
theorem dd_Md_set_44 : pj_dj cX11_set 44 (.ifCond .eq 26) 26 47 70 := ⟨by decide +kernel, rfl, by decide⟩
theorem dd_Md_set_47 : pj_d cX11_set 47 (.iload_n 3) 1 48 := ⟨by decide +kernel, rfl⟩
theorem dd_Md_set_48 : pj_d cX11_set 48 (.iconst 0) 1 49 := ⟨by decide +kernel, rfl⟩
theorem dd_Md_set_49 : pj_d cX11_set 49 (.iconst 1) 1 50 := ⟨by decide +kernel, rfl⟩
theorem dd_Md_set_50 : pj_d cX11_set 50 (.invokestatic 70) 3 53 := ⟨by decide +kernel, rfl⟩
theorem dd_Md_set_53 : pj_dj cX11_set 53 (.ifCond .eq 17) 17 56 70 := ⟨by decide +kernel, rfl, by decide⟩
theorem dd_Md_set_56 : pj_d cX11_set 56 (.aload_n 0) 1 57 := ⟨by decide +kernel, rfl⟩
theorem dd_Md_set_57 : pj_d cX11_set 57 (.getfield 7) 3 60 := ⟨by decide +kernel, rfl⟩
theorem dd_Md_set_60 : pj_d cX11_set 60 (.sipush 138) 3 63 := ⟨by decide +kernel, rfl⟩
theorem dd_Md_set_63 : pj_d cX11_set 63 (.iload_n 2) 1 64 := ⟨by decide +kernel, rfl⟩
theorem dd_Md_set_64 : pj_d cX11_set 64 (.iadd) 1 65 := ⟨by decide +kernel, rfl⟩
theorem dd_Md_set_65 : pj_d cX11_set 65 (.iload_n 3) 1 66 := ⟨by decide +kernel, rfl⟩
theorem dd_Md_set_66 : pj_d cX11_set 66 (.iastore) 1 67 := ⟨by decide +kernel, rfl⟩
theorem dd_Md_set_67 : pj_dj cX11_set 67 (.goto 50) 50 70 117 := ⟨by decide +kernel, rfl, by decide⟩
theorem dd_Md_set_70 : pj_d cX11_set 70 (.iload_n 1) 1 71 := ⟨by decide +kernel, rfl⟩
theorem dd_Md_set_71 : pj_d cX11_set 71 (.iconst 2) 1 72 := ⟨by decide +kernel, rfl⟩
theorem dd_Md_set_72 : pj_dj cX11_set 72 (.if_icmp .ne 22) 22 75 94 := ⟨by decide +kernel, rfl, by decide⟩
theorem dd_Md_set_75 : pj_d cX11_set 75 (.iload_n 3) 1 76 := ⟨by decide +kernel, rfl⟩
theorem dd_Md_set_76 : pj_d cX11_set 76 (.iconst 0) 1 77 := ⟨by decide +kernel, rfl⟩
theorem dd_Md_set_77 : pj_d cX11_set 77 (.iconst 1) 1 78 := ⟨by decide +kernel, rfl⟩
theorem dd_Md_set_78 : pj_d cX11_set 78 (.invokestatic 70) 3 81 := ⟨by decide +kernel, rfl⟩
theorem dd_Md_set_81 : pj_dj cX11_set 81 (.ifCond .eq 13) 13 84 94 := ⟨by decide +kernel, rfl, by decide⟩
theorem dd_Md_set_84 : pj_d cX11_set 84 (.aload_n 0) 1 85 := ⟨by decide +kernel, rfl⟩
theorem dd_Md_set_85 : pj_d cX11_set 85 (.getfield 7) 3 88 := ⟨by decide +kernel, rfl⟩
theorem dd_Md_set_88 : pj_d cX11_set 88 (.iconst 2) 1 89 := ⟨by decide +kernel, rfl⟩
theorem dd_Md_set_89 : pj_d cX11_set 89 (.iload_n 3) 1 90 := ⟨by decide +kernel, rfl⟩
theorem dd_Md_set_90 : pj_d cX11_set 90 (.iastore) 1 91 := ⟨by decide +kernel, rfl⟩
theorem dd_Md_set_91 : pj_dj cX11_set 91 (.goto 26) 26 94 117 := ⟨by decide +kernel, rfl, by decide⟩
theorem dd_Md_set_94 : pj_d cX11_set 94 (.iload_n 1) 1 95 := ⟨by decide +kernel, rfl⟩
theorem dd_Md_set_95 : pj_d cX11_set 95 (.iconst 3) 1 96 := ⟨by decide +kernel, rfl⟩
theorem dd_Md_set_96 : pj_dj cX11_set 96 (.if_icmp .ne 19) 19 99 115 := ⟨by decide +kernel, rfl, by decide⟩
theorem dd_Md_set_99 : pj_d cX11_set 99 (.aload_n 0) 1 100 := ⟨by decide +kernel, rfl⟩
theorem dd_Md_set_100 : pj_d cX11_set 100 (.iload_n 2) 1 101 := ⟨by decide +kernel, rfl⟩
theorem dd_Md_set_101 : pj_d cX11_set 101 (.invokevirtual 63) 3 104 := ⟨by decide +kernel, rfl⟩
theorem dd_Md_set_104 : pj_dj cX11_set 104 (.ifCond .eq 11) 11 107 115 := ⟨by decide +kernel, rfl, by decide⟩
theorem dd_Md_set_107 : pj_d cX11_set 107 (.aload_n 0) 1 108 := ⟨by decide +kernel, rfl⟩
theorem dd_Md_set_108 : pj_d cX11_set 108 (.iload_n 2) 1 109 := ⟨by decide +kernel, rfl⟩
theorem dd_Md_set_109 : pj_d cX11_set 109 (.invokevirtual 76) 3 112 := ⟨by decide +kernel, rfl⟩
theorem dd_Md_set_112 : pj_dj cX11_set 112 (.goto 5) 5 115 117 := ⟨by decide +kernel, rfl, by decide⟩
theorem dd_Md_set_115 : pj_d cX11_set 115 (.iconst 0) 1 116 := ⟨by decide +kernel, rfl⟩
theorem dd_Md_set_116 : pj_d cX11_set 116 (.ireturn) 1 117 := ⟨by decide +kernel, rfl⟩
theorem dd_Md_set_117 : pj_d cX11_set 117 (.aload_n 0) 1 118 := ⟨by decide +kernel, rfl⟩
theorem dd_Md_set_118 : pj_d cX11_set 118 (.iconst 0) 1 119 := ⟨by decide +kernel, rfl⟩
theorem dd_Md_set_119 : pj_d cX11_set 119 (.putfield 67) 3 122 := ⟨by decide +kernel, rfl⟩
theorem dd_Md_set_122 : pj_d cX11_set 122 (.iconst 1) 1 123 := ⟨by decide +kernel, rfl⟩
theorem dd_Md_set_123 : pj_d cX11_set 123 (.ireturn) 1 124 := ⟨by decide +kernel, rfl⟩
set_option maxHeartbeats 4000000 in
set_option maxRecDepth 100000 in
theorem bt_Md_set_117 {B : pj_B} {A : Nat → Prop} {K : pj_K} {r0 : Int32} {z0 : pj_S} (hB : B.2.2.2.1 = pj_LM) (C : pj_C B A K cX11_set 4 RX11 3) (Q : pj_Qi B A K (some .boolean) r0 z0)   (z : pj_S) (H : Heap) (lo : List Loc) (ls : Array Slot) (h : Md_set_117 z = some (r0, z0)) (P : pj_P B A K z H lo) (hl : lv_has ls 4 [(0, .ref (B.2.1 0))]) : pj_W K H lo 117 ls [] := by
  unfold Md_set_117 at h
  refine pj_aload_n C dd_Md_set_117 rfl hl 0 rfl ?_
  refine pj_iconst (v := (nI 0)) C dd_Md_set_118 rfl ?_
  refine pj_putI C P 0 (LM0 hB) rfl fl_Md_67 rfl fy_11_3 h dd_Md_set_119 (fun H lo z1 h P => ?_)
  refine pj_iconst (v := (nI 1)) C dd_Md_set_122 rfl ?_
  exact pj_zret C Q P h dd_Md_set_123
set_option maxHeartbeats 4000000 in
set_option maxRecDepth 100000 in
theorem bt_Md_set_94 {B : pj_B} {A : Nat → Prop} {K : pj_K} {r0 : Int32} {z0 : pj_S} (hB : B.2.2.2.1 = pj_LM) (C : pj_C B A K cX11_set 4 RX11 3) (Q : pj_Qi B A K (some .boolean) r0 z0)  (v1 : Int32) (v2 : Int32) (z : pj_S) (H : Heap) (lo : List Loc) (ls : Array Slot) (h : Md_set_94 v1 v2 z = some (r0, z0)) (P : pj_P B A K z H lo) (hl : lv_has ls 4 [(0, .ref (B.2.1 0)), (1, .int v1), (2, .int v2)]) : pj_W K H lo 94 ls [] := by
  unfold Md_set_94 at h
  refine pj_iload_n C dd_Md_set_94 rfl hl 1 rfl ?_
  refine pj_iconst (v := (nI 3)) C dd_Md_set_95 rfl ?_
  refine pj_ic_ne C h dd_Md_set_96 (fun h => ?_) (fun h => ?_)
  · refine pj_iconst (v := (nI 0)) C dd_Md_set_115 rfl ?_
    exact pj_zret C Q P h dd_Md_set_116
  · refine pj_aload_n C dd_Md_set_99 rfl hl 0 rfl ?_
    refine pj_iload_n C dd_Md_set_100 rfl hl 2 rfl ?_
    obtain ⟨r3, z2, e1, h⟩ := pj_cE h
    refine pj_cVi (st := []) [.int v2] C P 0 (LM0 hB) rfl (ct_Md_isStitch hB e1) cl_Md_63 rfl (by decide) (by decide) hl.1 (Nat.le_of_ble_eq_true rfl) dd_Md_set_101 (fun H lo P => ?_)
    refine pj_if_eq C h dd_Md_set_104 (fun h => ?_) (fun h => ?_)
    · refine pj_iconst (v := (nI 0)) C dd_Md_set_115 rfl ?_
      exact pj_zret C Q P h dd_Md_set_116
    · refine pj_aload_n C dd_Md_set_107 rfl hl 0 rfl ?_
      refine pj_iload_n C dd_Md_set_108 rfl hl 2 rfl ?_
      obtain ⟨r6, z5, e4, h⟩ := pj_cE h
      refine pj_cVv (st := []) [.int v2] C P 0 (LM0 hB) rfl (ct_Md_comesBack hB e4) cl_Md_76 rfl (by decide) (by decide) hl.1 (Nat.le_of_ble_eq_true rfl) dd_Md_set_109 (fun H lo P => ?_)
      refine pj_goto C dd_Md_set_112 ?_
      exact bt_Md_set_117 hB C Q _ _ _ _ h P (lv_sub hl [0] rfl)
set_option maxHeartbeats 4000000 in
set_option maxRecDepth 100000 in
theorem bt_Md_set_70 {B : pj_B} {A : Nat → Prop} {K : pj_K} {r0 : Int32} {z0 : pj_S} (hB : B.2.2.2.1 = pj_LM) (C : pj_C B A K cX11_set 4 RX11 3) (Q : pj_Qi B A K (some .boolean) r0 z0)  (v1 : Int32) (v2 : Int32) (v3 : Int32) (z : pj_S) (H : Heap) (lo : List Loc) (ls : Array Slot) (h : Md_set_70 v1 v2 v3 z = some (r0, z0)) (P : pj_P B A K z H lo) (hl : lv_has ls 4 [(0, .ref (B.2.1 0)), (1, .int v1), (2, .int v2), (3, .int v3)]) : pj_W K H lo 70 ls [] := by
  unfold Md_set_70 at h
  refine pj_iload_n C dd_Md_set_70 rfl hl 1 rfl ?_
  refine pj_iconst (v := (nI 2)) C dd_Md_set_71 rfl ?_
  refine pj_ic_ne C h dd_Md_set_72 (fun h => ?_) (fun h => ?_)
  · exact bt_Md_set_94 hB C Q _ _ _ _ _ _ h P (lv_sub hl [0, 1, 2] rfl)
  · refine pj_iload_n C dd_Md_set_75 rfl hl 3 rfl ?_
    refine pj_iconst (v := (nI 0)) C dd_Md_set_76 rfl ?_
    refine pj_iconst (v := (nI 1)) C dd_Md_set_77 rfl ?_
    obtain ⟨r3, z2, e1, h⟩ := pj_cE h
    refine pj_cSi (st := []) [.int v3, .int (nI 0), .int (nI 1)] C P (ct_Md_isInM hB e1) cl_Md_70 rfl (by decide) (by decide) hl.1 (Nat.le_of_ble_eq_true rfl) dd_Md_set_78 (fun H lo P => ?_)
    refine pj_if_eq C h dd_Md_set_81 (fun h => ?_) (fun h => ?_)
    · exact bt_Md_set_94 hB C Q _ _ _ _ _ _ h P (lv_sub hl [0, 1, 2] rfl)
    · refine pj_aload_n C dd_Md_set_84 rfl hl 0 rfl ?_
      refine pj_getR C P 0 (LM0 hB) rfl fl_Md_7 dd_Md_set_85 ?_
      refine pj_iconst (v := (nI 2)) C dd_Md_set_88 rfl ?_
      refine pj_iload_n C dd_Md_set_89 rfl hl 3 rfl ?_
      refine pj_iast C P 1 (LM1 hB) h dd_Md_set_90 (fun H lo z4 h P => ?_)
      refine pj_goto C dd_Md_set_91 ?_
      exact bt_Md_set_117 hB C Q _ _ _ _ h P (lv_sub hl [0] rfl)
set_option maxHeartbeats 4000000 in
set_option maxRecDepth 100000 in
theorem bt_Md_set_34 {B : pj_B} {A : Nat → Prop} {K : pj_K} {r0 : Int32} {z0 : pj_S} (hB : B.2.2.2.1 = pj_LM) (C : pj_C B A K cX11_set 4 RX11 3) (Q : pj_Qi B A K (some .boolean) r0 z0)  (v1 : Int32) (v2 : Int32) (v3 : Int32) (z : pj_S) (H : Heap) (lo : List Loc) (ls : Array Slot) (h : Md_set_34 v1 v2 v3 z = some (r0, z0)) (P : pj_P B A K z H lo) (hl : lv_has ls 4 [(0, .ref (B.2.1 0)), (1, .int v1), (2, .int v2), (3, .int v3)]) : pj_W K H lo 34 ls [] := by
  unfold Md_set_34 at h
  refine pj_iload_n C dd_Md_set_34 rfl hl 1 rfl ?_
  refine pj_iconst (v := (nI 1)) C dd_Md_set_35 rfl ?_
  refine pj_ic_ne C h dd_Md_set_36 (fun h => ?_) (fun h => ?_)
  · exact bt_Md_set_70 hB C Q _ _ _ _ _ _ _ h P (lv_sub hl [0, 1, 2, 3] rfl)
  · refine pj_aload_n C dd_Md_set_39 rfl hl 0 rfl ?_
    refine pj_iload_n C dd_Md_set_40 rfl hl 2 rfl ?_
    obtain ⟨r3, z2, e1, h⟩ := pj_cE h
    refine pj_cVi (st := []) [.int v2] C P 0 (LM0 hB) rfl (ct_Md_isStitch hB e1) cl_Md_63 rfl (by decide) (by decide) hl.1 (Nat.le_of_ble_eq_true rfl) dd_Md_set_41 (fun H lo P => ?_)
    refine pj_if_eq C h dd_Md_set_44 (fun h => ?_) (fun h => ?_)
    · exact bt_Md_set_70 hB C Q _ _ _ _ _ _ _ h P (lv_sub hl [0, 1, 2, 3] rfl)
    · refine pj_iload_n C dd_Md_set_47 rfl hl 3 rfl ?_
      refine pj_iconst (v := (nI 0)) C dd_Md_set_48 rfl ?_
      refine pj_iconst (v := (nI 1)) C dd_Md_set_49 rfl ?_
      obtain ⟨r6, z5, e4, h⟩ := pj_cE h
      refine pj_cSi (st := []) [.int v3, .int (nI 0), .int (nI 1)] C P (ct_Md_isInM hB e4) cl_Md_70 rfl (by decide) (by decide) hl.1 (Nat.le_of_ble_eq_true rfl) dd_Md_set_50 (fun H lo P => ?_)
      refine pj_if_eq C h dd_Md_set_53 (fun h => ?_) (fun h => ?_)
      · exact bt_Md_set_70 hB C Q _ _ _ _ _ _ _ h P (lv_sub hl [0, 1, 2, 3] rfl)
      · refine pj_aload_n C dd_Md_set_56 rfl hl 0 rfl ?_
        refine pj_getR C P 0 (LM0 hB) rfl fl_Md_7 dd_Md_set_57 ?_
        refine pj_sipush (v := (nI 138)) C dd_Md_set_60 rfl ?_
        refine pj_iload_n C dd_Md_set_63 rfl hl 2 rfl ?_
        refine pj_iadd C dd_Md_set_64 ?_
        refine pj_iload_n C dd_Md_set_65 rfl hl 3 rfl ?_
        refine pj_iast C P 1 (LM1 hB) h dd_Md_set_66 (fun H lo z7 h P => ?_)
        refine pj_goto C dd_Md_set_67 ?_
        exact bt_Md_set_117 hB C Q _ _ _ _ h P (lv_sub hl [0] rfl)
set_option maxHeartbeats 4000000 in
set_option maxRecDepth 100000 in
theorem ct_Md_set {l : Launch} {B : pj_B} (hB : B.2.2.2.1 = pj_LM) {v1 : Int32} {v2 : Int32} {v3 : Int32} {z : pj_S} {r0 : Int32} {z0 : pj_S} (h : Md_set v1 v2 v3 z = some (r0, z0)) : pj_Mi l yX11_set cX11_set 4 (some .boolean) 3 [.ref (B.2.1 0), .int v1, .int v2, .int v3] B z r0 z0 := by
  refine pj_meti (own := RX11) (by decide +kernel) rfl (Nat.le_of_ble_eq_true rfl) ?_
  intro A K hK C Q H lo ls P hl
  have hl : lv_has ls 4 [(0, .ref (B.2.1 0)), (1, .int v1), (2, .int v2), (3, .int v3)] := hl
  unfold Md_set at h
  refine pj_iload_n C dd_Md_set_0 rfl hl 1 rfl ?_
  refine pj_if_ne C h dd_Md_set_1 (fun h => ?_) (fun h => ?_)
  · exact bt_Md_set_34 hB C Q _ _ _ _ _ _ _ h P (lv_sub hl [0, 1, 2, 3] rfl)
  · refine pj_aload_n C dd_Md_set_4 rfl hl 0 rfl ?_
    refine pj_iload_n C dd_Md_set_5 rfl hl 2 rfl ?_
    obtain ⟨r3, z2, e1, h⟩ := pj_cE h
    refine pj_cVi (st := []) [.int v2] C P 0 (LM0 hB) rfl (ct_Md_isStitch hB e1) cl_Md_63 rfl (by decide) (by decide) hl.1 (Nat.le_of_ble_eq_true rfl) dd_Md_set_6 (fun H lo P => ?_)
    refine pj_if_eq C h dd_Md_set_9 (fun h => ?_) (fun h => ?_)
    · exact bt_Md_set_34 hB C Q _ _ _ _ _ _ _ h P (lv_sub hl [0, 1, 2, 3] rfl)
    · refine pj_iload_n C dd_Md_set_12 rfl hl 3 rfl ?_
      refine pj_iconst (v := (nI 0)) C dd_Md_set_13 rfl ?_
      refine pj_iconst (v := (nI 3)) C dd_Md_set_14 rfl ?_
      obtain ⟨r6, z5, e4, h⟩ := pj_cE h
      refine pj_cSi (st := []) [.int v3, .int (nI 0), .int (nI 3)] C P (ct_Md_isInM hB e4) cl_Md_70 rfl (by decide) (by decide) hl.1 (Nat.le_of_ble_eq_true rfl) dd_Md_set_15 (fun H lo P => ?_)
      refine pj_if_eq C h dd_Md_set_18 (fun h => ?_) (fun h => ?_)
      · exact bt_Md_set_34 hB C Q _ _ _ _ _ _ _ h P (lv_sub hl [0, 1, 2, 3] rfl)
      · refine pj_aload_n C dd_Md_set_21 rfl hl 0 rfl ?_
        refine pj_getR C P 0 (LM0 hB) rfl fl_Md_7 dd_Md_set_22 ?_
        refine pj_bipush (v := (nI 10)) C dd_Md_set_25 rfl ?_
        refine pj_iload_n C dd_Md_set_27 rfl hl 2 rfl ?_
        refine pj_iadd C dd_Md_set_28 ?_
        refine pj_iload_n C dd_Md_set_29 rfl hl 3 rfl ?_
        refine pj_iast C P 1 (LM1 hB) h dd_Md_set_30 (fun H lo z7 h P => ?_)
        refine pj_goto C dd_Md_set_31 ?_
        exact bt_Md_set_117 hB C Q _ _ _ _ h P (lv_sub hl [0] rfl)
theorem dd_Md_keeps_0 : pj_d cX11_keeps 0 (.aload_n 0) 1 1 := ⟨by decide +kernel, rfl⟩
theorem dd_Md_keeps_1 : pj_d cX11_keeps 1 (.getfield 67) 3 4 := ⟨by decide +kernel, rfl⟩
theorem dd_Md_keeps_4 : pj_d cX11_keeps 4 (.bipush 8) 2 6 := ⟨by decide +kernel, rfl⟩
theorem dd_Md_keeps_6 : pj_dj cX11_keeps 6 (.if_icmp .ne 44) 44 9 50 := ⟨by decide +kernel, rfl, by decide⟩
theorem dd_Md_keeps_9 : pj_d cX11_keeps 9 (.iconst 0) 1 10 := ⟨by decide +kernel, rfl⟩
theorem dd_Md_keeps_10 : pj_d cX11_keeps 10 (.istore_n 1) 1 11 := ⟨by decide +kernel, rfl⟩
theorem dd_Md_keeps_11 : pj_d cX11_keeps 11 (.iload_n 1) 1 12 := ⟨by decide +kernel, rfl⟩
theorem dd_Md_keeps_12 : pj_d cX11_keeps 12 (.sipush 1372) 3 15 := ⟨by decide +kernel, rfl⟩
theorem dd_Md_keeps_15 : pj_dj cX11_keeps 15 (.if_icmp .ge 25) 25 18 40 := ⟨by decide +kernel, rfl, by decide⟩
theorem dd_Md_keeps_18 : pj_d cX11_keeps 18 (.aload_n 0) 1 19 := ⟨by decide +kernel, rfl⟩
theorem dd_Md_keeps_19 : pj_d cX11_keeps 19 (.getfield 16) 3 22 := ⟨by decide +kernel, rfl⟩
theorem dd_Md_keeps_22 : pj_d cX11_keeps 22 (.iload_n 1) 1 23 := ⟨by decide +kernel, rfl⟩
theorem dd_Md_keeps_23 : pj_d cX11_keeps 23 (.aload_n 0) 1 24 := ⟨by decide +kernel, rfl⟩
theorem dd_Md_keeps_24 : pj_d cX11_keeps 24 (.getfield 16) 3 27 := ⟨by decide +kernel, rfl⟩
theorem dd_Md_keeps_27 : pj_d cX11_keeps 27 (.iload_n 1) 1 28 := ⟨by decide +kernel, rfl⟩
theorem dd_Md_keeps_28 : pj_d cX11_keeps 28 (.sipush 196) 3 31 := ⟨by decide +kernel, rfl⟩
theorem dd_Md_keeps_31 : pj_d cX11_keeps 31 (.iadd) 1 32 := ⟨by decide +kernel, rfl⟩
theorem dd_Md_keeps_32 : pj_d cX11_keeps 32 (.iaload) 1 33 := ⟨by decide +kernel, rfl⟩
theorem dd_Md_keeps_33 : pj_d cX11_keeps 33 (.iastore) 1 34 := ⟨by decide +kernel, rfl⟩
theorem dd_Md_keeps_34 : pj_d cX11_keeps 34 (.iinc 1 1) 3 37 := ⟨by decide +kernel, rfl⟩
theorem dd_Md_keeps_37 : pj_dj cX11_keeps 37 (.goto (-26)) (-26) 40 11 := ⟨by decide +kernel, rfl, by decide⟩
theorem dd_Md_keeps_40 : pj_d cX11_keeps 40 (.aload_n 0) 1 41 := ⟨by decide +kernel, rfl⟩
theorem dd_Md_keeps_41 : pj_d cX11_keeps 41 (.dup) 1 42 := ⟨by decide +kernel, rfl⟩
theorem dd_Md_keeps_42 : pj_d cX11_keeps 42 (.getfield 67) 3 45 := ⟨by decide +kernel, rfl⟩
theorem dd_Md_keeps_45 : pj_d cX11_keeps 45 (.iconst 1) 1 46 := ⟨by decide +kernel, rfl⟩
theorem dd_Md_keeps_46 : pj_d cX11_keeps 46 (.isub) 1 47 := ⟨by decide +kernel, rfl⟩
theorem dd_Md_keeps_47 : pj_d cX11_keeps 47 (.putfield 67) 3 50 := ⟨by decide +kernel, rfl⟩
theorem dd_Md_keeps_50 : pj_d cX11_keeps 50 (.sipush 196) 3 53 := ⟨by decide +kernel, rfl⟩
theorem dd_Md_keeps_53 : pj_d cX11_keeps 53 (.aload_n 0) 1 54 := ⟨by decide +kernel, rfl⟩
theorem dd_Md_keeps_54 : pj_d cX11_keeps 54 (.getfield 67) 3 57 := ⟨by decide +kernel, rfl⟩
theorem dd_Md_keeps_57 : pj_d cX11_keeps 57 (.imul) 1 58 := ⟨by decide +kernel, rfl⟩
theorem dd_Md_keeps_58 : pj_d cX11_keeps 58 (.istore_n 1) 1 59 := ⟨by decide +kernel, rfl⟩
theorem dd_Md_keeps_59 : pj_d cX11_keeps 59 (.iconst 0) 1 60 := ⟨by decide +kernel, rfl⟩
theorem dd_Md_keeps_60 : pj_d cX11_keeps 60 (.istore_n 2) 1 61 := ⟨by decide +kernel, rfl⟩
theorem dd_Md_keeps_61 : pj_d cX11_keeps 61 (.iload_n 2) 1 62 := ⟨by decide +kernel, rfl⟩
theorem dd_Md_keeps_62 : pj_d cX11_keeps 62 (.iconst 4) 1 63 := ⟨by decide +kernel, rfl⟩
theorem dd_Md_keeps_63 : pj_dj cX11_keeps 63 (.if_icmp .ge 25) 25 66 88 := ⟨by decide +kernel, rfl, by decide⟩
theorem dd_Md_keeps_66 : pj_d cX11_keeps 66 (.aload_n 0) 1 67 := ⟨by decide +kernel, rfl⟩
theorem dd_Md_keeps_67 : pj_d cX11_keeps 67 (.getfield 16) 3 70 := ⟨by decide +kernel, rfl⟩
theorem dd_Md_keeps_70 : pj_d cX11_keeps 70 (.iload_n 1) 1 71 := ⟨by decide +kernel, rfl⟩
theorem dd_Md_keeps_71 : pj_d cX11_keeps 71 (.iload_n 2) 1 72 := ⟨by decide +kernel, rfl⟩
theorem dd_Md_keeps_72 : pj_d cX11_keeps 72 (.iadd) 1 73 := ⟨by decide +kernel, rfl⟩
theorem dd_Md_keeps_73 : pj_d cX11_keeps 73 (.aload_n 0) 1 74 := ⟨by decide +kernel, rfl⟩
theorem dd_Md_keeps_74 : pj_d cX11_keeps 74 (.getfield 7) 3 77 := ⟨by decide +kernel, rfl⟩
theorem dd_Md_keeps_77 : pj_d cX11_keeps 77 (.iconst 3) 1 78 := ⟨by decide +kernel, rfl⟩
theorem dd_Md_keeps_78 : pj_d cX11_keeps 78 (.iload_n 2) 1 79 := ⟨by decide +kernel, rfl⟩
theorem dd_Md_keeps_79 : pj_d cX11_keeps 79 (.iadd) 1 80 := ⟨by decide +kernel, rfl⟩
theorem dd_Md_keeps_80 : pj_d cX11_keeps 80 (.iaload) 1 81 := ⟨by decide +kernel, rfl⟩
theorem dd_Md_keeps_81 : pj_d cX11_keeps 81 (.iastore) 1 82 := ⟨by decide +kernel, rfl⟩
theorem dd_Md_keeps_82 : pj_d cX11_keeps 82 (.iinc 2 1) 3 85 := ⟨by decide +kernel, rfl⟩
theorem dd_Md_keeps_85 : pj_dj cX11_keeps 85 (.goto (-24)) (-24) 88 61 := ⟨by decide +kernel, rfl, by decide⟩
theorem dd_Md_keeps_88 : pj_d cX11_keeps 88 (.iconst 0) 1 89 := ⟨by decide +kernel, rfl⟩
theorem dd_Md_keeps_89 : pj_d cX11_keeps 89 (.istore_n 2) 1 90 := ⟨by decide +kernel, rfl⟩
theorem dd_Md_keeps_90 : pj_d cX11_keeps 90 (.iload_n 2) 1 91 := ⟨by decide +kernel, rfl⟩
theorem dd_Md_keeps_91 : pj_d cX11_keeps 91 (.bipush 64) 2 93 := ⟨by decide +kernel, rfl⟩
theorem dd_Md_keeps_93 : pj_dj cX11_keeps 93 (.if_icmp .ge 71) 71 96 164 := ⟨by decide +kernel, rfl, by decide⟩
theorem dd_Md_keeps_96 : pj_d cX11_keeps 96 (.aload_n 0) 1 97 := ⟨by decide +kernel, rfl⟩
theorem dd_Md_keeps_97 : pj_d cX11_keeps 97 (.getfield 16) 3 100 := ⟨by decide +kernel, rfl⟩
theorem dd_Md_keeps_100 : pj_d cX11_keeps 100 (.iload_n 1) 1 101 := ⟨by decide +kernel, rfl⟩
theorem dd_Md_keeps_101 : pj_d cX11_keeps 101 (.iconst 4) 1 102 := ⟨by decide +kernel, rfl⟩
theorem dd_Md_keeps_102 : pj_d cX11_keeps 102 (.iadd) 1 103 := ⟨by decide +kernel, rfl⟩
theorem dd_Md_keeps_103 : pj_d cX11_keeps 103 (.iload_n 2) 1 104 := ⟨by decide +kernel, rfl⟩
theorem dd_Md_keeps_104 : pj_d cX11_keeps 104 (.iadd) 1 105 := ⟨by decide +kernel, rfl⟩
theorem dd_Md_keeps_105 : pj_d cX11_keeps 105 (.aload_n 0) 1 106 := ⟨by decide +kernel, rfl⟩
theorem dd_Md_keeps_106 : pj_d cX11_keeps 106 (.getfield 7) 3 109 := ⟨by decide +kernel, rfl⟩
theorem dd_Md_keeps_109 : pj_d cX11_keeps 109 (.bipush 74) 2 111 := ⟨by decide +kernel, rfl⟩
theorem dd_Md_keeps_111 : pj_d cX11_keeps 111 (.iload_n 2) 1 112 := ⟨by decide +kernel, rfl⟩
theorem dd_Md_keeps_112 : pj_d cX11_keeps 112 (.iadd) 1 113 := ⟨by decide +kernel, rfl⟩
theorem dd_Md_keeps_113 : pj_d cX11_keeps 113 (.iaload) 1 114 := ⟨by decide +kernel, rfl⟩
theorem dd_Md_keeps_114 : pj_d cX11_keeps 114 (.iastore) 1 115 := ⟨by decide +kernel, rfl⟩
theorem dd_Md_keeps_115 : pj_d cX11_keeps 115 (.aload_n 0) 1 116 := ⟨by decide +kernel, rfl⟩
theorem dd_Md_keeps_116 : pj_d cX11_keeps 116 (.getfield 16) 3 119 := ⟨by decide +kernel, rfl⟩
theorem dd_Md_keeps_119 : pj_d cX11_keeps 119 (.iload_n 1) 1 120 := ⟨by decide +kernel, rfl⟩
theorem dd_Md_keeps_120 : pj_d cX11_keeps 120 (.bipush 68) 2 122 := ⟨by decide +kernel, rfl⟩
theorem dd_Md_keeps_122 : pj_d cX11_keeps 122 (.iadd) 1 123 := ⟨by decide +kernel, rfl⟩
theorem dd_Md_keeps_123 : pj_d cX11_keeps 123 (.iload_n 2) 1 124 := ⟨by decide +kernel, rfl⟩
theorem dd_Md_keeps_124 : pj_d cX11_keeps 124 (.iadd) 1 125 := ⟨by decide +kernel, rfl⟩
theorem dd_Md_keeps_125 : pj_d cX11_keeps 125 (.aload_n 0) 1 126 := ⟨by decide +kernel, rfl⟩
theorem dd_Md_keeps_126 : pj_d cX11_keeps 126 (.getfield 7) 3 129 := ⟨by decide +kernel, rfl⟩
theorem dd_Md_keeps_129 : pj_d cX11_keeps 129 (.sipush 202) 3 132 := ⟨by decide +kernel, rfl⟩
theorem dd_Md_keeps_132 : pj_d cX11_keeps 132 (.iload_n 2) 1 133 := ⟨by decide +kernel, rfl⟩
theorem dd_Md_keeps_133 : pj_d cX11_keeps 133 (.iadd) 1 134 := ⟨by decide +kernel, rfl⟩
theorem dd_Md_keeps_134 : pj_d cX11_keeps 134 (.iaload) 1 135 := ⟨by decide +kernel, rfl⟩
theorem dd_Md_keeps_135 : pj_d cX11_keeps 135 (.iastore) 1 136 := ⟨by decide +kernel, rfl⟩
theorem dd_Md_keeps_136 : pj_d cX11_keeps 136 (.aload_n 0) 1 137 := ⟨by decide +kernel, rfl⟩
theorem dd_Md_keeps_137 : pj_d cX11_keeps 137 (.getfield 16) 3 140 := ⟨by decide +kernel, rfl⟩
theorem dd_Md_keeps_140 : pj_d cX11_keeps 140 (.iload_n 1) 1 141 := ⟨by decide +kernel, rfl⟩
theorem dd_Md_keeps_141 : pj_d cX11_keeps 141 (.sipush 132) 3 144 := ⟨by decide +kernel, rfl⟩
theorem dd_Md_keeps_144 : pj_d cX11_keeps 144 (.iadd) 1 145 := ⟨by decide +kernel, rfl⟩
theorem dd_Md_keeps_145 : pj_d cX11_keeps 145 (.iload_n 2) 1 146 := ⟨by decide +kernel, rfl⟩
theorem dd_Md_keeps_146 : pj_d cX11_keeps 146 (.iadd) 1 147 := ⟨by decide +kernel, rfl⟩
theorem dd_Md_keeps_147 : pj_d cX11_keeps 147 (.aload_n 0) 1 148 := ⟨by decide +kernel, rfl⟩
theorem dd_Md_keeps_148 : pj_d cX11_keeps 148 (.getfield 7) 3 151 := ⟨by decide +kernel, rfl⟩
theorem dd_Md_keeps_151 : pj_d cX11_keeps 151 (.sipush 1490) 3 154 := ⟨by decide +kernel, rfl⟩
theorem dd_Md_keeps_154 : pj_d cX11_keeps 154 (.iload_n 2) 1 155 := ⟨by decide +kernel, rfl⟩
theorem dd_Md_keeps_155 : pj_d cX11_keeps 155 (.iadd) 1 156 := ⟨by decide +kernel, rfl⟩
theorem dd_Md_keeps_156 : pj_d cX11_keeps 156 (.iaload) 1 157 := ⟨by decide +kernel, rfl⟩
theorem dd_Md_keeps_157 : pj_d cX11_keeps 157 (.iastore) 1 158 := ⟨by decide +kernel, rfl⟩
theorem dd_Md_keeps_158 : pj_d cX11_keeps 158 (.iinc 2 1) 3 161 := ⟨by decide +kernel, rfl⟩
theorem dd_Md_keeps_161 : pj_dj cX11_keeps 161 (.goto (-71)) (-71) 164 90 := ⟨by decide +kernel, rfl, by decide⟩
theorem dd_Md_keeps_164 : pj_d cX11_keeps 164 (.aload_n 0) 1 165 := ⟨by decide +kernel, rfl⟩
theorem dd_Md_keeps_165 : pj_d cX11_keeps 165 (.dup) 1 166 := ⟨by decide +kernel, rfl⟩
theorem dd_Md_keeps_166 : pj_d cX11_keeps 166 (.getfield 67) 3 169 := ⟨by decide +kernel, rfl⟩
theorem dd_Md_keeps_169 : pj_d cX11_keeps 169 (.iconst 1) 1 170 := ⟨by decide +kernel, rfl⟩
theorem dd_Md_keeps_170 : pj_d cX11_keeps 170 (.iadd) 1 171 := ⟨by decide +kernel, rfl⟩
theorem dd_Md_keeps_171 : pj_d cX11_keeps 171 (.putfield 67) 3 174 := ⟨by decide +kernel, rfl⟩
theorem dd_Md_keeps_174 : pj_d cX11_keeps 174 (.return_) 1 175 := ⟨by decide +kernel, rfl⟩
set_option maxHeartbeats 4000000 in
set_option maxRecDepth 100000 in
theorem bt_Md_keeps_164 {B : pj_B} {A : Nat → Prop} {K : pj_K} {r0 : Unit} {z0 : pj_S} (hB : B.2.2.2.1 = pj_LM) (C : pj_C B A K cX11_keeps 3 RX11 1) (Q : pj_Qv B A K none r0 z0)   (z : pj_S) (H : Heap) (lo : List Loc) (ls : Array Slot) (h : Md_keeps_164 z = some (r0, z0)) (P : pj_P B A K z H lo) (hl : lv_has ls 3 [(0, .ref (B.2.1 0))]) : pj_W K H lo 164 ls [] := by
  unfold Md_keeps_164 at h
  refine pj_aload_n C dd_Md_keeps_164 rfl hl 0 rfl ?_
  refine pj_dup C dd_Md_keeps_165 rfl ?_
  refine pj_getI C P 0 (LM0 hB) rfl fl_Md_67 dd_Md_keeps_166 ?_
  refine pj_iconst (v := (nI 1)) C dd_Md_keeps_169 rfl ?_
  refine pj_iadd C dd_Md_keeps_170 ?_
  refine pj_putI C P 0 (LM0 hB) rfl fl_Md_67 rfl fy_11_3 h dd_Md_keeps_171 (fun H lo z1 h P => ?_)
  exact pj_vret C Q P h dd_Md_keeps_174
set_option maxHeartbeats 4000000 in
set_option maxRecDepth 100000 in
theorem bt_Md_keeps_90 {B : pj_B} {A : Nat → Prop} {K : pj_K} {r0 : Unit} {z0 : pj_S} (hB : B.2.2.2.1 = pj_LM) (C : pj_C B A K cX11_keeps 3 RX11 1) (Q : pj_Qv B A K none r0 z0) (s90 : Int32 → Int32 → pj_S → Option (Unit × pj_S)) (k90 : ∀ (v1 : Int32) (v2 : Int32) (z : pj_S) (H : Heap) (lo : List Loc) (ls : Array Slot), s90 v1 v2 z = some (r0, z0) → pj_P B A K z H lo → lv_has ls 3 [(0, .ref (B.2.1 0)), (1, .int v1), (2, .int v2)] → pj_W K H lo 90 ls []) (v1 : Int32) (v2 : Int32) (z : pj_S) (H : Heap) (lo : List Loc) (ls : Array Slot) (h : Md_keeps_90 s90 v1 v2 z = some (r0, z0)) (P : pj_P B A K z H lo) (hl : lv_has ls 3 [(0, .ref (B.2.1 0)), (1, .int v1), (2, .int v2)]) : pj_W K H lo 90 ls [] := by
  unfold Md_keeps_90 at h
  refine pj_iload_n C dd_Md_keeps_90 rfl hl 2 rfl ?_
  refine pj_bipush (v := (nI 64)) C dd_Md_keeps_91 rfl ?_
  refine pj_ic_ge C h dd_Md_keeps_93 (fun h => ?_) (fun h => ?_)
  · exact bt_Md_keeps_164 hB C Q _ _ _ _ h P (lv_sub hl [0] rfl)
  · refine pj_aload_n C dd_Md_keeps_96 rfl hl 0 rfl ?_
    refine pj_getR C P 0 (LM0 hB) rfl fl_Md_16 dd_Md_keeps_97 ?_
    refine pj_iload_n C dd_Md_keeps_100 rfl hl 1 rfl ?_
    refine pj_iconst (v := (nI 4)) C dd_Md_keeps_101 rfl ?_
    refine pj_iadd C dd_Md_keeps_102 ?_
    refine pj_iload_n C dd_Md_keeps_103 rfl hl 2 rfl ?_
    refine pj_iadd C dd_Md_keeps_104 ?_
    refine pj_aload_n C dd_Md_keeps_105 rfl hl 0 rfl ?_
    refine pj_getR C P 0 (LM0 hB) rfl fl_Md_7 dd_Md_keeps_106 ?_
    refine pj_bipush (v := (nI 74)) C dd_Md_keeps_109 rfl ?_
    refine pj_iload_n C dd_Md_keeps_111 rfl hl 2 rfl ?_
    refine pj_iadd C dd_Md_keeps_112 ?_
    refine pj_iald C P 1 (LM1 hB) h dd_Md_keeps_113 (fun h => ?_)
    refine pj_iast C P 3 (LM3 hB) h dd_Md_keeps_114 (fun H lo z1 h P => ?_)
    refine pj_aload_n C dd_Md_keeps_115 rfl hl 0 rfl ?_
    refine pj_getR C P 0 (LM0 hB) rfl fl_Md_16 dd_Md_keeps_116 ?_
    refine pj_iload_n C dd_Md_keeps_119 rfl hl 1 rfl ?_
    refine pj_bipush (v := (nI 68)) C dd_Md_keeps_120 rfl ?_
    refine pj_iadd C dd_Md_keeps_122 ?_
    refine pj_iload_n C dd_Md_keeps_123 rfl hl 2 rfl ?_
    refine pj_iadd C dd_Md_keeps_124 ?_
    refine pj_aload_n C dd_Md_keeps_125 rfl hl 0 rfl ?_
    refine pj_getR C P 0 (LM0 hB) rfl fl_Md_7 dd_Md_keeps_126 ?_
    refine pj_sipush (v := (nI 202)) C dd_Md_keeps_129 rfl ?_
    refine pj_iload_n C dd_Md_keeps_132 rfl hl 2 rfl ?_
    refine pj_iadd C dd_Md_keeps_133 ?_
    refine pj_iald C P 1 (LM1 hB) h dd_Md_keeps_134 (fun h => ?_)
    refine pj_iast C P 3 (LM3 hB) h dd_Md_keeps_135 (fun H lo z2 h P => ?_)
    refine pj_aload_n C dd_Md_keeps_136 rfl hl 0 rfl ?_
    refine pj_getR C P 0 (LM0 hB) rfl fl_Md_16 dd_Md_keeps_137 ?_
    refine pj_iload_n C dd_Md_keeps_140 rfl hl 1 rfl ?_
    refine pj_sipush (v := (nI 132)) C dd_Md_keeps_141 rfl ?_
    refine pj_iadd C dd_Md_keeps_144 ?_
    refine pj_iload_n C dd_Md_keeps_145 rfl hl 2 rfl ?_
    refine pj_iadd C dd_Md_keeps_146 ?_
    refine pj_aload_n C dd_Md_keeps_147 rfl hl 0 rfl ?_
    refine pj_getR C P 0 (LM0 hB) rfl fl_Md_7 dd_Md_keeps_148 ?_
    refine pj_sipush (v := (nI 1490)) C dd_Md_keeps_151 rfl ?_
    refine pj_iload_n C dd_Md_keeps_154 rfl hl 2 rfl ?_
    refine pj_iadd C dd_Md_keeps_155 ?_
    refine pj_iald C P 1 (LM1 hB) h dd_Md_keeps_156 (fun h => ?_)
    refine pj_iast C P 3 (LM3 hB) h dd_Md_keeps_157 (fun H lo z3 h P => ?_)
    refine pj_iinc (v := (nI 1)) [(0, .ref (B.2.1 0)), (1, .int v1)] C h rfl dd_Md_keeps_158 hl 2 rfl (by decide) rfl (fun x4 ls h hl => ?_)
    refine pj_goto C dd_Md_keeps_161 ?_
    exact k90 _ _ _ _ _ _ h P (lv_sub hl [1, 2, 0] rfl)
theorem lt_Md_keeps_90 {B : pj_B} {A : Nat → Prop} {K : pj_K} {r0 : Unit} {z0 : pj_S} (hB : B.2.2.2.1 = pj_LM) (C : pj_C B A K cX11_keeps 3 RX11 1) (Q : pj_Qv B A K none r0 z0)  : ∀ (n : Nat) (v1 : Int32) (v2 : Int32) (z : pj_S) (H : Heap) (lo : List Loc) (ls : Array Slot), pj_lp2 Md_keeps_90 n v1 v2 z = some (r0, z0) → pj_P B A K z H lo → lv_has ls 3 [(0, .ref (B.2.1 0)), (1, .int v1), (2, .int v2)] → pj_W K H lo 90 ls [] := by
  intro n
  induction n with
  | zero => intro v1 v2 z H lo ls h; rw [pj_lp2_0] at h; cases h
  | succ n ih =>
    intro v1 v2 z H lo ls h P hl
    rw [pj_lp2_s] at h
    exact bt_Md_keeps_90 hB C Q   (pj_lp2 Md_keeps_90 n) ih v1 v2 z H lo ls h P hl
set_option maxHeartbeats 4000000 in
set_option maxRecDepth 100000 in
theorem bt_Md_keeps_88 {B : pj_B} {A : Nat → Prop} {K : pj_K} {r0 : Unit} {z0 : pj_S} (hB : B.2.2.2.1 = pj_LM) (C : pj_C B A K cX11_keeps 3 RX11 1) (Q : pj_Qv B A K none r0 z0)  (v1 : Int32) (z : pj_S) (H : Heap) (lo : List Loc) (ls : Array Slot) (h : Md_keeps_88 v1 z = some (r0, z0)) (P : pj_P B A K z H lo) (hl : lv_has ls 3 [(0, .ref (B.2.1 0)), (1, .int v1)]) : pj_W K H lo 88 ls [] := by
  unfold Md_keeps_88 at h
  refine pj_iconst (v := (nI 0)) C dd_Md_keeps_88 rfl ?_
  refine pj_istore_n [(2, .int (nI 0)), (0, .ref (B.2.1 0)), (1, .int v1)] C dd_Md_keeps_89 rfl hl (by decide) rfl (fun ls hl => ?_)
  exact lt_Md_keeps_90 hB C Q 4000 _ _ _ _ _ _ h P (lv_sub hl [1, 2, 0] rfl)
set_option maxHeartbeats 4000000 in
set_option maxRecDepth 100000 in
theorem bt_Md_keeps_61 {B : pj_B} {A : Nat → Prop} {K : pj_K} {r0 : Unit} {z0 : pj_S} (hB : B.2.2.2.1 = pj_LM) (C : pj_C B A K cX11_keeps 3 RX11 1) (Q : pj_Qv B A K none r0 z0) (s61 : Int32 → Int32 → pj_S → Option (Unit × pj_S)) (k61 : ∀ (v1 : Int32) (v2 : Int32) (z : pj_S) (H : Heap) (lo : List Loc) (ls : Array Slot), s61 v1 v2 z = some (r0, z0) → pj_P B A K z H lo → lv_has ls 3 [(0, .ref (B.2.1 0)), (1, .int v1), (2, .int v2)] → pj_W K H lo 61 ls []) (v1 : Int32) (v2 : Int32) (z : pj_S) (H : Heap) (lo : List Loc) (ls : Array Slot) (h : Md_keeps_61 s61 v1 v2 z = some (r0, z0)) (P : pj_P B A K z H lo) (hl : lv_has ls 3 [(0, .ref (B.2.1 0)), (1, .int v1), (2, .int v2)]) : pj_W K H lo 61 ls [] := by
  unfold Md_keeps_61 at h
  refine pj_iload_n C dd_Md_keeps_61 rfl hl 2 rfl ?_
  refine pj_iconst (v := (nI 4)) C dd_Md_keeps_62 rfl ?_
  refine pj_ic_ge C h dd_Md_keeps_63 (fun h => ?_) (fun h => ?_)
  · exact bt_Md_keeps_88 hB C Q _ _ _ _ _ h P (lv_sub hl [0, 1] rfl)
  · refine pj_aload_n C dd_Md_keeps_66 rfl hl 0 rfl ?_
    refine pj_getR C P 0 (LM0 hB) rfl fl_Md_16 dd_Md_keeps_67 ?_
    refine pj_iload_n C dd_Md_keeps_70 rfl hl 1 rfl ?_
    refine pj_iload_n C dd_Md_keeps_71 rfl hl 2 rfl ?_
    refine pj_iadd C dd_Md_keeps_72 ?_
    refine pj_aload_n C dd_Md_keeps_73 rfl hl 0 rfl ?_
    refine pj_getR C P 0 (LM0 hB) rfl fl_Md_7 dd_Md_keeps_74 ?_
    refine pj_iconst (v := (nI 3)) C dd_Md_keeps_77 rfl ?_
    refine pj_iload_n C dd_Md_keeps_78 rfl hl 2 rfl ?_
    refine pj_iadd C dd_Md_keeps_79 ?_
    refine pj_iald C P 1 (LM1 hB) h dd_Md_keeps_80 (fun h => ?_)
    refine pj_iast C P 3 (LM3 hB) h dd_Md_keeps_81 (fun H lo z1 h P => ?_)
    refine pj_iinc (v := (nI 1)) [(0, .ref (B.2.1 0)), (1, .int v1)] C h rfl dd_Md_keeps_82 hl 2 rfl (by decide) rfl (fun x2 ls h hl => ?_)
    refine pj_goto C dd_Md_keeps_85 ?_
    exact k61 _ _ _ _ _ _ h P (lv_sub hl [1, 2, 0] rfl)
theorem lt_Md_keeps_61 {B : pj_B} {A : Nat → Prop} {K : pj_K} {r0 : Unit} {z0 : pj_S} (hB : B.2.2.2.1 = pj_LM) (C : pj_C B A K cX11_keeps 3 RX11 1) (Q : pj_Qv B A K none r0 z0)  : ∀ (n : Nat) (v1 : Int32) (v2 : Int32) (z : pj_S) (H : Heap) (lo : List Loc) (ls : Array Slot), pj_lp2 Md_keeps_61 n v1 v2 z = some (r0, z0) → pj_P B A K z H lo → lv_has ls 3 [(0, .ref (B.2.1 0)), (1, .int v1), (2, .int v2)] → pj_W K H lo 61 ls [] := by
  intro n
  induction n with
  | zero => intro v1 v2 z H lo ls h; rw [pj_lp2_0] at h; cases h
  | succ n ih =>
    intro v1 v2 z H lo ls h P hl
    rw [pj_lp2_s] at h
    exact bt_Md_keeps_61 hB C Q   (pj_lp2 Md_keeps_61 n) ih v1 v2 z H lo ls h P hl
set_option maxHeartbeats 4000000 in
set_option maxRecDepth 100000 in
theorem bt_Md_keeps_50 {B : pj_B} {A : Nat → Prop} {K : pj_K} {r0 : Unit} {z0 : pj_S} (hB : B.2.2.2.1 = pj_LM) (C : pj_C B A K cX11_keeps 3 RX11 1) (Q : pj_Qv B A K none r0 z0)   (z : pj_S) (H : Heap) (lo : List Loc) (ls : Array Slot) (h : Md_keeps_50 z = some (r0, z0)) (P : pj_P B A K z H lo) (hl : lv_has ls 3 [(0, .ref (B.2.1 0))]) : pj_W K H lo 50 ls [] := by
  unfold Md_keeps_50 at h
  refine pj_sipush (v := (nI 196)) C dd_Md_keeps_50 rfl ?_
  refine pj_aload_n C dd_Md_keeps_53 rfl hl 0 rfl ?_
  refine pj_getI C P 0 (LM0 hB) rfl fl_Md_67 dd_Md_keeps_54 ?_
  refine pj_imul C dd_Md_keeps_57 ?_
  refine pj_istb_n [(0, .ref (B.2.1 0))] C h dd_Md_keeps_58 rfl hl (by decide) rfl (fun x1 ls h hl => ?_)
  refine pj_iconst (v := (nI 0)) C dd_Md_keeps_59 rfl ?_
  refine pj_istore_n [(2, .int (nI 0)), (1, .int x1), (0, .ref (B.2.1 0))] C dd_Md_keeps_60 rfl hl (by decide) rfl (fun ls hl => ?_)
  exact lt_Md_keeps_61 hB C Q 4000 _ _ _ _ _ _ h P (lv_sub hl [2, 1, 0] rfl)
set_option maxHeartbeats 4000000 in
set_option maxRecDepth 100000 in
theorem bt_Md_keeps_40 {B : pj_B} {A : Nat → Prop} {K : pj_K} {r0 : Unit} {z0 : pj_S} (hB : B.2.2.2.1 = pj_LM) (C : pj_C B A K cX11_keeps 3 RX11 1) (Q : pj_Qv B A K none r0 z0)   (z : pj_S) (H : Heap) (lo : List Loc) (ls : Array Slot) (h : Md_keeps_40 z = some (r0, z0)) (P : pj_P B A K z H lo) (hl : lv_has ls 3 [(0, .ref (B.2.1 0))]) : pj_W K H lo 40 ls [] := by
  unfold Md_keeps_40 at h
  refine pj_aload_n C dd_Md_keeps_40 rfl hl 0 rfl ?_
  refine pj_dup C dd_Md_keeps_41 rfl ?_
  refine pj_getI C P 0 (LM0 hB) rfl fl_Md_67 dd_Md_keeps_42 ?_
  refine pj_iconst (v := (nI 1)) C dd_Md_keeps_45 rfl ?_
  refine pj_isub C dd_Md_keeps_46 ?_
  refine pj_putI C P 0 (LM0 hB) rfl fl_Md_67 rfl fy_11_3 h dd_Md_keeps_47 (fun H lo z1 h P => ?_)
  exact bt_Md_keeps_50 hB C Q _ _ _ _ h P (lv_sub hl [0] rfl)
set_option maxHeartbeats 4000000 in
set_option maxRecDepth 100000 in
theorem bt_Md_keeps_11 {B : pj_B} {A : Nat → Prop} {K : pj_K} {r0 : Unit} {z0 : pj_S} (hB : B.2.2.2.1 = pj_LM) (C : pj_C B A K cX11_keeps 3 RX11 1) (Q : pj_Qv B A K none r0 z0) (s11 : Int32 → pj_S → Option (Unit × pj_S)) (k11 : ∀ (v1 : Int32) (z : pj_S) (H : Heap) (lo : List Loc) (ls : Array Slot), s11 v1 z = some (r0, z0) → pj_P B A K z H lo → lv_has ls 3 [(0, .ref (B.2.1 0)), (1, .int v1)] → pj_W K H lo 11 ls []) (v1 : Int32) (z : pj_S) (H : Heap) (lo : List Loc) (ls : Array Slot) (h : Md_keeps_11 s11 v1 z = some (r0, z0)) (P : pj_P B A K z H lo) (hl : lv_has ls 3 [(0, .ref (B.2.1 0)), (1, .int v1)]) : pj_W K H lo 11 ls [] := by
  unfold Md_keeps_11 at h
  refine pj_iload_n C dd_Md_keeps_11 rfl hl 1 rfl ?_
  refine pj_sipush (v := (nI 1372)) C dd_Md_keeps_12 rfl ?_
  refine pj_ic_ge C h dd_Md_keeps_15 (fun h => ?_) (fun h => ?_)
  · exact bt_Md_keeps_40 hB C Q _ _ _ _ h P (lv_sub hl [0] rfl)
  · refine pj_aload_n C dd_Md_keeps_18 rfl hl 0 rfl ?_
    refine pj_getR C P 0 (LM0 hB) rfl fl_Md_16 dd_Md_keeps_19 ?_
    refine pj_iload_n C dd_Md_keeps_22 rfl hl 1 rfl ?_
    refine pj_aload_n C dd_Md_keeps_23 rfl hl 0 rfl ?_
    refine pj_getR C P 0 (LM0 hB) rfl fl_Md_16 dd_Md_keeps_24 ?_
    refine pj_iload_n C dd_Md_keeps_27 rfl hl 1 rfl ?_
    refine pj_sipush (v := (nI 196)) C dd_Md_keeps_28 rfl ?_
    refine pj_iadd C dd_Md_keeps_31 ?_
    refine pj_iald C P 3 (LM3 hB) h dd_Md_keeps_32 (fun h => ?_)
    refine pj_iast C P 3 (LM3 hB) h dd_Md_keeps_33 (fun H lo z1 h P => ?_)
    refine pj_iinc (v := (nI 1)) [(0, .ref (B.2.1 0))] C h rfl dd_Md_keeps_34 hl 1 rfl (by decide) rfl (fun x2 ls h hl => ?_)
    refine pj_goto C dd_Md_keeps_37 ?_
    exact k11 _ _ _ _ _ h P (lv_sub hl [1, 0] rfl)
theorem lt_Md_keeps_11 {B : pj_B} {A : Nat → Prop} {K : pj_K} {r0 : Unit} {z0 : pj_S} (hB : B.2.2.2.1 = pj_LM) (C : pj_C B A K cX11_keeps 3 RX11 1) (Q : pj_Qv B A K none r0 z0)  : ∀ (n : Nat) (v1 : Int32) (z : pj_S) (H : Heap) (lo : List Loc) (ls : Array Slot), pj_lp1 Md_keeps_11 n v1 z = some (r0, z0) → pj_P B A K z H lo → lv_has ls 3 [(0, .ref (B.2.1 0)), (1, .int v1)] → pj_W K H lo 11 ls [] := by
  intro n
  induction n with
  | zero => intro v1 z H lo ls h; rw [pj_lp1_0] at h; cases h
  | succ n ih =>
    intro v1 z H lo ls h P hl
    rw [pj_lp1_s] at h
    exact bt_Md_keeps_11 hB C Q   (pj_lp1 Md_keeps_11 n) ih v1 z H lo ls h P hl
set_option maxHeartbeats 4000000 in
set_option maxRecDepth 100000 in
theorem ct_Md_keeps {l : Launch} {B : pj_B} (hB : B.2.2.2.1 = pj_LM)  {z : pj_S} {r0 : Unit} {z0 : pj_S} (h : Md_keeps z = some (r0, z0)) : pj_Mv l yX11_keeps cX11_keeps 3 none 1 [.ref (B.2.1 0)] B z r0 z0 := by
  refine pj_metv (own := RX11) (by decide +kernel) rfl (Nat.le_of_ble_eq_true rfl) ?_
  intro A K hK C Q H lo ls P hl
  have hl : lv_has ls 3 [(0, .ref (B.2.1 0))] := hl
  unfold Md_keeps at h
  refine pj_aload_n C dd_Md_keeps_0 rfl hl 0 rfl ?_
  refine pj_getI C P 0 (LM0 hB) rfl fl_Md_67 dd_Md_keeps_1 ?_
  refine pj_bipush (v := (nI 8)) C dd_Md_keeps_4 rfl ?_
  refine pj_ic_ne C h dd_Md_keeps_6 (fun h => ?_) (fun h => ?_)
  · exact bt_Md_keeps_50 hB C Q _ _ _ _ h P (lv_sub hl [0] rfl)
  · refine pj_iconst (v := (nI 0)) C dd_Md_keeps_9 rfl ?_
    refine pj_istore_n [(1, .int (nI 0)), (0, .ref (B.2.1 0))] C dd_Md_keeps_10 rfl hl (by decide) rfl (fun ls hl => ?_)
    exact lt_Md_keeps_11 hB C Q 4000 _ _ _ _ _ h P (lv_sub hl [1, 0] rfl)
theorem dd_Md_isGone_0 : pj_d cX11_isGone 0 (.aload_n 0) 1 1 := ⟨by decide +kernel, rfl⟩
theorem dd_Md_isGone_1 : pj_d cX11_isGone 1 (.getfield 7) 3 4 := ⟨by decide +kernel, rfl⟩
theorem dd_Md_isGone_4 : pj_d cX11_isGone 4 (.bipush 74) 2 6 := ⟨by decide +kernel, rfl⟩
theorem dd_Md_isGone_6 : pj_d cX11_isGone 6 (.iload_n 1) 1 7 := ⟨by decide +kernel, rfl⟩
theorem dd_Md_isGone_7 : pj_d cX11_isGone 7 (.iadd) 1 8 := ⟨by decide +kernel, rfl⟩
theorem dd_Md_isGone_8 : pj_d cX11_isGone 8 (.iconst 0) 1 9 := ⟨by decide +kernel, rfl⟩
theorem dd_Md_isGone_9 : pj_d cX11_isGone 9 (.iastore) 1 10 := ⟨by decide +kernel, rfl⟩
theorem dd_Md_isGone_10 : pj_d cX11_isGone 10 (.aload_n 0) 1 11 := ⟨by decide +kernel, rfl⟩
theorem dd_Md_isGone_11 : pj_d cX11_isGone 11 (.getfield 7) 3 14 := ⟨by decide +kernel, rfl⟩
theorem dd_Md_isGone_14 : pj_d cX11_isGone 14 (.iconst 4) 1 15 := ⟨by decide +kernel, rfl⟩
theorem dd_Md_isGone_15 : pj_d cX11_isGone 15 (.iaload) 1 16 := ⟨by decide +kernel, rfl⟩
theorem dd_Md_isGone_16 : pj_d cX11_isGone 16 (.bipush 100) 2 18 := ⟨by decide +kernel, rfl⟩
theorem dd_Md_isGone_18 : pj_dj cX11_isGone 18 (.if_icmp .ne 4) 4 21 22 := ⟨by decide +kernel, rfl, by decide⟩
theorem dd_Md_isGone_21 : pj_d cX11_isGone 21 (.return_) 1 22 := ⟨by decide +kernel, rfl⟩
theorem dd_Md_isGone_22 : pj_d cX11_isGone 22 (.sipush 300) 3 25 := ⟨by decide +kernel, rfl⟩
theorem dd_Md_isGone_25 : pj_d cX11_isGone 25 (.iconst 3) 1 26 := ⟨by decide +kernel, rfl⟩
theorem dd_Md_isGone_26 : pj_d cX11_isGone 26 (.aload_n 0) 1 27 := ⟨by decide +kernel, rfl⟩
theorem dd_Md_isGone_27 : pj_d cX11_isGone 27 (.getfield 7) 3 30 := ⟨by decide +kernel, rfl⟩
theorem dd_Md_isGone_30 : pj_d cX11_isGone 30 (.iconst 4) 1 31 := ⟨by decide +kernel, rfl⟩
theorem dd_Md_isGone_31 : pj_d cX11_isGone 31 (.iaload) 1 32 := ⟨by decide +kernel, rfl⟩
theorem dd_Md_isGone_32 : pj_d cX11_isGone 32 (.imul) 1 33 := ⟨by decide +kernel, rfl⟩
theorem dd_Md_isGone_33 : pj_d cX11_isGone 33 (.iadd) 1 34 := ⟨by decide +kernel, rfl⟩
theorem dd_Md_isGone_34 : pj_d cX11_isGone 34 (.istore_n 3) 1 35 := ⟨by decide +kernel, rfl⟩
theorem dd_Md_isGone_35 : pj_d cX11_isGone 35 (.aload_n 0) 1 36 := ⟨by decide +kernel, rfl⟩
theorem dd_Md_isGone_36 : pj_d cX11_isGone 36 (.getfield 7) 3 39 := ⟨by decide +kernel, rfl⟩
theorem dd_Md_isGone_39 : pj_d cX11_isGone 39 (.iload_n 3) 1 40 := ⟨by decide +kernel, rfl⟩
theorem dd_Md_isGone_40 : pj_d cX11_isGone 40 (.aload_n 0) 1 41 := ⟨by decide +kernel, rfl⟩
theorem dd_Md_isGone_41 : pj_d cX11_isGone 41 (.getfield 7) 3 44 := ⟨by decide +kernel, rfl⟩
theorem dd_Md_isGone_44 : pj_d cX11_isGone 44 (.iconst 5) 1 45 := ⟨by decide +kernel, rfl⟩
theorem dd_Md_isGone_45 : pj_d cX11_isGone 45 (.iaload) 1 46 := ⟨by decide +kernel, rfl⟩
theorem dd_Md_isGone_46 : pj_d cX11_isGone 46 (.iastore) 1 47 := ⟨by decide +kernel, rfl⟩
theorem dd_Md_isGone_47 : pj_d cX11_isGone 47 (.aload_n 0) 1 48 := ⟨by decide +kernel, rfl⟩
theorem dd_Md_isGone_48 : pj_d cX11_isGone 48 (.getfield 7) 3 51 := ⟨by decide +kernel, rfl⟩
theorem dd_Md_isGone_51 : pj_d cX11_isGone 51 (.iload_n 3) 1 52 := ⟨by decide +kernel, rfl⟩
theorem dd_Md_isGone_52 : pj_d cX11_isGone 52 (.iconst 1) 1 53 := ⟨by decide +kernel, rfl⟩
theorem dd_Md_isGone_53 : pj_d cX11_isGone 53 (.iadd) 1 54 := ⟨by decide +kernel, rfl⟩
theorem dd_Md_isGone_54 : pj_d cX11_isGone 54 (.iload_n 1) 1 55 := ⟨by decide +kernel, rfl⟩
theorem dd_Md_isGone_55 : pj_d cX11_isGone 55 (.iastore) 1 56 := ⟨by decide +kernel, rfl⟩
theorem dd_Md_isGone_56 : pj_d cX11_isGone 56 (.aload_n 0) 1 57 := ⟨by decide +kernel, rfl⟩
theorem dd_Md_isGone_57 : pj_d cX11_isGone 57 (.getfield 7) 3 60 := ⟨by decide +kernel, rfl⟩
theorem dd_Md_isGone_60 : pj_d cX11_isGone 60 (.iload_n 3) 1 61 := ⟨by decide +kernel, rfl⟩
theorem dd_Md_isGone_61 : pj_d cX11_isGone 61 (.iconst 2) 1 62 := ⟨by decide +kernel, rfl⟩
theorem dd_Md_isGone_62 : pj_d cX11_isGone 62 (.iadd) 1 63 := ⟨by decide +kernel, rfl⟩
theorem dd_Md_isGone_63 : pj_d cX11_isGone 63 (.iload_n 2) 1 64 := ⟨by decide +kernel, rfl⟩
theorem dd_Md_isGone_64 : pj_d cX11_isGone 64 (.iastore) 1 65 := ⟨by decide +kernel, rfl⟩
theorem dd_Md_isGone_65 : pj_d cX11_isGone 65 (.aload_n 0) 1 66 := ⟨by decide +kernel, rfl⟩
theorem dd_Md_isGone_66 : pj_d cX11_isGone 66 (.getfield 7) 3 69 := ⟨by decide +kernel, rfl⟩
theorem dd_Md_isGone_69 : pj_d cX11_isGone 69 (.iconst 4) 1 70 := ⟨by decide +kernel, rfl⟩
theorem dd_Md_isGone_70 : pj_d cX11_isGone 70 (.dup2) 1 71 := ⟨by decide +kernel, rfl⟩
theorem dd_Md_isGone_71 : pj_d cX11_isGone 71 (.iaload) 1 72 := ⟨by decide +kernel, rfl⟩
theorem dd_Md_isGone_72 : pj_d cX11_isGone 72 (.iconst 1) 1 73 := ⟨by decide +kernel, rfl⟩
theorem dd_Md_isGone_73 : pj_d cX11_isGone 73 (.iadd) 1 74 := ⟨by decide +kernel, rfl⟩
theorem dd_Md_isGone_74 : pj_d cX11_isGone 74 (.iastore) 1 75 := ⟨by decide +kernel, rfl⟩
theorem dd_Md_isGone_75 : pj_d cX11_isGone 75 (.return_) 1 76 := ⟨by decide +kernel, rfl⟩
set_option maxHeartbeats 4000000 in
set_option maxRecDepth 100000 in
theorem ct_Md_isGone {l : Launch} {B : pj_B} (hB : B.2.2.2.1 = pj_LM) {v1 : Int32} {v2 : Int32} {z : pj_S} {r0 : Unit} {z0 : pj_S} (h : Md_isGone v1 v2 z = some (r0, z0)) : pj_Mv l yX11_isGone cX11_isGone 4 none 1 [.ref (B.2.1 0), .int v1, .int v2] B z r0 z0 := by
  refine pj_metv (own := RX11) (by decide +kernel) rfl (Nat.le_of_ble_eq_true rfl) ?_
  intro A K hK C Q H lo ls P hl
  have hl : lv_has ls 4 [(0, .ref (B.2.1 0)), (1, .int v1), (2, .int v2)] := hl
  unfold Md_isGone at h
  refine pj_aload_n C dd_Md_isGone_0 rfl hl 0 rfl ?_
  refine pj_getR C P 0 (LM0 hB) rfl fl_Md_7 dd_Md_isGone_1 ?_
  refine pj_bipush (v := (nI 74)) C dd_Md_isGone_4 rfl ?_
  refine pj_iload_n C dd_Md_isGone_6 rfl hl 1 rfl ?_
  refine pj_iadd C dd_Md_isGone_7 ?_
  refine pj_iconst (v := (nI 0)) C dd_Md_isGone_8 rfl ?_
  refine pj_iast C P 1 (LM1 hB) h dd_Md_isGone_9 (fun H lo z1 h P => ?_)
  refine pj_aload_n C dd_Md_isGone_10 rfl hl 0 rfl ?_
  refine pj_getR C P 0 (LM0 hB) rfl fl_Md_7 dd_Md_isGone_11 ?_
  refine pj_iconst (v := (nI 4)) C dd_Md_isGone_14 rfl ?_
  refine pj_iald C P 1 (LM1 hB) h dd_Md_isGone_15 (fun h => ?_)
  refine pj_bipush (v := (nI 100)) C dd_Md_isGone_16 rfl ?_
  refine pj_ic_ne C h dd_Md_isGone_18 (fun h => ?_) (fun h => ?_)
  · refine pj_sipush (v := (nI 300)) C dd_Md_isGone_22 rfl ?_
    refine pj_iconst (v := (nI 3)) C dd_Md_isGone_25 rfl ?_
    refine pj_aload_n C dd_Md_isGone_26 rfl hl 0 rfl ?_
    refine pj_getR C P 0 (LM0 hB) rfl fl_Md_7 dd_Md_isGone_27 ?_
    refine pj_iconst (v := (nI 4)) C dd_Md_isGone_30 rfl ?_
    refine pj_iald C P 1 (LM1 hB) h dd_Md_isGone_31 (fun h => ?_)
    refine pj_imul C dd_Md_isGone_32 ?_
    refine pj_iadd C dd_Md_isGone_33 ?_
    refine pj_istb_n [(0, .ref (B.2.1 0)), (1, .int v1), (2, .int v2)] C h dd_Md_isGone_34 rfl hl (by decide) rfl (fun x2 ls h hl => ?_)
    refine pj_aload_n C dd_Md_isGone_35 rfl hl 1 rfl ?_
    refine pj_getR C P 0 (LM0 hB) rfl fl_Md_7 dd_Md_isGone_36 ?_
    refine pj_iload_n C dd_Md_isGone_39 rfl hl 0 rfl ?_
    refine pj_aload_n C dd_Md_isGone_40 rfl hl 1 rfl ?_
    refine pj_getR C P 0 (LM0 hB) rfl fl_Md_7 dd_Md_isGone_41 ?_
    refine pj_iconst (v := (nI 5)) C dd_Md_isGone_44 rfl ?_
    refine pj_iald C P 1 (LM1 hB) h dd_Md_isGone_45 (fun h => ?_)
    refine pj_iast C P 1 (LM1 hB) h dd_Md_isGone_46 (fun H lo z3 h P => ?_)
    refine pj_aload_n C dd_Md_isGone_47 rfl hl 1 rfl ?_
    refine pj_getR C P 0 (LM0 hB) rfl fl_Md_7 dd_Md_isGone_48 ?_
    refine pj_iload_n C dd_Md_isGone_51 rfl hl 0 rfl ?_
    refine pj_iconst (v := (nI 1)) C dd_Md_isGone_52 rfl ?_
    refine pj_iadd C dd_Md_isGone_53 ?_
    refine pj_iload_n C dd_Md_isGone_54 rfl hl 2 rfl ?_
    refine pj_iast C P 1 (LM1 hB) h dd_Md_isGone_55 (fun H lo z4 h P => ?_)
    refine pj_aload_n C dd_Md_isGone_56 rfl hl 1 rfl ?_
    refine pj_getR C P 0 (LM0 hB) rfl fl_Md_7 dd_Md_isGone_57 ?_
    refine pj_iload_n C dd_Md_isGone_60 rfl hl 0 rfl ?_
    refine pj_iconst (v := (nI 2)) C dd_Md_isGone_61 rfl ?_
    refine pj_iadd C dd_Md_isGone_62 ?_
    refine pj_iload_n C dd_Md_isGone_63 rfl hl 3 rfl ?_
    refine pj_iast C P 1 (LM1 hB) h dd_Md_isGone_64 (fun H lo z5 h P => ?_)
    refine pj_aload_n C dd_Md_isGone_65 rfl hl 1 rfl ?_
    refine pj_getR C P 0 (LM0 hB) rfl fl_Md_7 dd_Md_isGone_66 ?_
    refine pj_iconst (v := (nI 4)) C dd_Md_isGone_69 rfl ?_
    refine pj_dup2 C dd_Md_isGone_70 rfl rfl ?_
    refine pj_iald C P 1 (LM1 hB) h dd_Md_isGone_71 (fun h => ?_)
    refine pj_iconst (v := (nI 1)) C dd_Md_isGone_72 rfl ?_
    refine pj_iadd C dd_Md_isGone_73 ?_
    refine pj_iast C P 1 (LM1 hB) h dd_Md_isGone_74 (fun H lo z6 h P => ?_)
    exact pj_vret C Q P h dd_Md_isGone_75
  · exact pj_vret C Q P h dd_Md_isGone_21
theorem dd_Md_gone_0 : pj_d cX11_gone 0 (.aload_n 0) 1 1 := ⟨by decide +kernel, rfl⟩
theorem dd_Md_gone_1 : pj_d cX11_gone 1 (.iload_n 1) 1 2 := ⟨by decide +kernel, rfl⟩
theorem dd_Md_gone_2 : pj_d cX11_gone 2 (.invokevirtual 63) 3 5 := ⟨by decide +kernel, rfl⟩
theorem dd_Md_gone_5 : pj_dj cX11_gone 5 (.ifCond .eq 15) 15 8 20 := ⟨by decide +kernel, rfl, by decide⟩
theorem dd_Md_gone_8 : pj_d cX11_gone 8 (.aload_n 0) 1 9 := ⟨by decide +kernel, rfl⟩
theorem dd_Md_gone_9 : pj_d cX11_gone 9 (.getfield 7) 3 12 := ⟨by decide +kernel, rfl⟩
theorem dd_Md_gone_12 : pj_d cX11_gone 12 (.bipush 74) 2 14 := ⟨by decide +kernel, rfl⟩
theorem dd_Md_gone_14 : pj_d cX11_gone 14 (.iload_n 1) 1 15 := ⟨by decide +kernel, rfl⟩
theorem dd_Md_gone_15 : pj_d cX11_gone 15 (.iadd) 1 16 := ⟨by decide +kernel, rfl⟩
theorem dd_Md_gone_16 : pj_d cX11_gone 16 (.iaload) 1 17 := ⟨by decide +kernel, rfl⟩
theorem dd_Md_gone_17 : pj_dj cX11_gone 17 (.ifCond .ne 5) 5 20 22 := ⟨by decide +kernel, rfl, by decide⟩
theorem dd_Md_gone_20 : pj_d cX11_gone 20 (.iconst 0) 1 21 := ⟨by decide +kernel, rfl⟩
theorem dd_Md_gone_21 : pj_d cX11_gone 21 (.ireturn) 1 22 := ⟨by decide +kernel, rfl⟩
theorem dd_Md_gone_22 : pj_d cX11_gone 22 (.aload_n 0) 1 23 := ⟨by decide +kernel, rfl⟩
theorem dd_Md_gone_23 : pj_d cX11_gone 23 (.invokevirtual 240) 3 26 := ⟨by decide +kernel, rfl⟩
theorem dd_Md_gone_26 : pj_d cX11_gone 26 (.aload_n 0) 1 27 := ⟨by decide +kernel, rfl⟩
theorem dd_Md_gone_27 : pj_d cX11_gone 27 (.iload_n 1) 1 28 := ⟨by decide +kernel, rfl⟩
theorem dd_Md_gone_28 : pj_d cX11_gone 28 (.iconst 0) 1 29 := ⟨by decide +kernel, rfl⟩
theorem dd_Md_gone_29 : pj_d cX11_gone 29 (.invokevirtual 243) 3 32 := ⟨by decide +kernel, rfl⟩
theorem dd_Md_gone_32 : pj_d cX11_gone 32 (.iconst 1) 1 33 := ⟨by decide +kernel, rfl⟩
theorem dd_Md_gone_33 : pj_d cX11_gone 33 (.ireturn) 1 34 := ⟨by decide +kernel, rfl⟩
set_option maxHeartbeats 4000000 in
set_option maxRecDepth 100000 in
theorem ct_Md_gone {l : Launch} {B : pj_B} (hB : B.2.2.2.1 = pj_LM) {v1 : Int32} {z : pj_S} {r0 : Int32} {z0 : pj_S} (h : Md_gone v1 z = some (r0, z0)) : pj_Mi l yX11_gone cX11_gone 2 (some .boolean) 3 [.ref (B.2.1 0), .int v1] B z r0 z0 := by
  refine pj_meti (own := RX11) (by decide +kernel) rfl (Nat.le_of_ble_eq_true rfl) ?_
  intro A K hK C Q H lo ls P hl
  have hl : lv_has ls 2 [(0, .ref (B.2.1 0)), (1, .int v1)] := hl
  unfold Md_gone at h
  refine pj_aload_n C dd_Md_gone_0 rfl hl 0 rfl ?_
  refine pj_iload_n C dd_Md_gone_1 rfl hl 1 rfl ?_
  obtain ⟨r3, z2, e1, h⟩ := pj_cE h
  refine pj_cVi (st := []) [.int v1] C P 0 (LM0 hB) rfl (ct_Md_isStitch hB e1) cl_Md_63 rfl (by decide) (by decide) hl.1 (Nat.le_of_ble_eq_true rfl) dd_Md_gone_2 (fun H lo P => ?_)
  refine pj_if_eq C h dd_Md_gone_5 (fun h => ?_) (fun h => ?_)
  · refine pj_iconst (v := (nI 0)) C dd_Md_gone_20 rfl ?_
    exact pj_zret C Q P h dd_Md_gone_21
  · refine pj_aload_n C dd_Md_gone_8 rfl hl 0 rfl ?_
    refine pj_getR C P 0 (LM0 hB) rfl fl_Md_7 dd_Md_gone_9 ?_
    refine pj_bipush (v := (nI 74)) C dd_Md_gone_12 rfl ?_
    refine pj_iload_n C dd_Md_gone_14 rfl hl 1 rfl ?_
    refine pj_iadd C dd_Md_gone_15 ?_
    refine pj_iald C P 1 (LM1 hB) h dd_Md_gone_16 (fun h => ?_)
    refine pj_if_ne C h dd_Md_gone_17 (fun h => ?_) (fun h => ?_)
    · refine pj_aload_n C dd_Md_gone_22 rfl hl 0 rfl ?_
      obtain ⟨r6, z5, e4, h⟩ := pj_cE h
      refine pj_cVv (st := []) [] C P 0 (LM0 hB) rfl (ct_Md_keeps hB e4) cl_Md_240 rfl (by decide) (by decide) hl.1 (Nat.le_of_ble_eq_true rfl) dd_Md_gone_23 (fun H lo P => ?_)
      refine pj_aload_n C dd_Md_gone_26 rfl hl 0 rfl ?_
      refine pj_iload_n C dd_Md_gone_27 rfl hl 1 rfl ?_
      refine pj_iconst (v := (nI 0)) C dd_Md_gone_28 rfl ?_
      obtain ⟨r9, z8, e7, h⟩ := pj_cE h
      refine pj_cVv (st := []) [.int v1, .int (nI 0)] C P 0 (LM0 hB) rfl (ct_Md_isGone hB e7) cl_Md_243 rfl (by decide) (by decide) hl.1 (Nat.le_of_ble_eq_true rfl) dd_Md_gone_29 (fun H lo P => ?_)
      refine pj_iconst (v := (nI 1)) C dd_Md_gone_32 rfl ?_
      exact pj_zret C Q P h dd_Md_gone_33
    · refine pj_iconst (v := (nI 0)) C dd_Md_gone_20 rfl ?_
      exact pj_zret C Q P h dd_Md_gone_21
theorem dd_Md_cut_0 : pj_d cX11_cut 0 (.iload_n 1) 1 1 := ⟨by decide +kernel, rfl⟩
theorem dd_Md_cut_1 : pj_d cX11_cut 1 (.iconst 0) 1 2 := ⟨by decide +kernel, rfl⟩
theorem dd_Md_cut_2 : pj_d cX11_cut 2 (.aload_n 0) 1 3 := ⟨by decide +kernel, rfl⟩
theorem dd_Md_cut_3 : pj_d cX11_cut 3 (.getfield 7) 3 6 := ⟨by decide +kernel, rfl⟩
theorem dd_Md_cut_6 : pj_d cX11_cut 6 (.iconst 0) 1 7 := ⟨by decide +kernel, rfl⟩
theorem dd_Md_cut_7 : pj_d cX11_cut 7 (.iaload) 1 8 := ⟨by decide +kernel, rfl⟩
theorem dd_Md_cut_8 : pj_d cX11_cut 8 (.aload_n 0) 1 9 := ⟨by decide +kernel, rfl⟩
theorem dd_Md_cut_9 : pj_d cX11_cut 9 (.getfield 7) 3 12 := ⟨by decide +kernel, rfl⟩
theorem dd_Md_cut_12 : pj_d cX11_cut 12 (.iconst 1) 1 13 := ⟨by decide +kernel, rfl⟩
theorem dd_Md_cut_13 : pj_d cX11_cut 13 (.iaload) 1 14 := ⟨by decide +kernel, rfl⟩
theorem dd_Md_cut_14 : pj_d cX11_cut 14 (.imul) 1 15 := ⟨by decide +kernel, rfl⟩
theorem dd_Md_cut_15 : pj_d cX11_cut 15 (.iconst 2) 1 16 := ⟨by decide +kernel, rfl⟩
theorem dd_Md_cut_16 : pj_d cX11_cut 16 (.isub) 1 17 := ⟨by decide +kernel, rfl⟩
theorem dd_Md_cut_17 : pj_d cX11_cut 17 (.invokestatic 70) 3 20 := ⟨by decide +kernel, rfl⟩
theorem dd_Md_cut_20 : pj_dj cX11_cut 20 (.ifCond .eq 17) 17 23 37 := ⟨by decide +kernel, rfl, by decide⟩
theorem dd_Md_cut_23 : pj_d cX11_cut 23 (.aload_n 0) 1 24 := ⟨by decide +kernel, rfl⟩
theorem dd_Md_cut_24 : pj_d cX11_cut 24 (.getfield 7) 3 27 := ⟨by decide +kernel, rfl⟩
theorem dd_Md_cut_27 : pj_d cX11_cut 27 (.sipush 202) 3 30 := ⟨by decide +kernel, rfl⟩
theorem dd_Md_cut_30 : pj_d cX11_cut 30 (.iload_n 1) 1 31 := ⟨by decide +kernel, rfl⟩
theorem dd_Md_cut_31 : pj_d cX11_cut 31 (.iadd) 1 32 := ⟨by decide +kernel, rfl⟩
theorem dd_Md_cut_32 : pj_d cX11_cut 32 (.iaload) 1 33 := ⟨by decide +kernel, rfl⟩
theorem dd_Md_cut_33 : pj_d cX11_cut 33 (.iconst 1) 1 34 := ⟨by decide +kernel, rfl⟩
theorem dd_Md_cut_34 : pj_dj cX11_cut 34 (.if_icmp .ne 5) 5 37 39 := ⟨by decide +kernel, rfl, by decide⟩
theorem dd_Md_cut_37 : pj_d cX11_cut 37 (.iconst 0) 1 38 := ⟨by decide +kernel, rfl⟩
theorem dd_Md_cut_38 : pj_d cX11_cut 38 (.ireturn) 1 39 := ⟨by decide +kernel, rfl⟩
theorem dd_Md_cut_39 : pj_d cX11_cut 39 (.aload_n 0) 1 40 := ⟨by decide +kernel, rfl⟩
theorem dd_Md_cut_40 : pj_d cX11_cut 40 (.invokevirtual 240) 3 43 := ⟨by decide +kernel, rfl⟩
theorem dd_Md_cut_43 : pj_d cX11_cut 43 (.aload_n 0) 1 44 := ⟨by decide +kernel, rfl⟩
theorem dd_Md_cut_44 : pj_d cX11_cut 44 (.getfield 7) 3 47 := ⟨by decide +kernel, rfl⟩
theorem dd_Md_cut_47 : pj_d cX11_cut 47 (.sipush 202) 3 50 := ⟨by decide +kernel, rfl⟩
theorem dd_Md_cut_50 : pj_d cX11_cut 50 (.iload_n 1) 1 51 := ⟨by decide +kernel, rfl⟩
theorem dd_Md_cut_51 : pj_d cX11_cut 51 (.iadd) 1 52 := ⟨by decide +kernel, rfl⟩
theorem dd_Md_cut_52 : pj_d cX11_cut 52 (.iconst 1) 1 53 := ⟨by decide +kernel, rfl⟩
theorem dd_Md_cut_53 : pj_d cX11_cut 53 (.iastore) 1 54 := ⟨by decide +kernel, rfl⟩
theorem dd_Md_cut_54 : pj_d cX11_cut 54 (.iconst 1) 1 55 := ⟨by decide +kernel, rfl⟩
theorem dd_Md_cut_55 : pj_d cX11_cut 55 (.ireturn) 1 56 := ⟨by decide +kernel, rfl⟩
set_option maxHeartbeats 4000000 in
set_option maxRecDepth 100000 in
theorem ct_Md_cut {l : Launch} {B : pj_B} (hB : B.2.2.2.1 = pj_LM) {v1 : Int32} {z : pj_S} {r0 : Int32} {z0 : pj_S} (h : Md_cut v1 z = some (r0, z0)) : pj_Mi l yX11_cut cX11_cut 2 (some .boolean) 2 [.ref (B.2.1 0), .int v1] B z r0 z0 := by
  refine pj_meti (own := RX11) (by decide +kernel) rfl (Nat.le_of_ble_eq_true rfl) ?_
  intro A K hK C Q H lo ls P hl
  have hl : lv_has ls 2 [(0, .ref (B.2.1 0)), (1, .int v1)] := hl
  unfold Md_cut at h
  refine pj_iload_n C dd_Md_cut_0 rfl hl 1 rfl ?_
  refine pj_iconst (v := (nI 0)) C dd_Md_cut_1 rfl ?_
  refine pj_aload_n C dd_Md_cut_2 rfl hl 0 rfl ?_
  refine pj_getR C P 0 (LM0 hB) rfl fl_Md_7 dd_Md_cut_3 ?_
  refine pj_iconst (v := (nI 0)) C dd_Md_cut_6 rfl ?_
  refine pj_iald C P 1 (LM1 hB) h dd_Md_cut_7 (fun h => ?_)
  refine pj_aload_n C dd_Md_cut_8 rfl hl 0 rfl ?_
  refine pj_getR C P 0 (LM0 hB) rfl fl_Md_7 dd_Md_cut_9 ?_
  refine pj_iconst (v := (nI 1)) C dd_Md_cut_12 rfl ?_
  refine pj_iald C P 1 (LM1 hB) h dd_Md_cut_13 (fun h => ?_)
  refine pj_imul C dd_Md_cut_14 ?_
  refine pj_iconst (v := (nI 2)) C dd_Md_cut_15 rfl ?_
  refine pj_isub C dd_Md_cut_16 ?_
  obtain ⟨r3, z2, e1, h⟩ := pj_cE h
  refine pj_cSi (st := []) [.int v1, .int (nI 0), .int (((z.1 1 (Int32.toNatClampNeg (nI 0))) * (z.1 1 (Int32.toNatClampNeg (nI 1)))) - (nI 2))] C P (ct_Md_isInM hB e1) cl_Md_70 rfl (by decide) (by decide) hl.1 (Nat.le_of_ble_eq_true rfl) dd_Md_cut_17 (fun H lo P => ?_)
  refine pj_if_eq C h dd_Md_cut_20 (fun h => ?_) (fun h => ?_)
  · refine pj_iconst (v := (nI 0)) C dd_Md_cut_37 rfl ?_
    exact pj_zret C Q P h dd_Md_cut_38
  · refine pj_aload_n C dd_Md_cut_23 rfl hl 0 rfl ?_
    refine pj_getR C P 0 (LM0 hB) rfl fl_Md_7 dd_Md_cut_24 ?_
    refine pj_sipush (v := (nI 202)) C dd_Md_cut_27 rfl ?_
    refine pj_iload_n C dd_Md_cut_30 rfl hl 1 rfl ?_
    refine pj_iadd C dd_Md_cut_31 ?_
    refine pj_iald C P 1 (LM1 hB) h dd_Md_cut_32 (fun h => ?_)
    refine pj_iconst (v := (nI 1)) C dd_Md_cut_33 rfl ?_
    refine pj_ic_ne C h dd_Md_cut_34 (fun h => ?_) (fun h => ?_)
    · refine pj_aload_n C dd_Md_cut_39 rfl hl 0 rfl ?_
      obtain ⟨r6, z5, e4, h⟩ := pj_cE h
      refine pj_cVv (st := []) [] C P 0 (LM0 hB) rfl (ct_Md_keeps hB e4) cl_Md_240 rfl (by decide) (by decide) hl.1 (Nat.le_of_ble_eq_true rfl) dd_Md_cut_40 (fun H lo P => ?_)
      refine pj_aload_n C dd_Md_cut_43 rfl hl 0 rfl ?_
      refine pj_getR C P 0 (LM0 hB) rfl fl_Md_7 dd_Md_cut_44 ?_
      refine pj_sipush (v := (nI 202)) C dd_Md_cut_47 rfl ?_
      refine pj_iload_n C dd_Md_cut_50 rfl hl 1 rfl ?_
      refine pj_iadd C dd_Md_cut_51 ?_
      refine pj_iconst (v := (nI 1)) C dd_Md_cut_52 rfl ?_
      refine pj_iast C P 1 (LM1 hB) h dd_Md_cut_53 (fun H lo z7 h P => ?_)
      refine pj_iconst (v := (nI 1)) C dd_Md_cut_54 rfl ?_
      exact pj_zret C Q P h dd_Md_cut_55
    · refine pj_iconst (v := (nI 0)) C dd_Md_cut_37 rfl ?_
      exact pj_zret C Q P h dd_Md_cut_38
theorem dd_Md_isPlace_0 : pj_d cX11_isPlace 0 (.iload_n 1) 1 1 := ⟨by decide +kernel, rfl⟩
theorem dd_Md_isPlace_1 : pj_d cX11_isPlace 1 (.iconst 0) 1 2 := ⟨by decide +kernel, rfl⟩
theorem dd_Md_isPlace_2 : pj_d cX11_isPlace 2 (.aload_n 0) 1 3 := ⟨by decide +kernel, rfl⟩
theorem dd_Md_isPlace_3 : pj_d cX11_isPlace 3 (.getfield 7) 3 6 := ⟨by decide +kernel, rfl⟩
theorem dd_Md_isPlace_6 : pj_d cX11_isPlace 6 (.iconst 0) 1 7 := ⟨by decide +kernel, rfl⟩
theorem dd_Md_isPlace_7 : pj_d cX11_isPlace 7 (.iaload) 1 8 := ⟨by decide +kernel, rfl⟩
theorem dd_Md_isPlace_8 : pj_d cX11_isPlace 8 (.aload_n 0) 1 9 := ⟨by decide +kernel, rfl⟩
theorem dd_Md_isPlace_9 : pj_d cX11_isPlace 9 (.getfield 7) 3 12 := ⟨by decide +kernel, rfl⟩
theorem dd_Md_isPlace_12 : pj_d cX11_isPlace 12 (.iconst 1) 1 13 := ⟨by decide +kernel, rfl⟩
theorem dd_Md_isPlace_13 : pj_d cX11_isPlace 13 (.iaload) 1 14 := ⟨by decide +kernel, rfl⟩
theorem dd_Md_isPlace_14 : pj_d cX11_isPlace 14 (.imul) 1 15 := ⟨by decide +kernel, rfl⟩
theorem dd_Md_isPlace_15 : pj_d cX11_isPlace 15 (.iconst 1) 1 16 := ⟨by decide +kernel, rfl⟩
theorem dd_Md_isPlace_16 : pj_d cX11_isPlace 16 (.isub) 1 17 := ⟨by decide +kernel, rfl⟩
theorem dd_Md_isPlace_17 : pj_d cX11_isPlace 17 (.invokestatic 70) 3 20 := ⟨by decide +kernel, rfl⟩
theorem dd_Md_isPlace_20 : pj_d cX11_isPlace 20 (.ireturn) 1 21 := ⟨by decide +kernel, rfl⟩
set_option maxHeartbeats 4000000 in
set_option maxRecDepth 100000 in
theorem ct_Md_isPlace {l : Launch} {B : pj_B} (hB : B.2.2.2.1 = pj_LM) {v1 : Int32} {z : pj_S} {r0 : Int32} {z0 : pj_S} (h : Md_isPlace v1 z = some (r0, z0)) : pj_Mi l yX11_isPlace cX11_isPlace 2 (some .boolean) 2 [.ref (B.2.1 0), .int v1] B z r0 z0 := by
  refine pj_meti (own := RX11) (by decide +kernel) rfl (Nat.le_of_ble_eq_true rfl) ?_
  intro A K hK C Q H lo ls P hl
  have hl : lv_has ls 2 [(0, .ref (B.2.1 0)), (1, .int v1)] := hl
  unfold Md_isPlace at h
  refine pj_iload_n C dd_Md_isPlace_0 rfl hl 1 rfl ?_
  refine pj_iconst (v := (nI 0)) C dd_Md_isPlace_1 rfl ?_
  refine pj_aload_n C dd_Md_isPlace_2 rfl hl 0 rfl ?_
  refine pj_getR C P 0 (LM0 hB) rfl fl_Md_7 dd_Md_isPlace_3 ?_
  refine pj_iconst (v := (nI 0)) C dd_Md_isPlace_6 rfl ?_
  refine pj_iald C P 1 (LM1 hB) h dd_Md_isPlace_7 (fun h => ?_)
  refine pj_aload_n C dd_Md_isPlace_8 rfl hl 0 rfl ?_
  refine pj_getR C P 0 (LM0 hB) rfl fl_Md_7 dd_Md_isPlace_9 ?_
  refine pj_iconst (v := (nI 1)) C dd_Md_isPlace_12 rfl ?_
  refine pj_iald C P 1 (LM1 hB) h dd_Md_isPlace_13 (fun h => ?_)
  refine pj_imul C dd_Md_isPlace_14 ?_
  refine pj_iconst (v := (nI 1)) C dd_Md_isPlace_15 rfl ?_
  refine pj_isub C dd_Md_isPlace_16 ?_
  obtain ⟨r3, z2, e1, h⟩ := pj_cE h
  refine pj_cSi (st := []) [.int v1, .int (nI 0), .int (((z.1 1 (Int32.toNatClampNeg (nI 0))) * (z.1 1 (Int32.toNatClampNeg (nI 1)))) - (nI 1))] C P (ct_Md_isInM hB e1) cl_Md_70 rfl (by decide) (by decide) hl.1 (Nat.le_of_ble_eq_true rfl) dd_Md_isPlace_17 (fun H lo P => ?_)
  exact pj_zret C Q P h dd_Md_isPlace_20
theorem dd_Md_isEnd_0 : pj_d cX11_isEnd 0 (.aload_n 0) 1 1 := ⟨by decide +kernel, rfl⟩
theorem dd_Md_isEnd_1 : pj_d cX11_isEnd 1 (.iload_n 1) 1 2 := ⟨by decide +kernel, rfl⟩
theorem dd_Md_isEnd_2 : pj_d cX11_isEnd 2 (.invokevirtual 246) 3 5 := ⟨by decide +kernel, rfl⟩
theorem dd_Md_isEnd_5 : pj_dj cX11_isEnd 5 (.ifCond .eq 12) 12 8 17 := ⟨by decide +kernel, rfl, by decide⟩
theorem dd_Md_isEnd_8 : pj_d cX11_isEnd 8 (.iload_n 2) 1 9 := ⟨by decide +kernel, rfl⟩
theorem dd_Md_isEnd_9 : pj_d cX11_isEnd 9 (.iconst 0) 1 10 := ⟨by decide +kernel, rfl⟩
theorem dd_Md_isEnd_10 : pj_d cX11_isEnd 10 (.iconst 1) 1 11 := ⟨by decide +kernel, rfl⟩
theorem dd_Md_isEnd_11 : pj_d cX11_isEnd 11 (.invokestatic 70) 3 14 := ⟨by decide +kernel, rfl⟩
theorem dd_Md_isEnd_14 : pj_dj cX11_isEnd 14 (.ifCond .ne 5) 5 17 19 := ⟨by decide +kernel, rfl, by decide⟩
theorem dd_Md_isEnd_17 : pj_d cX11_isEnd 17 (.iconst 0) 1 18 := ⟨by decide +kernel, rfl⟩
theorem dd_Md_isEnd_18 : pj_d cX11_isEnd 18 (.ireturn) 1 19 := ⟨by decide +kernel, rfl⟩
theorem dd_Md_isEnd_19 : pj_d cX11_isEnd 19 (.iload_n 2) 1 20 := ⟨by decide +kernel, rfl⟩
theorem dd_Md_isEnd_20 : pj_d cX11_isEnd 20 (.iconst 1) 1 21 := ⟨by decide +kernel, rfl⟩
theorem dd_Md_isEnd_21 : pj_dj cX11_isEnd 21 (.if_icmp .ne 31) 31 24 52 := ⟨by decide +kernel, rfl, by decide⟩
theorem dd_Md_isEnd_24 : pj_d cX11_isEnd 24 (.iload_n 1) 1 25 := ⟨by decide +kernel, rfl⟩
theorem dd_Md_isEnd_25 : pj_dj cX11_isEnd 25 (.ifCond .eq 19) 19 28 44 := ⟨by decide +kernel, rfl, by decide⟩
theorem dd_Md_isEnd_28 : pj_d cX11_isEnd 28 (.aload_n 0) 1 29 := ⟨by decide +kernel, rfl⟩
theorem dd_Md_isEnd_29 : pj_d cX11_isEnd 29 (.getfield 7) 3 32 := ⟨by decide +kernel, rfl⟩
theorem dd_Md_isEnd_32 : pj_d cX11_isEnd 32 (.sipush 202) 3 35 := ⟨by decide +kernel, rfl⟩
theorem dd_Md_isEnd_35 : pj_d cX11_isEnd 35 (.iload_n 1) 1 36 := ⟨by decide +kernel, rfl⟩
theorem dd_Md_isEnd_36 : pj_d cX11_isEnd 36 (.iadd) 1 37 := ⟨by decide +kernel, rfl⟩
theorem dd_Md_isEnd_37 : pj_d cX11_isEnd 37 (.iconst 1) 1 38 := ⟨by decide +kernel, rfl⟩
theorem dd_Md_isEnd_38 : pj_d cX11_isEnd 38 (.isub) 1 39 := ⟨by decide +kernel, rfl⟩
theorem dd_Md_isEnd_39 : pj_d cX11_isEnd 39 (.iaload) 1 40 := ⟨by decide +kernel, rfl⟩
theorem dd_Md_isEnd_40 : pj_d cX11_isEnd 40 (.iconst 1) 1 41 := ⟨by decide +kernel, rfl⟩
theorem dd_Md_isEnd_41 : pj_dj cX11_isEnd 41 (.if_icmp .ne 7) 7 44 48 := ⟨by decide +kernel, rfl, by decide⟩
theorem dd_Md_isEnd_44 : pj_d cX11_isEnd 44 (.iconst 1) 1 45 := ⟨by decide +kernel, rfl⟩
theorem dd_Md_isEnd_45 : pj_dj cX11_isEnd 45 (.goto 45) 45 48 90 := ⟨by decide +kernel, rfl, by decide⟩
theorem dd_Md_isEnd_48 : pj_d cX11_isEnd 48 (.iconst 0) 1 49 := ⟨by decide +kernel, rfl⟩
theorem dd_Md_isEnd_49 : pj_dj cX11_isEnd 49 (.goto 41) 41 52 90 := ⟨by decide +kernel, rfl, by decide⟩
theorem dd_Md_isEnd_52 : pj_d cX11_isEnd 52 (.iload_n 1) 1 53 := ⟨by decide +kernel, rfl⟩
theorem dd_Md_isEnd_53 : pj_d cX11_isEnd 53 (.aload_n 0) 1 54 := ⟨by decide +kernel, rfl⟩
theorem dd_Md_isEnd_54 : pj_d cX11_isEnd 54 (.getfield 7) 3 57 := ⟨by decide +kernel, rfl⟩
theorem dd_Md_isEnd_57 : pj_d cX11_isEnd 57 (.iconst 0) 1 58 := ⟨by decide +kernel, rfl⟩
theorem dd_Md_isEnd_58 : pj_d cX11_isEnd 58 (.iaload) 1 59 := ⟨by decide +kernel, rfl⟩
theorem dd_Md_isEnd_59 : pj_d cX11_isEnd 59 (.aload_n 0) 1 60 := ⟨by decide +kernel, rfl⟩
theorem dd_Md_isEnd_60 : pj_d cX11_isEnd 60 (.getfield 7) 3 63 := ⟨by decide +kernel, rfl⟩
theorem dd_Md_isEnd_63 : pj_d cX11_isEnd 63 (.iconst 1) 1 64 := ⟨by decide +kernel, rfl⟩
theorem dd_Md_isEnd_64 : pj_d cX11_isEnd 64 (.iaload) 1 65 := ⟨by decide +kernel, rfl⟩
theorem dd_Md_isEnd_65 : pj_d cX11_isEnd 65 (.imul) 1 66 := ⟨by decide +kernel, rfl⟩
theorem dd_Md_isEnd_66 : pj_d cX11_isEnd 66 (.iconst 1) 1 67 := ⟨by decide +kernel, rfl⟩
theorem dd_Md_isEnd_67 : pj_d cX11_isEnd 67 (.isub) 1 68 := ⟨by decide +kernel, rfl⟩
theorem dd_Md_isEnd_68 : pj_dj cX11_isEnd 68 (.if_icmp .eq 17) 17 71 85 := ⟨by decide +kernel, rfl, by decide⟩
theorem dd_Md_isEnd_71 : pj_d cX11_isEnd 71 (.aload_n 0) 1 72 := ⟨by decide +kernel, rfl⟩
theorem dd_Md_isEnd_72 : pj_d cX11_isEnd 72 (.getfield 7) 3 75 := ⟨by decide +kernel, rfl⟩
theorem dd_Md_isEnd_75 : pj_d cX11_isEnd 75 (.sipush 202) 3 78 := ⟨by decide +kernel, rfl⟩
theorem dd_Md_isEnd_78 : pj_d cX11_isEnd 78 (.iload_n 1) 1 79 := ⟨by decide +kernel, rfl⟩
theorem dd_Md_isEnd_79 : pj_d cX11_isEnd 79 (.iadd) 1 80 := ⟨by decide +kernel, rfl⟩
theorem dd_Md_isEnd_80 : pj_d cX11_isEnd 80 (.iaload) 1 81 := ⟨by decide +kernel, rfl⟩
theorem dd_Md_isEnd_81 : pj_d cX11_isEnd 81 (.iconst 1) 1 82 := ⟨by decide +kernel, rfl⟩
theorem dd_Md_isEnd_82 : pj_dj cX11_isEnd 82 (.if_icmp .ne 7) 7 85 89 := ⟨by decide +kernel, rfl, by decide⟩
theorem dd_Md_isEnd_85 : pj_d cX11_isEnd 85 (.iconst 1) 1 86 := ⟨by decide +kernel, rfl⟩
theorem dd_Md_isEnd_86 : pj_dj cX11_isEnd 86 (.goto 4) 4 89 90 := ⟨by decide +kernel, rfl, by decide⟩
theorem dd_Md_isEnd_89 : pj_d cX11_isEnd 89 (.iconst 0) 1 90 := ⟨by decide +kernel, rfl⟩
theorem dd_Md_isEnd_90 : pj_d cX11_isEnd 90 (.ireturn) 1 91 := ⟨by decide +kernel, rfl⟩
set_option maxHeartbeats 4000000 in
set_option maxRecDepth 100000 in
theorem bt_Md_isEnd_44 {B : pj_B} {A : Nat → Prop} {K : pj_K} {r0 : Int32} {z0 : pj_S} (hB : B.2.2.2.1 = pj_LM) (C : pj_C B A K cX11_isEnd 3 RX11 3) (Q : pj_Qi B A K (some .boolean) r0 z0)   (z : pj_S) (H : Heap) (lo : List Loc) (ls : Array Slot) (h : Md_isEnd_44 z = some (r0, z0)) (P : pj_P B A K z H lo) (hl : lv_has ls 3 []) : pj_W K H lo 44 ls [] := by
  unfold Md_isEnd_44 at h
  refine pj_iconst (v := (nI 1)) C dd_Md_isEnd_44 rfl ?_
  refine pj_goto C dd_Md_isEnd_45 ?_
  exact pj_zret C Q P h dd_Md_isEnd_90
set_option maxHeartbeats 4000000 in
set_option maxRecDepth 100000 in
theorem bt_Md_isEnd_85 {B : pj_B} {A : Nat → Prop} {K : pj_K} {r0 : Int32} {z0 : pj_S} (hB : B.2.2.2.1 = pj_LM) (C : pj_C B A K cX11_isEnd 3 RX11 3) (Q : pj_Qi B A K (some .boolean) r0 z0)   (z : pj_S) (H : Heap) (lo : List Loc) (ls : Array Slot) (h : Md_isEnd_85 z = some (r0, z0)) (P : pj_P B A K z H lo) (hl : lv_has ls 3 []) : pj_W K H lo 85 ls [] := by
  unfold Md_isEnd_85 at h
  refine pj_iconst (v := (nI 1)) C dd_Md_isEnd_85 rfl ?_
  refine pj_goto C dd_Md_isEnd_86 ?_
  exact pj_zret C Q P h dd_Md_isEnd_90
set_option maxHeartbeats 4000000 in
set_option maxRecDepth 100000 in
theorem ct_Md_isEnd {l : Launch} {B : pj_B} (hB : B.2.2.2.1 = pj_LM) {v1 : Int32} {v2 : Int32} {z : pj_S} {r0 : Int32} {z0 : pj_S} (h : Md_isEnd v1 v2 z = some (r0, z0)) : pj_Mi l yX11_isEnd cX11_isEnd 3 (some .boolean) 3 [.ref (B.2.1 0), .int v1, .int v2] B z r0 z0 := by
  refine pj_meti (own := RX11) (by decide +kernel) rfl (Nat.le_of_ble_eq_true rfl) ?_
  intro A K hK C Q H lo ls P hl
  have hl : lv_has ls 3 [(0, .ref (B.2.1 0)), (1, .int v1), (2, .int v2)] := hl
  unfold Md_isEnd at h
  refine pj_aload_n C dd_Md_isEnd_0 rfl hl 0 rfl ?_
  refine pj_iload_n C dd_Md_isEnd_1 rfl hl 1 rfl ?_
  obtain ⟨r3, z2, e1, h⟩ := pj_cE h
  refine pj_cVi (st := []) [.int v1] C P 0 (LM0 hB) rfl (ct_Md_isPlace hB e1) cl_Md_246 rfl (by decide) (by decide) hl.1 (Nat.le_of_ble_eq_true rfl) dd_Md_isEnd_2 (fun H lo P => ?_)
  refine pj_if_eq C h dd_Md_isEnd_5 (fun h => ?_) (fun h => ?_)
  · refine pj_iconst (v := (nI 0)) C dd_Md_isEnd_17 rfl ?_
    exact pj_zret C Q P h dd_Md_isEnd_18
  · refine pj_iload_n C dd_Md_isEnd_8 rfl hl 2 rfl ?_
    refine pj_iconst (v := (nI 0)) C dd_Md_isEnd_9 rfl ?_
    refine pj_iconst (v := (nI 1)) C dd_Md_isEnd_10 rfl ?_
    obtain ⟨r6, z5, e4, h⟩ := pj_cE h
    refine pj_cSi (st := []) [.int v2, .int (nI 0), .int (nI 1)] C P (ct_Md_isInM hB e4) cl_Md_70 rfl (by decide) (by decide) hl.1 (Nat.le_of_ble_eq_true rfl) dd_Md_isEnd_11 (fun H lo P => ?_)
    refine pj_if_ne C h dd_Md_isEnd_14 (fun h => ?_) (fun h => ?_)
    · refine pj_iload_n C dd_Md_isEnd_19 rfl hl 2 rfl ?_
      refine pj_iconst (v := (nI 1)) C dd_Md_isEnd_20 rfl ?_
      refine pj_ic_ne C h dd_Md_isEnd_21 (fun h => ?_) (fun h => ?_)
      · refine pj_iload_n C dd_Md_isEnd_52 rfl hl 1 rfl ?_
        refine pj_aload_n C dd_Md_isEnd_53 rfl hl 0 rfl ?_
        refine pj_getR C P 0 (LM0 hB) rfl fl_Md_7 dd_Md_isEnd_54 ?_
        refine pj_iconst (v := (nI 0)) C dd_Md_isEnd_57 rfl ?_
        refine pj_iald C P 1 (LM1 hB) h dd_Md_isEnd_58 (fun h => ?_)
        refine pj_aload_n C dd_Md_isEnd_59 rfl hl 0 rfl ?_
        refine pj_getR C P 0 (LM0 hB) rfl fl_Md_7 dd_Md_isEnd_60 ?_
        refine pj_iconst (v := (nI 1)) C dd_Md_isEnd_63 rfl ?_
        refine pj_iald C P 1 (LM1 hB) h dd_Md_isEnd_64 (fun h => ?_)
        refine pj_imul C dd_Md_isEnd_65 ?_
        refine pj_iconst (v := (nI 1)) C dd_Md_isEnd_66 rfl ?_
        refine pj_isub C dd_Md_isEnd_67 ?_
        refine pj_ic_eq C h dd_Md_isEnd_68 (fun h => ?_) (fun h => ?_)
        · exact bt_Md_isEnd_85 hB C Q _ _ _ _ h P (lv_sub hl [] rfl)
        · refine pj_aload_n C dd_Md_isEnd_71 rfl hl 0 rfl ?_
          refine pj_getR C P 0 (LM0 hB) rfl fl_Md_7 dd_Md_isEnd_72 ?_
          refine pj_sipush (v := (nI 202)) C dd_Md_isEnd_75 rfl ?_
          refine pj_iload_n C dd_Md_isEnd_78 rfl hl 1 rfl ?_
          refine pj_iadd C dd_Md_isEnd_79 ?_
          refine pj_iald C P 1 (LM1 hB) h dd_Md_isEnd_80 (fun h => ?_)
          refine pj_iconst (v := (nI 1)) C dd_Md_isEnd_81 rfl ?_
          refine pj_ic_ne C h dd_Md_isEnd_82 (fun h => ?_) (fun h => ?_)
          · refine pj_iconst (v := (nI 0)) C dd_Md_isEnd_89 rfl ?_
            exact pj_zret C Q P h dd_Md_isEnd_90
          · exact bt_Md_isEnd_85 hB C Q _ _ _ _ h P (lv_sub hl [] rfl)
      · refine pj_iload_n C dd_Md_isEnd_24 rfl hl 1 rfl ?_
        refine pj_if_eq C h dd_Md_isEnd_25 (fun h => ?_) (fun h => ?_)
        · exact bt_Md_isEnd_44 hB C Q _ _ _ _ h P (lv_sub hl [] rfl)
        · refine pj_aload_n C dd_Md_isEnd_28 rfl hl 0 rfl ?_
          refine pj_getR C P 0 (LM0 hB) rfl fl_Md_7 dd_Md_isEnd_29 ?_
          refine pj_sipush (v := (nI 202)) C dd_Md_isEnd_32 rfl ?_
          refine pj_iload_n C dd_Md_isEnd_35 rfl hl 1 rfl ?_
          refine pj_iadd C dd_Md_isEnd_36 ?_
          refine pj_iconst (v := (nI 1)) C dd_Md_isEnd_37 rfl ?_
          refine pj_isub C dd_Md_isEnd_38 ?_
          refine pj_iald C P 1 (LM1 hB) h dd_Md_isEnd_39 (fun h => ?_)
          refine pj_iconst (v := (nI 1)) C dd_Md_isEnd_40 rfl ?_
          refine pj_ic_ne C h dd_Md_isEnd_41 (fun h => ?_) (fun h => ?_)
          · refine pj_iconst (v := (nI 0)) C dd_Md_isEnd_48 rfl ?_
            refine pj_goto C dd_Md_isEnd_49 ?_
            exact pj_zret C Q P h dd_Md_isEnd_90
          · exact bt_Md_isEnd_44 hB C Q _ _ _ _ h P (lv_sub hl [] rfl)
    · refine pj_iconst (v := (nI 0)) C dd_Md_isEnd_17 rfl ?_
      exact pj_zret C Q P h dd_Md_isEnd_18
theorem dd_Md_laysNow_0 : pj_d cX11_laysNow 0 (.iconst 0) 1 1 := ⟨by decide +kernel, rfl⟩
theorem dd_Md_laysNow_1 : pj_d cX11_laysNow 1 (.istore_n 1) 1 2 := ⟨by decide +kernel, rfl⟩
theorem dd_Md_laysNow_2 : pj_d cX11_laysNow 2 (.iload_n 1) 1 3 := ⟨by decide +kernel, rfl⟩
theorem dd_Md_laysNow_3 : pj_d cX11_laysNow 3 (.bipush 64) 2 5 := ⟨by decide +kernel, rfl⟩
theorem dd_Md_laysNow_5 : pj_dj cX11_laysNow 5 (.if_icmp .ge 40) 40 8 45 := ⟨by decide +kernel, rfl, by decide⟩
theorem dd_Md_laysNow_8 : pj_d cX11_laysNow 8 (.aload_n 0) 1 9 := ⟨by decide +kernel, rfl⟩
theorem dd_Md_laysNow_9 : pj_d cX11_laysNow 9 (.getfield 38) 3 12 := ⟨by decide +kernel, rfl⟩
theorem dd_Md_laysNow_12 : pj_d cX11_laysNow 12 (.iload_n 1) 1 13 := ⟨by decide +kernel, rfl⟩
theorem dd_Md_laysNow_13 : pj_d cX11_laysNow 13 (.aload_n 0) 1 14 := ⟨by decide +kernel, rfl⟩
theorem dd_Md_laysNow_14 : pj_d cX11_laysNow 14 (.getfield 7) 3 17 := ⟨by decide +kernel, rfl⟩
theorem dd_Md_laysNow_17 : pj_d cX11_laysNow 17 (.bipush 74) 2 19 := ⟨by decide +kernel, rfl⟩
theorem dd_Md_laysNow_19 : pj_d cX11_laysNow 19 (.iload_n 1) 1 20 := ⟨by decide +kernel, rfl⟩
theorem dd_Md_laysNow_20 : pj_d cX11_laysNow 20 (.iadd) 1 21 := ⟨by decide +kernel, rfl⟩
theorem dd_Md_laysNow_21 : pj_d cX11_laysNow 21 (.iaload) 1 22 := ⟨by decide +kernel, rfl⟩
theorem dd_Md_laysNow_22 : pj_d cX11_laysNow 22 (.iastore) 1 23 := ⟨by decide +kernel, rfl⟩
theorem dd_Md_laysNow_23 : pj_d cX11_laysNow 23 (.aload_n 0) 1 24 := ⟨by decide +kernel, rfl⟩
theorem dd_Md_laysNow_24 : pj_d cX11_laysNow 24 (.getfield 41) 3 27 := ⟨by decide +kernel, rfl⟩
theorem dd_Md_laysNow_27 : pj_d cX11_laysNow 27 (.iload_n 1) 1 28 := ⟨by decide +kernel, rfl⟩
theorem dd_Md_laysNow_28 : pj_d cX11_laysNow 28 (.aload_n 0) 1 29 := ⟨by decide +kernel, rfl⟩
theorem dd_Md_laysNow_29 : pj_d cX11_laysNow 29 (.getfield 7) 3 32 := ⟨by decide +kernel, rfl⟩
theorem dd_Md_laysNow_32 : pj_d cX11_laysNow 32 (.sipush 138) 3 35 := ⟨by decide +kernel, rfl⟩
theorem dd_Md_laysNow_35 : pj_d cX11_laysNow 35 (.iload_n 1) 1 36 := ⟨by decide +kernel, rfl⟩
theorem dd_Md_laysNow_36 : pj_d cX11_laysNow 36 (.iadd) 1 37 := ⟨by decide +kernel, rfl⟩
theorem dd_Md_laysNow_37 : pj_d cX11_laysNow 37 (.iaload) 1 38 := ⟨by decide +kernel, rfl⟩
theorem dd_Md_laysNow_38 : pj_d cX11_laysNow 38 (.iastore) 1 39 := ⟨by decide +kernel, rfl⟩
theorem dd_Md_laysNow_39 : pj_d cX11_laysNow 39 (.iinc 1 1) 3 42 := ⟨by decide +kernel, rfl⟩
theorem dd_Md_laysNow_42 : pj_dj cX11_laysNow 42 (.goto (-40)) (-40) 45 2 := ⟨by decide +kernel, rfl, by decide⟩
theorem dd_Md_laysNow_45 : pj_d cX11_laysNow 45 (.return_) 1 46 := ⟨by decide +kernel, rfl⟩
set_option maxHeartbeats 4000000 in
set_option maxRecDepth 100000 in
theorem bt_Md_laysNow_2 {B : pj_B} {A : Nat → Prop} {K : pj_K} {r0 : Unit} {z0 : pj_S} (hB : B.2.2.2.1 = pj_LM) (C : pj_C B A K cX11_laysNow 2 RX11 1) (Q : pj_Qv B A K none r0 z0) (s2 : Int32 → pj_S → Option (Unit × pj_S)) (k2 : ∀ (v1 : Int32) (z : pj_S) (H : Heap) (lo : List Loc) (ls : Array Slot), s2 v1 z = some (r0, z0) → pj_P B A K z H lo → lv_has ls 2 [(0, .ref (B.2.1 0)), (1, .int v1)] → pj_W K H lo 2 ls []) (v1 : Int32) (z : pj_S) (H : Heap) (lo : List Loc) (ls : Array Slot) (h : Md_laysNow_2 s2 v1 z = some (r0, z0)) (P : pj_P B A K z H lo) (hl : lv_has ls 2 [(0, .ref (B.2.1 0)), (1, .int v1)]) : pj_W K H lo 2 ls [] := by
  unfold Md_laysNow_2 at h
  refine pj_iload_n C dd_Md_laysNow_2 rfl hl 1 rfl ?_
  refine pj_bipush (v := (nI 64)) C dd_Md_laysNow_3 rfl ?_
  refine pj_ic_ge C h dd_Md_laysNow_5 (fun h => ?_) (fun h => ?_)
  · exact pj_vret C Q P h dd_Md_laysNow_45
  · refine pj_aload_n C dd_Md_laysNow_8 rfl hl 0 rfl ?_
    refine pj_getR C P 0 (LM0 hB) rfl fl_Md_38 dd_Md_laysNow_9 ?_
    refine pj_iload_n C dd_Md_laysNow_12 rfl hl 1 rfl ?_
    refine pj_aload_n C dd_Md_laysNow_13 rfl hl 0 rfl ?_
    refine pj_getR C P 0 (LM0 hB) rfl fl_Md_7 dd_Md_laysNow_14 ?_
    refine pj_bipush (v := (nI 74)) C dd_Md_laysNow_17 rfl ?_
    refine pj_iload_n C dd_Md_laysNow_19 rfl hl 1 rfl ?_
    refine pj_iadd C dd_Md_laysNow_20 ?_
    refine pj_iald C P 1 (LM1 hB) h dd_Md_laysNow_21 (fun h => ?_)
    refine pj_iast C P 9 (LM9 hB) h dd_Md_laysNow_22 (fun H lo z1 h P => ?_)
    refine pj_aload_n C dd_Md_laysNow_23 rfl hl 0 rfl ?_
    refine pj_getR C P 0 (LM0 hB) rfl fl_Md_41 dd_Md_laysNow_24 ?_
    refine pj_iload_n C dd_Md_laysNow_27 rfl hl 1 rfl ?_
    refine pj_aload_n C dd_Md_laysNow_28 rfl hl 0 rfl ?_
    refine pj_getR C P 0 (LM0 hB) rfl fl_Md_7 dd_Md_laysNow_29 ?_
    refine pj_sipush (v := (nI 138)) C dd_Md_laysNow_32 rfl ?_
    refine pj_iload_n C dd_Md_laysNow_35 rfl hl 1 rfl ?_
    refine pj_iadd C dd_Md_laysNow_36 ?_
    refine pj_iald C P 1 (LM1 hB) h dd_Md_laysNow_37 (fun h => ?_)
    refine pj_iast C P 10 (LM10 hB) h dd_Md_laysNow_38 (fun H lo z2 h P => ?_)
    refine pj_iinc (v := (nI 1)) [(0, .ref (B.2.1 0))] C h rfl dd_Md_laysNow_39 hl 1 rfl (by decide) rfl (fun x3 ls h hl => ?_)
    refine pj_goto C dd_Md_laysNow_42 ?_
    exact k2 _ _ _ _ _ h P (lv_sub hl [1, 0] rfl)
theorem lt_Md_laysNow_2 {B : pj_B} {A : Nat → Prop} {K : pj_K} {r0 : Unit} {z0 : pj_S} (hB : B.2.2.2.1 = pj_LM) (C : pj_C B A K cX11_laysNow 2 RX11 1) (Q : pj_Qv B A K none r0 z0)  : ∀ (n : Nat) (v1 : Int32) (z : pj_S) (H : Heap) (lo : List Loc) (ls : Array Slot), pj_lp1 Md_laysNow_2 n v1 z = some (r0, z0) → pj_P B A K z H lo → lv_has ls 2 [(0, .ref (B.2.1 0)), (1, .int v1)] → pj_W K H lo 2 ls [] := by
  intro n
  induction n with
  | zero => intro v1 z H lo ls h; rw [pj_lp1_0] at h; cases h
  | succ n ih =>
    intro v1 z H lo ls h P hl
    rw [pj_lp1_s] at h
    exact bt_Md_laysNow_2 hB C Q   (pj_lp1 Md_laysNow_2 n) ih v1 z H lo ls h P hl
set_option maxHeartbeats 4000000 in
set_option maxRecDepth 100000 in
theorem ct_Md_laysNow {l : Launch} {B : pj_B} (hB : B.2.2.2.1 = pj_LM)  {z : pj_S} {r0 : Unit} {z0 : pj_S} (h : Md_laysNow z = some (r0, z0)) : pj_Mv l yX11_laysNow cX11_laysNow 2 none 1 [.ref (B.2.1 0)] B z r0 z0 := by
  refine pj_metv (own := RX11) (by decide +kernel) rfl (Nat.le_of_ble_eq_true rfl) ?_
  intro A K hK C Q H lo ls P hl
  have hl : lv_has ls 2 [(0, .ref (B.2.1 0))] := hl
  unfold Md_laysNow at h
  refine pj_iconst (v := (nI 0)) C dd_Md_laysNow_0 rfl ?_
  refine pj_istore_n [(1, .int (nI 0)), (0, .ref (B.2.1 0))] C dd_Md_laysNow_1 rfl hl (by decide) rfl (fun ls hl => ?_)
  exact lt_Md_laysNow_2 hB C Q 4000 _ _ _ _ _ h P (lv_sub hl [1, 0] rfl)
