theorem dd_Md_drawnOne_0 : pj_d cX11_drawnOne 0 (.iload_n 1) 1 1 := ⟨by decide +kernel, rfl⟩
theorem dd_Md_drawnOne_1 : pj_d cX11_drawnOne 1 (.bipush 8) 2 3 := ⟨by decide +kernel, rfl⟩
theorem dd_Md_drawnOne_3 : pj_d cX11_drawnOne 3 (.irem) 1 4 := ⟨by decide +kernel, rfl⟩
theorem dd_Md_drawnOne_4 : pj_d cX11_drawnOne 4 (.istore_n 2) 1 5 := ⟨by decide +kernel, rfl⟩
theorem dd_Md_drawnOne_5 : pj_d cX11_drawnOne 5 (.aload_n 0) 1 6 := ⟨by decide +kernel, rfl⟩
theorem dd_Md_drawnOne_6 : pj_d cX11_drawnOne 6 (.getfield 7) 3 9 := ⟨by decide +kernel, rfl⟩
theorem dd_Md_drawnOne_9 : pj_d cX11_drawnOne 9 (.bipush 10) 2 11 := ⟨by decide +kernel, rfl⟩
theorem dd_Md_drawnOne_11 : pj_d cX11_drawnOne 11 (.iload_n 1) 1 12 := ⟨by decide +kernel, rfl⟩
theorem dd_Md_drawnOne_12 : pj_d cX11_drawnOne 12 (.iadd) 1 13 := ⟨by decide +kernel, rfl⟩
theorem dd_Md_drawnOne_13 : pj_d cX11_drawnOne 13 (.iaload) 1 14 := ⟨by decide +kernel, rfl⟩
theorem dd_Md_drawnOne_14 : pj_d cX11_drawnOne 14 (.istore_n 3) 1 15 := ⟨by decide +kernel, rfl⟩
theorem dd_Md_drawnOne_15 : pj_d cX11_drawnOne 15 (.iload_n 1) 1 16 := ⟨by decide +kernel, rfl⟩
theorem dd_Md_drawnOne_16 : pj_d cX11_drawnOne 16 (.bipush 8) 2 18 := ⟨by decide +kernel, rfl⟩
theorem dd_Md_drawnOne_18 : pj_dj cX11_drawnOne 18 (.if_icmp .lt 8) 8 21 26 := ⟨by decide +kernel, rfl, by decide⟩
theorem dd_Md_drawnOne_21 : pj_d cX11_drawnOne 21 (.iload_n 3) 1 22 := ⟨by decide +kernel, rfl⟩
theorem dd_Md_drawnOne_22 : pj_d cX11_drawnOne 22 (.iconst 2) 1 23 := ⟨by decide +kernel, rfl⟩
theorem dd_Md_drawnOne_23 : pj_dj cX11_drawnOne 23 (.if_icmp .ne 5) 5 26 28 := ⟨by decide +kernel, rfl, by decide⟩
theorem dd_Md_drawnOne_26 : pj_d cX11_drawnOne 26 (.iconst (-1)) 1 27 := ⟨by decide +kernel, rfl⟩
theorem dd_Md_drawnOne_27 : pj_d cX11_drawnOne 27 (.ireturn) 1 28 := ⟨by decide +kernel, rfl⟩
theorem dd_Md_drawnOne_28 : pj_d cX11_drawnOne 28 (.iload_n 3) 1 29 := ⟨by decide +kernel, rfl⟩
theorem dd_Md_drawnOne_29 : pj_d cX11_drawnOne 29 (.iconst 1) 1 30 := ⟨by decide +kernel, rfl⟩
theorem dd_Md_drawnOne_30 : pj_dj cX11_drawnOne 30 (.if_icmp .eq 8) 8 33 38 := ⟨by decide +kernel, rfl, by decide⟩
theorem dd_Md_drawnOne_33 : pj_d cX11_drawnOne 33 (.iload_n 1) 1 34 := ⟨by decide +kernel, rfl⟩
theorem dd_Md_drawnOne_34 : pj_d cX11_drawnOne 34 (.bipush 8) 2 36 := ⟨by decide +kernel, rfl⟩
theorem dd_Md_drawnOne_36 : pj_d cX11_drawnOne 36 (.isub) 1 37 := ⟨by decide +kernel, rfl⟩
theorem dd_Md_drawnOne_37 : pj_d cX11_drawnOne 37 (.ireturn) 1 38 := ⟨by decide +kernel, rfl⟩
theorem dd_Md_drawnOne_38 : pj_d cX11_drawnOne 38 (.iload_n 2) 1 39 := ⟨by decide +kernel, rfl⟩
theorem dd_Md_drawnOne_39 : pj_d cX11_drawnOne 39 (.iconst 2) 1 40 := ⟨by decide +kernel, rfl⟩
theorem dd_Md_drawnOne_40 : pj_d cX11_drawnOne 40 (.irem) 1 41 := ⟨by decide +kernel, rfl⟩
theorem dd_Md_drawnOne_41 : pj_d cX11_drawnOne 41 (.iconst 1) 1 42 := ⟨by decide +kernel, rfl⟩
theorem dd_Md_drawnOne_42 : pj_dj cX11_drawnOne 42 (.if_icmp .ne 12) 12 45 54 := ⟨by decide +kernel, rfl, by decide⟩
theorem dd_Md_drawnOne_45 : pj_d cX11_drawnOne 45 (.iload_n 1) 1 46 := ⟨by decide +kernel, rfl⟩
theorem dd_Md_drawnOne_46 : pj_d cX11_drawnOne 46 (.bipush 8) 2 48 := ⟨by decide +kernel, rfl⟩
theorem dd_Md_drawnOne_48 : pj_d cX11_drawnOne 48 (.isub) 1 49 := ⟨by decide +kernel, rfl⟩
theorem dd_Md_drawnOne_49 : pj_d cX11_drawnOne 49 (.iconst 1) 1 50 := ⟨by decide +kernel, rfl⟩
theorem dd_Md_drawnOne_50 : pj_d cX11_drawnOne 50 (.isub) 1 51 := ⟨by decide +kernel, rfl⟩
theorem dd_Md_drawnOne_51 : pj_dj cX11_drawnOne 51 (.goto 28) 28 54 79 := ⟨by decide +kernel, rfl, by decide⟩
theorem dd_Md_drawnOne_54 : pj_d cX11_drawnOne 54 (.iload_n 2) 1 55 := ⟨by decide +kernel, rfl⟩
theorem dd_Md_drawnOne_55 : pj_d cX11_drawnOne 55 (.iconst 1) 1 56 := ⟨by decide +kernel, rfl⟩
theorem dd_Md_drawnOne_56 : pj_d cX11_drawnOne 56 (.iadd) 1 57 := ⟨by decide +kernel, rfl⟩
theorem dd_Md_drawnOne_57 : pj_d cX11_drawnOne 57 (.aload_n 0) 1 58 := ⟨by decide +kernel, rfl⟩
theorem dd_Md_drawnOne_58 : pj_d cX11_drawnOne 58 (.getfield 7) 3 61 := ⟨by decide +kernel, rfl⟩
theorem dd_Md_drawnOne_61 : pj_d cX11_drawnOne 61 (.iconst 0) 1 62 := ⟨by decide +kernel, rfl⟩
theorem dd_Md_drawnOne_62 : pj_d cX11_drawnOne 62 (.iaload) 1 63 := ⟨by decide +kernel, rfl⟩
theorem dd_Md_drawnOne_63 : pj_dj cX11_drawnOne 63 (.if_icmp .ge 12) 12 66 75 := ⟨by decide +kernel, rfl, by decide⟩
theorem dd_Md_drawnOne_66 : pj_d cX11_drawnOne 66 (.iload_n 1) 1 67 := ⟨by decide +kernel, rfl⟩
theorem dd_Md_drawnOne_67 : pj_d cX11_drawnOne 67 (.bipush 8) 2 69 := ⟨by decide +kernel, rfl⟩
theorem dd_Md_drawnOne_69 : pj_d cX11_drawnOne 69 (.isub) 1 70 := ⟨by decide +kernel, rfl⟩
theorem dd_Md_drawnOne_70 : pj_d cX11_drawnOne 70 (.iconst 1) 1 71 := ⟨by decide +kernel, rfl⟩
theorem dd_Md_drawnOne_71 : pj_d cX11_drawnOne 71 (.iadd) 1 72 := ⟨by decide +kernel, rfl⟩
theorem dd_Md_drawnOne_72 : pj_dj cX11_drawnOne 72 (.goto 7) 7 75 79 := ⟨by decide +kernel, rfl, by decide⟩
theorem dd_Md_drawnOne_75 : pj_d cX11_drawnOne 75 (.iload_n 1) 1 76 := ⟨by decide +kernel, rfl⟩
theorem dd_Md_drawnOne_76 : pj_d cX11_drawnOne 76 (.bipush 8) 2 78 := ⟨by decide +kernel, rfl⟩
theorem dd_Md_drawnOne_78 : pj_d cX11_drawnOne 78 (.isub) 1 79 := ⟨by decide +kernel, rfl⟩
theorem dd_Md_drawnOne_79 : pj_d cX11_drawnOne 79 (.ireturn) 1 80 := ⟨by decide +kernel, rfl⟩
set_option maxHeartbeats 4000000 in
set_option maxRecDepth 100000 in
theorem ct_Md_drawnOne {l : Launch} {B : pj_B} (hB : B.2.2.2.1 = pj_LM) {v1 : Int32} {z : pj_S} {r0 : Int32} {z0 : pj_S} (h : Md_drawnOne v1 z = some (r0, z0)) : pj_Mi l yX11_drawnOne cX11_drawnOne 4 (some .int) 1 [.ref (B.2.1 0), .int v1] B z r0 z0 := by
  refine pj_meti (own := RX11) (by decide +kernel) rfl (Nat.le_of_ble_eq_true rfl) ?_
  intro A K hK C Q H lo ls P hl
  have hl : lv_has ls 4 [(0, .ref (B.2.1 0)), (1, .int v1)] := hl
  unfold Md_drawnOne at h
  refine pj_iload_n C dd_Md_drawnOne_0 rfl hl 1 rfl ?_
  refine pj_bipush (v := (nI 8)) C dd_Md_drawnOne_1 rfl ?_
  refine pj_irem C h dd_Md_drawnOne_3 (fun h => ?_)
  refine pj_istb_n [(0, .ref (B.2.1 0)), (1, .int v1)] C h dd_Md_drawnOne_4 rfl hl (by decide) rfl (fun x1 ls h hl => ?_)
  refine pj_aload_n C dd_Md_drawnOne_5 rfl hl 1 rfl ?_
  refine pj_getR C P 0 (LM0 hB) rfl fl_Md_7 dd_Md_drawnOne_6 ?_
  refine pj_bipush (v := (nI 10)) C dd_Md_drawnOne_9 rfl ?_
  refine pj_iload_n C dd_Md_drawnOne_11 rfl hl 2 rfl ?_
  refine pj_iadd C dd_Md_drawnOne_12 ?_
  refine pj_iald C P 1 (LM1 hB) h dd_Md_drawnOne_13 (fun h => ?_)
  refine pj_istb_n [(2, .int x1), (0, .ref (B.2.1 0)), (1, .int v1)] C h dd_Md_drawnOne_14 rfl hl (by decide) rfl (fun x2 ls h hl => ?_)
  refine pj_iload_n C dd_Md_drawnOne_15 rfl hl 3 rfl ?_
  refine pj_bipush (v := (nI 8)) C dd_Md_drawnOne_16 rfl ?_
  refine pj_ic_lt C h dd_Md_drawnOne_18 (fun h => ?_) (fun h => ?_)
  · refine pj_iconst (v := (-1 : Int32)) C dd_Md_drawnOne_26 rfl ?_
    exact pj_iret C Q P h dd_Md_drawnOne_27
  · refine pj_iload_n C dd_Md_drawnOne_21 rfl hl 0 rfl ?_
    refine pj_iconst (v := (nI 2)) C dd_Md_drawnOne_22 rfl ?_
    refine pj_ic_ne C h dd_Md_drawnOne_23 (fun h => ?_) (fun h => ?_)
    · refine pj_iload_n C dd_Md_drawnOne_28 rfl hl 0 rfl ?_
      refine pj_iconst (v := (nI 1)) C dd_Md_drawnOne_29 rfl ?_
      refine pj_ic_eq C h dd_Md_drawnOne_30 (fun h => ?_) (fun h => ?_)
      · refine pj_iload_n C dd_Md_drawnOne_38 rfl hl 1 rfl ?_
        refine pj_iconst (v := (nI 2)) C dd_Md_drawnOne_39 rfl ?_
        refine pj_irem C h dd_Md_drawnOne_40 (fun h => ?_)
        refine pj_iconst (v := (nI 1)) C dd_Md_drawnOne_41 rfl ?_
        refine pj_ic_ne C h dd_Md_drawnOne_42 (fun h => ?_) (fun h => ?_)
        · refine pj_iload_n C dd_Md_drawnOne_54 rfl hl 1 rfl ?_
          refine pj_iconst (v := (nI 1)) C dd_Md_drawnOne_55 rfl ?_
          refine pj_iadd C dd_Md_drawnOne_56 ?_
          refine pj_aload_n C dd_Md_drawnOne_57 rfl hl 2 rfl ?_
          refine pj_getR C P 0 (LM0 hB) rfl fl_Md_7 dd_Md_drawnOne_58 ?_
          refine pj_iconst (v := (nI 0)) C dd_Md_drawnOne_61 rfl ?_
          refine pj_iald C P 1 (LM1 hB) h dd_Md_drawnOne_62 (fun h => ?_)
          refine pj_ic_ge C h dd_Md_drawnOne_63 (fun h => ?_) (fun h => ?_)
          · refine pj_iload_n C dd_Md_drawnOne_75 rfl hl 3 rfl ?_
            refine pj_bipush (v := (nI 8)) C dd_Md_drawnOne_76 rfl ?_
            refine pj_isub C dd_Md_drawnOne_78 ?_
            exact pj_iret C Q P h dd_Md_drawnOne_79
          · refine pj_iload_n C dd_Md_drawnOne_66 rfl hl 3 rfl ?_
            refine pj_bipush (v := (nI 8)) C dd_Md_drawnOne_67 rfl ?_
            refine pj_isub C dd_Md_drawnOne_69 ?_
            refine pj_iconst (v := (nI 1)) C dd_Md_drawnOne_70 rfl ?_
            refine pj_iadd C dd_Md_drawnOne_71 ?_
            refine pj_goto C dd_Md_drawnOne_72 ?_
            exact pj_iret C Q P h dd_Md_drawnOne_79
        · refine pj_iload_n C dd_Md_drawnOne_45 rfl hl 3 rfl ?_
          refine pj_bipush (v := (nI 8)) C dd_Md_drawnOne_46 rfl ?_
          refine pj_isub C dd_Md_drawnOne_48 ?_
          refine pj_iconst (v := (nI 1)) C dd_Md_drawnOne_49 rfl ?_
          refine pj_isub C dd_Md_drawnOne_50 ?_
          refine pj_goto C dd_Md_drawnOne_51 ?_
          exact pj_iret C Q P h dd_Md_drawnOne_79
      · refine pj_iload_n C dd_Md_drawnOne_33 rfl hl 3 rfl ?_
        refine pj_bipush (v := (nI 8)) C dd_Md_drawnOne_34 rfl ?_
        refine pj_isub C dd_Md_drawnOne_36 ?_
        exact pj_iret C Q P h dd_Md_drawnOne_37
    · refine pj_iconst (v := (-1 : Int32)) C dd_Md_drawnOne_26 rfl ?_
      exact pj_iret C Q P h dd_Md_drawnOne_27
theorem dd_Md_drawnOther_0 : pj_d cX11_drawnOther 0 (.iload_n 1) 1 1 := ⟨by decide +kernel, rfl⟩
theorem dd_Md_drawnOther_1 : pj_d cX11_drawnOther 1 (.bipush 8) 2 3 := ⟨by decide +kernel, rfl⟩
theorem dd_Md_drawnOther_3 : pj_dj cX11_drawnOther 3 (.if_icmp .lt 40) 40 6 43 := ⟨by decide +kernel, rfl, by decide⟩
theorem dd_Md_drawnOther_6 : pj_d cX11_drawnOther 6 (.aload_n 0) 1 7 := ⟨by decide +kernel, rfl⟩
theorem dd_Md_drawnOther_7 : pj_d cX11_drawnOther 7 (.getfield 7) 3 10 := ⟨by decide +kernel, rfl⟩
theorem dd_Md_drawnOther_10 : pj_d cX11_drawnOther 10 (.bipush 10) 2 12 := ⟨by decide +kernel, rfl⟩
theorem dd_Md_drawnOther_12 : pj_d cX11_drawnOther 12 (.iload_n 1) 1 13 := ⟨by decide +kernel, rfl⟩
theorem dd_Md_drawnOther_13 : pj_d cX11_drawnOther 13 (.iadd) 1 14 := ⟨by decide +kernel, rfl⟩
theorem dd_Md_drawnOther_14 : pj_d cX11_drawnOther 14 (.iaload) 1 15 := ⟨by decide +kernel, rfl⟩
theorem dd_Md_drawnOther_15 : pj_d cX11_drawnOther 15 (.iconst 3) 1 16 := ⟨by decide +kernel, rfl⟩
theorem dd_Md_drawnOther_16 : pj_dj cX11_drawnOther 16 (.if_icmp .ne 27) 27 19 43 := ⟨by decide +kernel, rfl, by decide⟩
theorem dd_Md_drawnOther_19 : pj_d cX11_drawnOther 19 (.iload_n 1) 1 20 := ⟨by decide +kernel, rfl⟩
theorem dd_Md_drawnOther_20 : pj_d cX11_drawnOther 20 (.bipush 8) 2 22 := ⟨by decide +kernel, rfl⟩
theorem dd_Md_drawnOther_22 : pj_d cX11_drawnOther 22 (.irem) 1 23 := ⟨by decide +kernel, rfl⟩
theorem dd_Md_drawnOther_23 : pj_d cX11_drawnOther 23 (.iconst 1) 1 24 := ⟨by decide +kernel, rfl⟩
theorem dd_Md_drawnOther_24 : pj_d cX11_drawnOther 24 (.iadd) 1 25 := ⟨by decide +kernel, rfl⟩
theorem dd_Md_drawnOther_25 : pj_d cX11_drawnOther 25 (.aload_n 0) 1 26 := ⟨by decide +kernel, rfl⟩
theorem dd_Md_drawnOther_26 : pj_d cX11_drawnOther 26 (.getfield 7) 3 29 := ⟨by decide +kernel, rfl⟩
theorem dd_Md_drawnOther_29 : pj_d cX11_drawnOther 29 (.iconst 0) 1 30 := ⟨by decide +kernel, rfl⟩
theorem dd_Md_drawnOther_30 : pj_d cX11_drawnOther 30 (.iaload) 1 31 := ⟨by decide +kernel, rfl⟩
theorem dd_Md_drawnOther_31 : pj_dj cX11_drawnOther 31 (.if_icmp .ge 12) 12 34 43 := ⟨by decide +kernel, rfl, by decide⟩
theorem dd_Md_drawnOther_34 : pj_d cX11_drawnOther 34 (.iload_n 1) 1 35 := ⟨by decide +kernel, rfl⟩
theorem dd_Md_drawnOther_35 : pj_d cX11_drawnOther 35 (.bipush 8) 2 37 := ⟨by decide +kernel, rfl⟩
theorem dd_Md_drawnOther_37 : pj_d cX11_drawnOther 37 (.isub) 1 38 := ⟨by decide +kernel, rfl⟩
theorem dd_Md_drawnOther_38 : pj_d cX11_drawnOther 38 (.iconst 1) 1 39 := ⟨by decide +kernel, rfl⟩
theorem dd_Md_drawnOther_39 : pj_d cX11_drawnOther 39 (.iadd) 1 40 := ⟨by decide +kernel, rfl⟩
theorem dd_Md_drawnOther_40 : pj_dj cX11_drawnOther 40 (.goto 4) 4 43 44 := ⟨by decide +kernel, rfl, by decide⟩
theorem dd_Md_drawnOther_43 : pj_d cX11_drawnOther 43 (.iconst (-1)) 1 44 := ⟨by decide +kernel, rfl⟩
theorem dd_Md_drawnOther_44 : pj_d cX11_drawnOther 44 (.ireturn) 1 45 := ⟨by decide +kernel, rfl⟩
set_option maxHeartbeats 4000000 in
set_option maxRecDepth 100000 in
theorem ct_Md_drawnOther {l : Launch} {B : pj_B} (hB : B.2.2.2.1 = pj_LM) {v1 : Int32} {z : pj_S} {r0 : Int32} {z0 : pj_S} (h : Md_drawnOther v1 z = some (r0, z0)) : pj_Mi l yX11_drawnOther cX11_drawnOther 2 (some .int) 1 [.ref (B.2.1 0), .int v1] B z r0 z0 := by
  refine pj_meti (own := RX11) (by decide +kernel) rfl (Nat.le_of_ble_eq_true rfl) ?_
  intro A K hK C Q H lo ls P hl
  have hl : lv_has ls 2 [(0, .ref (B.2.1 0)), (1, .int v1)] := hl
  unfold Md_drawnOther at h
  refine pj_iload_n C dd_Md_drawnOther_0 rfl hl 1 rfl ?_
  refine pj_bipush (v := (nI 8)) C dd_Md_drawnOther_1 rfl ?_
  refine pj_ic_lt C h dd_Md_drawnOther_3 (fun h => ?_) (fun h => ?_)
  · refine pj_iconst (v := (-1 : Int32)) C dd_Md_drawnOther_43 rfl ?_
    exact pj_iret C Q P h dd_Md_drawnOther_44
  · refine pj_aload_n C dd_Md_drawnOther_6 rfl hl 0 rfl ?_
    refine pj_getR C P 0 (LM0 hB) rfl fl_Md_7 dd_Md_drawnOther_7 ?_
    refine pj_bipush (v := (nI 10)) C dd_Md_drawnOther_10 rfl ?_
    refine pj_iload_n C dd_Md_drawnOther_12 rfl hl 1 rfl ?_
    refine pj_iadd C dd_Md_drawnOther_13 ?_
    refine pj_iald C P 1 (LM1 hB) h dd_Md_drawnOther_14 (fun h => ?_)
    refine pj_iconst (v := (nI 3)) C dd_Md_drawnOther_15 rfl ?_
    refine pj_ic_ne C h dd_Md_drawnOther_16 (fun h => ?_) (fun h => ?_)
    · refine pj_iconst (v := (-1 : Int32)) C dd_Md_drawnOther_43 rfl ?_
      exact pj_iret C Q P h dd_Md_drawnOther_44
    · refine pj_iload_n C dd_Md_drawnOther_19 rfl hl 1 rfl ?_
      refine pj_bipush (v := (nI 8)) C dd_Md_drawnOther_20 rfl ?_
      refine pj_irem C h dd_Md_drawnOther_22 (fun h => ?_)
      refine pj_iconst (v := (nI 1)) C dd_Md_drawnOther_23 rfl ?_
      refine pj_iadd C dd_Md_drawnOther_24 ?_
      refine pj_aload_n C dd_Md_drawnOther_25 rfl hl 0 rfl ?_
      refine pj_getR C P 0 (LM0 hB) rfl fl_Md_7 dd_Md_drawnOther_26 ?_
      refine pj_iconst (v := (nI 0)) C dd_Md_drawnOther_29 rfl ?_
      refine pj_iald C P 1 (LM1 hB) h dd_Md_drawnOther_30 (fun h => ?_)
      refine pj_ic_ge C h dd_Md_drawnOther_31 (fun h => ?_) (fun h => ?_)
      · refine pj_iconst (v := (-1 : Int32)) C dd_Md_drawnOther_43 rfl ?_
        exact pj_iret C Q P h dd_Md_drawnOther_44
      · refine pj_iload_n C dd_Md_drawnOther_34 rfl hl 1 rfl ?_
        refine pj_bipush (v := (nI 8)) C dd_Md_drawnOther_35 rfl ?_
        refine pj_isub C dd_Md_drawnOther_37 ?_
        refine pj_iconst (v := (nI 1)) C dd_Md_drawnOther_38 rfl ?_
        refine pj_iadd C dd_Md_drawnOther_39 ?_
        refine pj_goto C dd_Md_drawnOther_40 ?_
        exact pj_iret C Q P h dd_Md_drawnOther_44
theorem dd_Md_holds_0 : pj_d cX11_holds 0 (.aload_n 0) 1 1 := ⟨by decide +kernel, rfl⟩
theorem dd_Md_holds_1 : pj_d cX11_holds 1 (.iload_n 1) 1 2 := ⟨by decide +kernel, rfl⟩
theorem dd_Md_holds_2 : pj_d cX11_holds 2 (.invokevirtual 208) 3 5 := ⟨by decide +kernel, rfl⟩
theorem dd_Md_holds_5 : pj_d cX11_holds 5 (.istore_n 3) 1 6 := ⟨by decide +kernel, rfl⟩
theorem dd_Md_holds_6 : pj_d cX11_holds 6 (.aload_n 0) 1 7 := ⟨by decide +kernel, rfl⟩
theorem dd_Md_holds_7 : pj_d cX11_holds 7 (.iload_n 1) 1 8 := ⟨by decide +kernel, rfl⟩
theorem dd_Md_holds_8 : pj_d cX11_holds 8 (.invokevirtual 211) 3 11 := ⟨by decide +kernel, rfl⟩
theorem dd_Md_holds_11 : pj_d cX11_holds 11 (.istore 4) 2 13 := ⟨by decide +kernel, rfl⟩
theorem dd_Md_holds_13 : pj_d cX11_holds 13 (.iload_n 3) 1 14 := ⟨by decide +kernel, rfl⟩
theorem dd_Md_holds_14 : pj_d cX11_holds 14 (.iconst (-1)) 1 15 := ⟨by decide +kernel, rfl⟩
theorem dd_Md_holds_15 : pj_dj cX11_holds 15 (.if_icmp .eq 13) 13 18 28 := ⟨by decide +kernel, rfl, by decide⟩
theorem dd_Md_holds_18 : pj_d cX11_holds 18 (.aload_n 0) 1 19 := ⟨by decide +kernel, rfl⟩
theorem dd_Md_holds_19 : pj_d cX11_holds 19 (.getfield 44) 3 22 := ⟨by decide +kernel, rfl⟩
theorem dd_Md_holds_22 : pj_d cX11_holds 22 (.iload_n 3) 1 23 := ⟨by decide +kernel, rfl⟩
theorem dd_Md_holds_23 : pj_d cX11_holds 23 (.dup2) 1 24 := ⟨by decide +kernel, rfl⟩
theorem dd_Md_holds_24 : pj_d cX11_holds 24 (.iaload) 1 25 := ⟨by decide +kernel, rfl⟩
theorem dd_Md_holds_25 : pj_d cX11_holds 25 (.iload_n 2) 1 26 := ⟨by decide +kernel, rfl⟩
theorem dd_Md_holds_26 : pj_d cX11_holds 26 (.iadd) 1 27 := ⟨by decide +kernel, rfl⟩
theorem dd_Md_holds_27 : pj_d cX11_holds 27 (.iastore) 1 28 := ⟨by decide +kernel, rfl⟩
theorem dd_Md_holds_28 : pj_d cX11_holds 28 (.iload 4) 2 30 := ⟨by decide +kernel, rfl⟩
theorem dd_Md_holds_30 : pj_d cX11_holds 30 (.iconst (-1)) 1 31 := ⟨by decide +kernel, rfl⟩
theorem dd_Md_holds_31 : pj_dj cX11_holds 31 (.if_icmp .eq 14) 14 34 45 := ⟨by decide +kernel, rfl, by decide⟩
theorem dd_Md_holds_34 : pj_d cX11_holds 34 (.aload_n 0) 1 35 := ⟨by decide +kernel, rfl⟩
theorem dd_Md_holds_35 : pj_d cX11_holds 35 (.getfield 44) 3 38 := ⟨by decide +kernel, rfl⟩
theorem dd_Md_holds_38 : pj_d cX11_holds 38 (.iload 4) 2 40 := ⟨by decide +kernel, rfl⟩
theorem dd_Md_holds_40 : pj_d cX11_holds 40 (.dup2) 1 41 := ⟨by decide +kernel, rfl⟩
theorem dd_Md_holds_41 : pj_d cX11_holds 41 (.iaload) 1 42 := ⟨by decide +kernel, rfl⟩
theorem dd_Md_holds_42 : pj_d cX11_holds 42 (.iload_n 2) 1 43 := ⟨by decide +kernel, rfl⟩
theorem dd_Md_holds_43 : pj_d cX11_holds 43 (.iadd) 1 44 := ⟨by decide +kernel, rfl⟩
theorem dd_Md_holds_44 : pj_d cX11_holds 44 (.iastore) 1 45 := ⟨by decide +kernel, rfl⟩
theorem dd_Md_holds_45 : pj_d cX11_holds 45 (.return_) 1 46 := ⟨by decide +kernel, rfl⟩
set_option maxHeartbeats 4000000 in
set_option maxRecDepth 100000 in
theorem bt_Md_holds_28 {B : pj_B} {A : Nat → Prop} {K : pj_K} {r0 : Unit} {z0 : pj_S} (hB : B.2.2.2.1 = pj_LM) (C : pj_C B A K cX11_holds 5 RX11 2) (Q : pj_Qv B A K none r0 z0)  (v2 : Int32) (v4 : Int32) (z : pj_S) (H : Heap) (lo : List Loc) (ls : Array Slot) (h : Md_holds_28 v2 v4 z = some (r0, z0)) (P : pj_P B A K z H lo) (hl : lv_has ls 5 [(0, .ref (B.2.1 0)), (2, .int v2), (4, .int v4)]) : pj_W K H lo 28 ls [] := by
  unfold Md_holds_28 at h
  refine pj_iload C dd_Md_holds_28 hl 2 rfl ?_
  refine pj_iconst (v := (-1 : Int32)) C dd_Md_holds_30 rfl ?_
  refine pj_ic_eq C h dd_Md_holds_31 (fun h => ?_) (fun h => ?_)
  · exact pj_vret C Q P h dd_Md_holds_45
  · refine pj_aload_n C dd_Md_holds_34 rfl hl 0 rfl ?_
    refine pj_getR C P 0 (LM0 hB) rfl fl_Md_44 dd_Md_holds_35 ?_
    refine pj_iload C dd_Md_holds_38 hl 2 rfl ?_
    refine pj_dup2 C dd_Md_holds_40 rfl rfl ?_
    refine pj_iald C P 11 (LM11 hB) h dd_Md_holds_41 (fun h => ?_)
    refine pj_iload_n C dd_Md_holds_42 rfl hl 1 rfl ?_
    refine pj_iadd C dd_Md_holds_43 ?_
    refine pj_iast C P 11 (LM11 hB) h dd_Md_holds_44 (fun H lo z1 h P => ?_)
    exact pj_vret C Q P h dd_Md_holds_45
set_option maxHeartbeats 4000000 in
set_option maxRecDepth 100000 in
theorem ct_Md_holds {l : Launch} {B : pj_B} (hB : B.2.2.2.1 = pj_LM) {v1 : Int32} {v2 : Int32} {z : pj_S} {r0 : Unit} {z0 : pj_S} (h : Md_holds v1 v2 z = some (r0, z0)) : pj_Mv l yX11_holds cX11_holds 5 none 2 [.ref (B.2.1 0), .int v1, .int v2] B z r0 z0 := by
  refine pj_metv (own := RX11) (by decide +kernel) rfl (Nat.le_of_ble_eq_true rfl) ?_
  intro A K hK C Q H lo ls P hl
  have hl : lv_has ls 5 [(0, .ref (B.2.1 0)), (1, .int v1), (2, .int v2)] := hl
  unfold Md_holds at h
  refine pj_aload_n C dd_Md_holds_0 rfl hl 0 rfl ?_
  refine pj_iload_n C dd_Md_holds_1 rfl hl 1 rfl ?_
  obtain ⟨r3, z2, e1, h⟩ := pj_cE h
  refine pj_cVi (st := []) [.int v1] C P 0 (LM0 hB) rfl (ct_Md_drawnOne hB e1) cl_Md_208 rfl (by decide) (by decide) hl.1 (Nat.le_of_ble_eq_true rfl) dd_Md_holds_2 (fun H lo P => ?_)
  refine pj_istore_n [(3, .int r3), (0, .ref (B.2.1 0)), (1, .int v1), (2, .int v2)] C dd_Md_holds_5 rfl hl (by decide) rfl (fun ls hl => ?_)
  refine pj_aload_n C dd_Md_holds_6 rfl hl 1 rfl ?_
  refine pj_iload_n C dd_Md_holds_7 rfl hl 2 rfl ?_
  obtain ⟨r6, z5, e4, h⟩ := pj_cE h
  refine pj_cVi (st := []) [.int v1] C P 0 (LM0 hB) rfl (ct_Md_drawnOther hB e4) cl_Md_211 rfl (by decide) (by decide) hl.1 (Nat.le_of_ble_eq_true rfl) dd_Md_holds_8 (fun H lo P => ?_)
  refine pj_istore [(4, .int r6), (3, .int r3), (0, .ref (B.2.1 0)), (1, .int v1), (2, .int v2)] C dd_Md_holds_11 hl (by decide) rfl (fun ls hl => ?_)
  refine pj_iload_n C dd_Md_holds_13 rfl hl 1 rfl ?_
  refine pj_iconst (v := (-1 : Int32)) C dd_Md_holds_14 rfl ?_
  refine pj_ic_eq C h dd_Md_holds_15 (fun h => ?_) (fun h => ?_)
  · exact bt_Md_holds_28 hB C Q _ _ _ _ _ _ h P (lv_sub hl [2, 4, 0] rfl)
  · refine pj_aload_n C dd_Md_holds_18 rfl hl 2 rfl ?_
    refine pj_getR C P 0 (LM0 hB) rfl fl_Md_44 dd_Md_holds_19 ?_
    refine pj_iload_n C dd_Md_holds_22 rfl hl 1 rfl ?_
    refine pj_dup2 C dd_Md_holds_23 rfl rfl ?_
    refine pj_iald C P 11 (LM11 hB) h dd_Md_holds_24 (fun h => ?_)
    refine pj_iload_n C dd_Md_holds_25 rfl hl 4 rfl ?_
    refine pj_iadd C dd_Md_holds_26 ?_
    refine pj_iast C P 11 (LM11 hB) h dd_Md_holds_27 (fun H lo z7 h P => ?_)
    exact bt_Md_holds_28 hB C Q _ _ _ _ _ _ h P (lv_sub hl [2, 4, 0] rfl)
theorem dd_Md_laysHolders_0 : pj_d cX11_laysHolders 0 (.iconst 0) 1 1 := ⟨by decide +kernel, rfl⟩
theorem dd_Md_laysHolders_1 : pj_d cX11_laysHolders 1 (.istore_n 1) 1 2 := ⟨by decide +kernel, rfl⟩
theorem dd_Md_laysHolders_2 : pj_d cX11_laysHolders 2 (.iload_n 1) 1 3 := ⟨by decide +kernel, rfl⟩
theorem dd_Md_laysHolders_3 : pj_d cX11_laysHolders 3 (.bipush 64) 2 5 := ⟨by decide +kernel, rfl⟩
theorem dd_Md_laysHolders_5 : pj_dj cX11_laysHolders 5 (.if_icmp .ge 16) 16 8 21 := ⟨by decide +kernel, rfl, by decide⟩
theorem dd_Md_laysHolders_8 : pj_d cX11_laysHolders 8 (.aload_n 0) 1 9 := ⟨by decide +kernel, rfl⟩
theorem dd_Md_laysHolders_9 : pj_d cX11_laysHolders 9 (.getfield 44) 3 12 := ⟨by decide +kernel, rfl⟩
theorem dd_Md_laysHolders_12 : pj_d cX11_laysHolders 12 (.iload_n 1) 1 13 := ⟨by decide +kernel, rfl⟩
theorem dd_Md_laysHolders_13 : pj_d cX11_laysHolders 13 (.iconst 0) 1 14 := ⟨by decide +kernel, rfl⟩
theorem dd_Md_laysHolders_14 : pj_d cX11_laysHolders 14 (.iastore) 1 15 := ⟨by decide +kernel, rfl⟩
theorem dd_Md_laysHolders_15 : pj_d cX11_laysHolders 15 (.iinc 1 1) 3 18 := ⟨by decide +kernel, rfl⟩
theorem dd_Md_laysHolders_18 : pj_dj cX11_laysHolders 18 (.goto (-16)) (-16) 21 2 := ⟨by decide +kernel, rfl, by decide⟩
theorem dd_Md_laysHolders_21 : pj_d cX11_laysHolders 21 (.iconst 0) 1 22 := ⟨by decide +kernel, rfl⟩
theorem dd_Md_laysHolders_22 : pj_d cX11_laysHolders 22 (.istore_n 1) 1 23 := ⟨by decide +kernel, rfl⟩
theorem dd_Md_laysHolders_23 : pj_d cX11_laysHolders 23 (.iload_n 1) 1 24 := ⟨by decide +kernel, rfl⟩
theorem dd_Md_laysHolders_24 : pj_d cX11_laysHolders 24 (.bipush 64) 2 26 := ⟨by decide +kernel, rfl⟩
theorem dd_Md_laysHolders_26 : pj_dj cX11_laysHolders 26 (.if_icmp .ge 25) 25 29 51 := ⟨by decide +kernel, rfl, by decide⟩
theorem dd_Md_laysHolders_29 : pj_d cX11_laysHolders 29 (.aload_n 0) 1 30 := ⟨by decide +kernel, rfl⟩
theorem dd_Md_laysHolders_30 : pj_d cX11_laysHolders 30 (.getfield 38) 3 33 := ⟨by decide +kernel, rfl⟩
theorem dd_Md_laysHolders_33 : pj_d cX11_laysHolders 33 (.iload_n 1) 1 34 := ⟨by decide +kernel, rfl⟩
theorem dd_Md_laysHolders_34 : pj_d cX11_laysHolders 34 (.iaload) 1 35 := ⟨by decide +kernel, rfl⟩
theorem dd_Md_laysHolders_35 : pj_d cX11_laysHolders 35 (.iconst 1) 1 36 := ⟨by decide +kernel, rfl⟩
theorem dd_Md_laysHolders_36 : pj_dj cX11_laysHolders 36 (.if_icmp .ne 9) 9 39 45 := ⟨by decide +kernel, rfl, by decide⟩
theorem dd_Md_laysHolders_39 : pj_d cX11_laysHolders 39 (.aload_n 0) 1 40 := ⟨by decide +kernel, rfl⟩
theorem dd_Md_laysHolders_40 : pj_d cX11_laysHolders 40 (.iload_n 1) 1 41 := ⟨by decide +kernel, rfl⟩
theorem dd_Md_laysHolders_41 : pj_d cX11_laysHolders 41 (.iconst 1) 1 42 := ⟨by decide +kernel, rfl⟩
theorem dd_Md_laysHolders_42 : pj_d cX11_laysHolders 42 (.invokevirtual 214) 3 45 := ⟨by decide +kernel, rfl⟩
theorem dd_Md_laysHolders_45 : pj_d cX11_laysHolders 45 (.iinc 1 1) 3 48 := ⟨by decide +kernel, rfl⟩
theorem dd_Md_laysHolders_48 : pj_dj cX11_laysHolders 48 (.goto (-25)) (-25) 51 23 := ⟨by decide +kernel, rfl, by decide⟩
theorem dd_Md_laysHolders_51 : pj_d cX11_laysHolders 51 (.return_) 1 52 := ⟨by decide +kernel, rfl⟩
set_option maxHeartbeats 4000000 in
set_option maxRecDepth 100000 in
theorem bt_Md_laysHolders_45 {B : pj_B} {A : Nat → Prop} {K : pj_K} {r0 : Unit} {z0 : pj_S} (hB : B.2.2.2.1 = pj_LM) (C : pj_C B A K cX11_laysHolders 2 RX11 3) (Q : pj_Qv B A K none r0 z0) (s23 : Int32 → pj_S → Option (Unit × pj_S)) (k23 : ∀ (v1 : Int32) (z : pj_S) (H : Heap) (lo : List Loc) (ls : Array Slot), s23 v1 z = some (r0, z0) → pj_P B A K z H lo → lv_has ls 2 [(0, .ref (B.2.1 0)), (1, .int v1)] → pj_W K H lo 23 ls []) (v1 : Int32) (z : pj_S) (H : Heap) (lo : List Loc) (ls : Array Slot) (h : Md_laysHolders_45 s23 v1 z = some (r0, z0)) (P : pj_P B A K z H lo) (hl : lv_has ls 2 [(0, .ref (B.2.1 0)), (1, .int v1)]) : pj_W K H lo 45 ls [] := by
  unfold Md_laysHolders_45 at h
  refine pj_iinc (v := (nI 1)) [(0, .ref (B.2.1 0))] C h rfl dd_Md_laysHolders_45 hl 1 rfl (by decide) rfl (fun x1 ls h hl => ?_)
  refine pj_goto C dd_Md_laysHolders_48 ?_
  exact k23 _ _ _ _ _ h P (lv_sub hl [1, 0] rfl)
set_option maxHeartbeats 4000000 in
set_option maxRecDepth 100000 in
theorem bt_Md_laysHolders_23 {B : pj_B} {A : Nat → Prop} {K : pj_K} {r0 : Unit} {z0 : pj_S} (hB : B.2.2.2.1 = pj_LM) (C : pj_C B A K cX11_laysHolders 2 RX11 3) (Q : pj_Qv B A K none r0 z0) (s23 : Int32 → pj_S → Option (Unit × pj_S)) (k23 : ∀ (v1 : Int32) (z : pj_S) (H : Heap) (lo : List Loc) (ls : Array Slot), s23 v1 z = some (r0, z0) → pj_P B A K z H lo → lv_has ls 2 [(0, .ref (B.2.1 0)), (1, .int v1)] → pj_W K H lo 23 ls []) (v1 : Int32) (z : pj_S) (H : Heap) (lo : List Loc) (ls : Array Slot) (h : Md_laysHolders_23 s23 v1 z = some (r0, z0)) (P : pj_P B A K z H lo) (hl : lv_has ls 2 [(0, .ref (B.2.1 0)), (1, .int v1)]) : pj_W K H lo 23 ls [] := by
  unfold Md_laysHolders_23 at h
  refine pj_iload_n C dd_Md_laysHolders_23 rfl hl 1 rfl ?_
  refine pj_bipush (v := (nI 64)) C dd_Md_laysHolders_24 rfl ?_
  refine pj_ic_ge C h dd_Md_laysHolders_26 (fun h => ?_) (fun h => ?_)
  · exact pj_vret C Q P h dd_Md_laysHolders_51
  · refine pj_aload_n C dd_Md_laysHolders_29 rfl hl 0 rfl ?_
    refine pj_getR C P 0 (LM0 hB) rfl fl_Md_38 dd_Md_laysHolders_30 ?_
    refine pj_iload_n C dd_Md_laysHolders_33 rfl hl 1 rfl ?_
    refine pj_iald C P 9 (LM9 hB) h dd_Md_laysHolders_34 (fun h => ?_)
    refine pj_iconst (v := (nI 1)) C dd_Md_laysHolders_35 rfl ?_
    refine pj_ic_ne C h dd_Md_laysHolders_36 (fun h => ?_) (fun h => ?_)
    · exact bt_Md_laysHolders_45 hB C Q s23 k23 _ _ _ _ _ h P (lv_sub hl [0, 1] rfl)
    · refine pj_aload_n C dd_Md_laysHolders_39 rfl hl 0 rfl ?_
      refine pj_iload_n C dd_Md_laysHolders_40 rfl hl 1 rfl ?_
      refine pj_iconst (v := (nI 1)) C dd_Md_laysHolders_41 rfl ?_
      obtain ⟨r3, z2, e1, h⟩ := pj_cE h
      refine pj_cVv (st := []) [.int v1, .int (nI 1)] C P 0 (LM0 hB) rfl (ct_Md_holds hB e1) cl_Md_214 rfl (by decide) (by decide) hl.1 (Nat.le_of_ble_eq_true rfl) dd_Md_laysHolders_42 (fun H lo P => ?_)
      exact bt_Md_laysHolders_45 hB C Q s23 k23 _ _ _ _ _ h P (lv_sub hl [0, 1] rfl)
theorem lt_Md_laysHolders_23 {B : pj_B} {A : Nat → Prop} {K : pj_K} {r0 : Unit} {z0 : pj_S} (hB : B.2.2.2.1 = pj_LM) (C : pj_C B A K cX11_laysHolders 2 RX11 3) (Q : pj_Qv B A K none r0 z0)  : ∀ (n : Nat) (v1 : Int32) (z : pj_S) (H : Heap) (lo : List Loc) (ls : Array Slot), pj_lp1 Md_laysHolders_23 n v1 z = some (r0, z0) → pj_P B A K z H lo → lv_has ls 2 [(0, .ref (B.2.1 0)), (1, .int v1)] → pj_W K H lo 23 ls [] := by
  intro n
  induction n with
  | zero => intro v1 z H lo ls h; rw [pj_lp1_0] at h; cases h
  | succ n ih =>
    intro v1 z H lo ls h P hl
    rw [pj_lp1_s] at h
    exact bt_Md_laysHolders_23 hB C Q   (pj_lp1 Md_laysHolders_23 n) ih v1 z H lo ls h P hl
set_option maxHeartbeats 4000000 in
set_option maxRecDepth 100000 in
theorem bt_Md_laysHolders_21 {B : pj_B} {A : Nat → Prop} {K : pj_K} {r0 : Unit} {z0 : pj_S} (hB : B.2.2.2.1 = pj_LM) (C : pj_C B A K cX11_laysHolders 2 RX11 3) (Q : pj_Qv B A K none r0 z0)   (z : pj_S) (H : Heap) (lo : List Loc) (ls : Array Slot) (h : Md_laysHolders_21 z = some (r0, z0)) (P : pj_P B A K z H lo) (hl : lv_has ls 2 [(0, .ref (B.2.1 0))]) : pj_W K H lo 21 ls [] := by
  unfold Md_laysHolders_21 at h
  refine pj_iconst (v := (nI 0)) C dd_Md_laysHolders_21 rfl ?_
  refine pj_istore_n [(1, .int (nI 0)), (0, .ref (B.2.1 0))] C dd_Md_laysHolders_22 rfl hl (by decide) rfl (fun ls hl => ?_)
  exact lt_Md_laysHolders_23 hB C Q 4000 _ _ _ _ _ h P (lv_sub hl [1, 0] rfl)
set_option maxHeartbeats 4000000 in
set_option maxRecDepth 100000 in
theorem bt_Md_laysHolders_2 {B : pj_B} {A : Nat → Prop} {K : pj_K} {r0 : Unit} {z0 : pj_S} (hB : B.2.2.2.1 = pj_LM) (C : pj_C B A K cX11_laysHolders 2 RX11 3) (Q : pj_Qv B A K none r0 z0) (s2 : Int32 → pj_S → Option (Unit × pj_S)) (k2 : ∀ (v1 : Int32) (z : pj_S) (H : Heap) (lo : List Loc) (ls : Array Slot), s2 v1 z = some (r0, z0) → pj_P B A K z H lo → lv_has ls 2 [(0, .ref (B.2.1 0)), (1, .int v1)] → pj_W K H lo 2 ls []) (v1 : Int32) (z : pj_S) (H : Heap) (lo : List Loc) (ls : Array Slot) (h : Md_laysHolders_2 s2 v1 z = some (r0, z0)) (P : pj_P B A K z H lo) (hl : lv_has ls 2 [(0, .ref (B.2.1 0)), (1, .int v1)]) : pj_W K H lo 2 ls [] := by
  unfold Md_laysHolders_2 at h
  refine pj_iload_n C dd_Md_laysHolders_2 rfl hl 1 rfl ?_
  refine pj_bipush (v := (nI 64)) C dd_Md_laysHolders_3 rfl ?_
  refine pj_ic_ge C h dd_Md_laysHolders_5 (fun h => ?_) (fun h => ?_)
  · exact bt_Md_laysHolders_21 hB C Q _ _ _ _ h P (lv_sub hl [0] rfl)
  · refine pj_aload_n C dd_Md_laysHolders_8 rfl hl 0 rfl ?_
    refine pj_getR C P 0 (LM0 hB) rfl fl_Md_44 dd_Md_laysHolders_9 ?_
    refine pj_iload_n C dd_Md_laysHolders_12 rfl hl 1 rfl ?_
    refine pj_iconst (v := (nI 0)) C dd_Md_laysHolders_13 rfl ?_
    refine pj_iast C P 11 (LM11 hB) h dd_Md_laysHolders_14 (fun H lo z1 h P => ?_)
    refine pj_iinc (v := (nI 1)) [(0, .ref (B.2.1 0))] C h rfl dd_Md_laysHolders_15 hl 1 rfl (by decide) rfl (fun x2 ls h hl => ?_)
    refine pj_goto C dd_Md_laysHolders_18 ?_
    exact k2 _ _ _ _ _ h P (lv_sub hl [1, 0] rfl)
theorem lt_Md_laysHolders_2 {B : pj_B} {A : Nat → Prop} {K : pj_K} {r0 : Unit} {z0 : pj_S} (hB : B.2.2.2.1 = pj_LM) (C : pj_C B A K cX11_laysHolders 2 RX11 3) (Q : pj_Qv B A K none r0 z0)  : ∀ (n : Nat) (v1 : Int32) (z : pj_S) (H : Heap) (lo : List Loc) (ls : Array Slot), pj_lp1 Md_laysHolders_2 n v1 z = some (r0, z0) → pj_P B A K z H lo → lv_has ls 2 [(0, .ref (B.2.1 0)), (1, .int v1)] → pj_W K H lo 2 ls [] := by
  intro n
  induction n with
  | zero => intro v1 z H lo ls h; rw [pj_lp1_0] at h; cases h
  | succ n ih =>
    intro v1 z H lo ls h P hl
    rw [pj_lp1_s] at h
    exact bt_Md_laysHolders_2 hB C Q   (pj_lp1 Md_laysHolders_2 n) ih v1 z H lo ls h P hl
set_option maxHeartbeats 4000000 in
set_option maxRecDepth 100000 in
theorem ct_Md_laysHolders {l : Launch} {B : pj_B} (hB : B.2.2.2.1 = pj_LM)  {z : pj_S} {r0 : Unit} {z0 : pj_S} (h : Md_laysHolders z = some (r0, z0)) : pj_Mv l yX11_laysHolders cX11_laysHolders 2 none 3 [.ref (B.2.1 0)] B z r0 z0 := by
  refine pj_metv (own := RX11) (by decide +kernel) rfl (Nat.le_of_ble_eq_true rfl) ?_
  intro A K hK C Q H lo ls P hl
  have hl : lv_has ls 2 [(0, .ref (B.2.1 0))] := hl
  unfold Md_laysHolders at h
  refine pj_iconst (v := (nI 0)) C dd_Md_laysHolders_0 rfl ?_
  refine pj_istore_n [(1, .int (nI 0)), (0, .ref (B.2.1 0))] C dd_Md_laysHolders_1 rfl hl (by decide) rfl (fun ls hl => ?_)
  exact lt_Md_laysHolders_2 hB C Q 4000 _ _ _ _ _ h P (lv_sub hl [1, 0] rfl)
theorem dd_Md_stitchAt_0 : pj_d cX11_stitchAt 0 (.iload_n 1) 1 1 := ⟨by decide +kernel, rfl⟩
theorem dd_Md_stitchAt_1 : pj_d cX11_stitchAt 1 (.aload_n 0) 1 2 := ⟨by decide +kernel, rfl⟩
theorem dd_Md_stitchAt_2 : pj_d cX11_stitchAt 2 (.getfield 7) 3 5 := ⟨by decide +kernel, rfl⟩
theorem dd_Md_stitchAt_5 : pj_d cX11_stitchAt 5 (.iconst 0) 1 6 := ⟨by decide +kernel, rfl⟩
theorem dd_Md_stitchAt_6 : pj_d cX11_stitchAt 6 (.iaload) 1 7 := ⟨by decide +kernel, rfl⟩
theorem dd_Md_stitchAt_7 : pj_d cX11_stitchAt 7 (.idiv) 1 8 := ⟨by decide +kernel, rfl⟩
theorem dd_Md_stitchAt_8 : pj_d cX11_stitchAt 8 (.istore_n 2) 1 9 := ⟨by decide +kernel, rfl⟩
theorem dd_Md_stitchAt_9 : pj_d cX11_stitchAt 9 (.iload_n 1) 1 10 := ⟨by decide +kernel, rfl⟩
theorem dd_Md_stitchAt_10 : pj_d cX11_stitchAt 10 (.aload_n 0) 1 11 := ⟨by decide +kernel, rfl⟩
theorem dd_Md_stitchAt_11 : pj_d cX11_stitchAt 11 (.getfield 7) 3 14 := ⟨by decide +kernel, rfl⟩
theorem dd_Md_stitchAt_14 : pj_d cX11_stitchAt 14 (.iconst 0) 1 15 := ⟨by decide +kernel, rfl⟩
theorem dd_Md_stitchAt_15 : pj_d cX11_stitchAt 15 (.iaload) 1 16 := ⟨by decide +kernel, rfl⟩
theorem dd_Md_stitchAt_16 : pj_d cX11_stitchAt 16 (.irem) 1 17 := ⟨by decide +kernel, rfl⟩
theorem dd_Md_stitchAt_17 : pj_d cX11_stitchAt 17 (.istore_n 3) 1 18 := ⟨by decide +kernel, rfl⟩
theorem dd_Md_stitchAt_18 : pj_d cX11_stitchAt 18 (.bipush 8) 2 20 := ⟨by decide +kernel, rfl⟩
theorem dd_Md_stitchAt_20 : pj_d cX11_stitchAt 20 (.iload_n 2) 1 21 := ⟨by decide +kernel, rfl⟩
theorem dd_Md_stitchAt_21 : pj_d cX11_stitchAt 21 (.imul) 1 22 := ⟨by decide +kernel, rfl⟩
theorem dd_Md_stitchAt_22 : pj_d cX11_stitchAt 22 (.iload_n 2) 1 23 := ⟨by decide +kernel, rfl⟩
theorem dd_Md_stitchAt_23 : pj_d cX11_stitchAt 23 (.iconst 2) 1 24 := ⟨by decide +kernel, rfl⟩
theorem dd_Md_stitchAt_24 : pj_d cX11_stitchAt 24 (.irem) 1 25 := ⟨by decide +kernel, rfl⟩
theorem dd_Md_stitchAt_25 : pj_dj cX11_stitchAt 25 (.ifCond .ne 7) 7 28 32 := ⟨by decide +kernel, rfl, by decide⟩
theorem dd_Md_stitchAt_28 : pj_d cX11_stitchAt 28 (.iload_n 3) 1 29 := ⟨by decide +kernel, rfl⟩
theorem dd_Md_stitchAt_29 : pj_dj cX11_stitchAt 29 (.goto 13) 13 32 42 := ⟨by decide +kernel, rfl, by decide⟩
theorem dd_Md_stitchAt_32 : pj_d cX11_stitchAt 32 (.aload_n 0) 1 33 := ⟨by decide +kernel, rfl⟩
theorem dd_Md_stitchAt_33 : pj_d cX11_stitchAt 33 (.getfield 7) 3 36 := ⟨by decide +kernel, rfl⟩
theorem dd_Md_stitchAt_36 : pj_d cX11_stitchAt 36 (.iconst 0) 1 37 := ⟨by decide +kernel, rfl⟩
theorem dd_Md_stitchAt_37 : pj_d cX11_stitchAt 37 (.iaload) 1 38 := ⟨by decide +kernel, rfl⟩
theorem dd_Md_stitchAt_38 : pj_d cX11_stitchAt 38 (.iconst 1) 1 39 := ⟨by decide +kernel, rfl⟩
theorem dd_Md_stitchAt_39 : pj_d cX11_stitchAt 39 (.isub) 1 40 := ⟨by decide +kernel, rfl⟩
theorem dd_Md_stitchAt_40 : pj_d cX11_stitchAt 40 (.iload_n 3) 1 41 := ⟨by decide +kernel, rfl⟩
theorem dd_Md_stitchAt_41 : pj_d cX11_stitchAt 41 (.isub) 1 42 := ⟨by decide +kernel, rfl⟩
theorem dd_Md_stitchAt_42 : pj_d cX11_stitchAt 42 (.iadd) 1 43 := ⟨by decide +kernel, rfl⟩
theorem dd_Md_stitchAt_43 : pj_d cX11_stitchAt 43 (.ireturn) 1 44 := ⟨by decide +kernel, rfl⟩
set_option maxHeartbeats 4000000 in
set_option maxRecDepth 100000 in
theorem bt_Md_stitchAt_42 {B : pj_B} {A : Nat → Prop} {K : pj_K} {r0 : Int32} {z0 : pj_S} (hB : B.2.2.2.1 = pj_LM) (C : pj_C B A K cX11_stitchAt 4 RX11 1) (Q : pj_Qi B A K (some .int) r0 z0)  (t0 : Int32) (t1 : Int32) (z : pj_S) (H : Heap) (lo : List Loc) (ls : Array Slot) (h : Md_stitchAt_42 t0 t1 z = some (r0, z0)) (P : pj_P B A K z H lo) (hl : lv_has ls 4 []) : pj_W K H lo 42 ls [.int t0, .int t1] := by
  unfold Md_stitchAt_42 at h
  refine pj_iadd C dd_Md_stitchAt_42 ?_
  exact pj_iret C Q P h dd_Md_stitchAt_43
set_option maxHeartbeats 4000000 in
set_option maxRecDepth 100000 in
theorem ct_Md_stitchAt {l : Launch} {B : pj_B} (hB : B.2.2.2.1 = pj_LM) {v1 : Int32} {z : pj_S} {r0 : Int32} {z0 : pj_S} (h : Md_stitchAt v1 z = some (r0, z0)) : pj_Mi l yX11_stitchAt cX11_stitchAt 4 (some .int) 1 [.ref (B.2.1 0), .int v1] B z r0 z0 := by
  refine pj_meti (own := RX11) (by decide +kernel) rfl (Nat.le_of_ble_eq_true rfl) ?_
  intro A K hK C Q H lo ls P hl
  have hl : lv_has ls 4 [(0, .ref (B.2.1 0)), (1, .int v1)] := hl
  unfold Md_stitchAt at h
  refine pj_iload_n C dd_Md_stitchAt_0 rfl hl 1 rfl ?_
  refine pj_aload_n C dd_Md_stitchAt_1 rfl hl 0 rfl ?_
  refine pj_getR C P 0 (LM0 hB) rfl fl_Md_7 dd_Md_stitchAt_2 ?_
  refine pj_iconst (v := (nI 0)) C dd_Md_stitchAt_5 rfl ?_
  refine pj_iald C P 1 (LM1 hB) h dd_Md_stitchAt_6 (fun h => ?_)
  refine pj_idiv C h dd_Md_stitchAt_7 (fun h => ?_)
  refine pj_istb_n [(0, .ref (B.2.1 0)), (1, .int v1)] C h dd_Md_stitchAt_8 rfl hl (by decide) rfl (fun x1 ls h hl => ?_)
  refine pj_iload_n C dd_Md_stitchAt_9 rfl hl 2 rfl ?_
  refine pj_aload_n C dd_Md_stitchAt_10 rfl hl 1 rfl ?_
  refine pj_getR C P 0 (LM0 hB) rfl fl_Md_7 dd_Md_stitchAt_11 ?_
  refine pj_iconst (v := (nI 0)) C dd_Md_stitchAt_14 rfl ?_
  refine pj_iald C P 1 (LM1 hB) h dd_Md_stitchAt_15 (fun h => ?_)
  refine pj_irem C h dd_Md_stitchAt_16 (fun h => ?_)
  refine pj_istb_n [(2, .int x1), (0, .ref (B.2.1 0)), (1, .int v1)] C h dd_Md_stitchAt_17 rfl hl (by decide) rfl (fun x2 ls h hl => ?_)
  refine pj_bipush (v := (nI 8)) C dd_Md_stitchAt_18 rfl ?_
  refine pj_iload_n C dd_Md_stitchAt_20 rfl hl 1 rfl ?_
  refine pj_imul C dd_Md_stitchAt_21 ?_
  refine pj_iload_n C dd_Md_stitchAt_22 rfl hl 1 rfl ?_
  refine pj_iconst (v := (nI 2)) C dd_Md_stitchAt_23 rfl ?_
  refine pj_irem C h dd_Md_stitchAt_24 (fun h => ?_)
  refine pj_if_ne C h dd_Md_stitchAt_25 (fun h => ?_) (fun h => ?_)
  · refine pj_aload_n C dd_Md_stitchAt_32 rfl hl 2 rfl ?_
    refine pj_getR C P 0 (LM0 hB) rfl fl_Md_7 dd_Md_stitchAt_33 ?_
    refine pj_iconst (v := (nI 0)) C dd_Md_stitchAt_36 rfl ?_
    refine pj_iald C P 1 (LM1 hB) h dd_Md_stitchAt_37 (fun h => ?_)
    refine pj_iconst (v := (nI 1)) C dd_Md_stitchAt_38 rfl ?_
    refine pj_isub C dd_Md_stitchAt_39 ?_
    refine pj_iload_n C dd_Md_stitchAt_40 rfl hl 0 rfl ?_
    refine pj_isub C dd_Md_stitchAt_41 ?_
    exact bt_Md_stitchAt_42 hB C Q _ _ _ _ _ _ h P (lv_sub hl [] rfl)
  · refine pj_iload_n C dd_Md_stitchAt_28 rfl hl 0 rfl ?_
    refine pj_goto C dd_Md_stitchAt_29 ?_
    exact bt_Md_stitchAt_42 hB C Q _ _ _ _ _ _ h P (lv_sub hl [] rfl)
theorem dd_Md_isHeld_0 : pj_d cX11_isHeld 0 (.aload_n 0) 1 1 := ⟨by decide +kernel, rfl⟩
theorem dd_Md_isHeld_1 : pj_d cX11_isHeld 1 (.getfield 38) 3 4 := ⟨by decide +kernel, rfl⟩
theorem dd_Md_isHeld_4 : pj_d cX11_isHeld 4 (.iload_n 1) 1 5 := ⟨by decide +kernel, rfl⟩
theorem dd_Md_isHeld_5 : pj_d cX11_isHeld 5 (.iaload) 1 6 := ⟨by decide +kernel, rfl⟩
theorem dd_Md_isHeld_6 : pj_d cX11_isHeld 6 (.iconst 1) 1 7 := ⟨by decide +kernel, rfl⟩
theorem dd_Md_isHeld_7 : pj_dj cX11_isHeld 7 (.if_icmp .ne 51) 51 10 58 := ⟨by decide +kernel, rfl, by decide⟩
theorem dd_Md_isHeld_10 : pj_d cX11_isHeld 10 (.aload_n 0) 1 11 := ⟨by decide +kernel, rfl⟩
theorem dd_Md_isHeld_11 : pj_d cX11_isHeld 11 (.getfield 41) 3 14 := ⟨by decide +kernel, rfl⟩
theorem dd_Md_isHeld_14 : pj_d cX11_isHeld 14 (.iload_n 1) 1 15 := ⟨by decide +kernel, rfl⟩
theorem dd_Md_isHeld_15 : pj_d cX11_isHeld 15 (.iaload) 1 16 := ⟨by decide +kernel, rfl⟩
theorem dd_Md_isHeld_16 : pj_d cX11_isHeld 16 (.iconst 1) 1 17 := ⟨by decide +kernel, rfl⟩
theorem dd_Md_isHeld_17 : pj_dj cX11_isHeld 17 (.if_icmp .eq 37) 37 20 54 := ⟨by decide +kernel, rfl, by decide⟩
theorem dd_Md_isHeld_20 : pj_d cX11_isHeld 20 (.aload_n 0) 1 21 := ⟨by decide +kernel, rfl⟩
theorem dd_Md_isHeld_21 : pj_d cX11_isHeld 21 (.getfield 7) 3 24 := ⟨by decide +kernel, rfl⟩
theorem dd_Md_isHeld_24 : pj_d cX11_isHeld 24 (.iconst 2) 1 25 := ⟨by decide +kernel, rfl⟩
theorem dd_Md_isHeld_25 : pj_d cX11_isHeld 25 (.iaload) 1 26 := ⟨by decide +kernel, rfl⟩
theorem dd_Md_isHeld_26 : pj_d cX11_isHeld 26 (.iconst 1) 1 27 := ⟨by decide +kernel, rfl⟩
theorem dd_Md_isHeld_27 : pj_dj cX11_isHeld 27 (.if_icmp .ne 18) 18 30 45 := ⟨by decide +kernel, rfl, by decide⟩
theorem dd_Md_isHeld_30 : pj_d cX11_isHeld 30 (.iload_n 1) 1 31 := ⟨by decide +kernel, rfl⟩
theorem dd_Md_isHeld_31 : pj_d cX11_isHeld 31 (.bipush 8) 2 33 := ⟨by decide +kernel, rfl⟩
theorem dd_Md_isHeld_33 : pj_d cX11_isHeld 33 (.idiv) 1 34 := ⟨by decide +kernel, rfl⟩
theorem dd_Md_isHeld_34 : pj_d cX11_isHeld 34 (.aload_n 0) 1 35 := ⟨by decide +kernel, rfl⟩
theorem dd_Md_isHeld_35 : pj_d cX11_isHeld 35 (.getfield 7) 3 38 := ⟨by decide +kernel, rfl⟩
theorem dd_Md_isHeld_38 : pj_d cX11_isHeld 38 (.iconst 1) 1 39 := ⟨by decide +kernel, rfl⟩
theorem dd_Md_isHeld_39 : pj_d cX11_isHeld 39 (.iaload) 1 40 := ⟨by decide +kernel, rfl⟩
theorem dd_Md_isHeld_40 : pj_d cX11_isHeld 40 (.iconst 1) 1 41 := ⟨by decide +kernel, rfl⟩
theorem dd_Md_isHeld_41 : pj_d cX11_isHeld 41 (.isub) 1 42 := ⟨by decide +kernel, rfl⟩
theorem dd_Md_isHeld_42 : pj_dj cX11_isHeld 42 (.if_icmp .eq 12) 12 45 54 := ⟨by decide +kernel, rfl, by decide⟩
theorem dd_Md_isHeld_45 : pj_d cX11_isHeld 45 (.aload_n 0) 1 46 := ⟨by decide +kernel, rfl⟩
theorem dd_Md_isHeld_46 : pj_d cX11_isHeld 46 (.getfield 44) 3 49 := ⟨by decide +kernel, rfl⟩
theorem dd_Md_isHeld_49 : pj_d cX11_isHeld 49 (.iload_n 1) 1 50 := ⟨by decide +kernel, rfl⟩
theorem dd_Md_isHeld_50 : pj_d cX11_isHeld 50 (.iaload) 1 51 := ⟨by decide +kernel, rfl⟩
theorem dd_Md_isHeld_51 : pj_dj cX11_isHeld 51 (.ifCond .le 7) 7 54 58 := ⟨by decide +kernel, rfl, by decide⟩
theorem dd_Md_isHeld_54 : pj_d cX11_isHeld 54 (.iconst 1) 1 55 := ⟨by decide +kernel, rfl⟩
theorem dd_Md_isHeld_55 : pj_dj cX11_isHeld 55 (.goto 4) 4 58 59 := ⟨by decide +kernel, rfl, by decide⟩
theorem dd_Md_isHeld_58 : pj_d cX11_isHeld 58 (.iconst 0) 1 59 := ⟨by decide +kernel, rfl⟩
theorem dd_Md_isHeld_59 : pj_d cX11_isHeld 59 (.ireturn) 1 60 := ⟨by decide +kernel, rfl⟩
set_option maxHeartbeats 4000000 in
set_option maxRecDepth 100000 in
theorem bt_Md_isHeld_54 {B : pj_B} {A : Nat → Prop} {K : pj_K} {r0 : Int32} {z0 : pj_S} (hB : B.2.2.2.1 = pj_LM) (C : pj_C B A K cX11_isHeld 2 RX11 1) (Q : pj_Qi B A K (some .boolean) r0 z0)   (z : pj_S) (H : Heap) (lo : List Loc) (ls : Array Slot) (h : Md_isHeld_54 z = some (r0, z0)) (P : pj_P B A K z H lo) (hl : lv_has ls 2 []) : pj_W K H lo 54 ls [] := by
  unfold Md_isHeld_54 at h
  refine pj_iconst (v := (nI 1)) C dd_Md_isHeld_54 rfl ?_
  refine pj_goto C dd_Md_isHeld_55 ?_
  exact pj_zret C Q P h dd_Md_isHeld_59
set_option maxHeartbeats 4000000 in
set_option maxRecDepth 100000 in
theorem bt_Md_isHeld_45 {B : pj_B} {A : Nat → Prop} {K : pj_K} {r0 : Int32} {z0 : pj_S} (hB : B.2.2.2.1 = pj_LM) (C : pj_C B A K cX11_isHeld 2 RX11 1) (Q : pj_Qi B A K (some .boolean) r0 z0)  (v1 : Int32) (z : pj_S) (H : Heap) (lo : List Loc) (ls : Array Slot) (h : Md_isHeld_45 v1 z = some (r0, z0)) (P : pj_P B A K z H lo) (hl : lv_has ls 2 [(0, .ref (B.2.1 0)), (1, .int v1)]) : pj_W K H lo 45 ls [] := by
  unfold Md_isHeld_45 at h
  refine pj_aload_n C dd_Md_isHeld_45 rfl hl 0 rfl ?_
  refine pj_getR C P 0 (LM0 hB) rfl fl_Md_44 dd_Md_isHeld_46 ?_
  refine pj_iload_n C dd_Md_isHeld_49 rfl hl 1 rfl ?_
  refine pj_iald C P 11 (LM11 hB) h dd_Md_isHeld_50 (fun h => ?_)
  refine pj_if_le C h dd_Md_isHeld_51 (fun h => ?_) (fun h => ?_)
  · refine pj_iconst (v := (nI 0)) C dd_Md_isHeld_58 rfl ?_
    exact pj_zret C Q P h dd_Md_isHeld_59
  · exact bt_Md_isHeld_54 hB C Q _ _ _ _ h P (lv_sub hl [] rfl)
set_option maxHeartbeats 4000000 in
set_option maxRecDepth 100000 in
theorem ct_Md_isHeld {l : Launch} {B : pj_B} (hB : B.2.2.2.1 = pj_LM) {v1 : Int32} {z : pj_S} {r0 : Int32} {z0 : pj_S} (h : Md_isHeld v1 z = some (r0, z0)) : pj_Mi l yX11_isHeld cX11_isHeld 2 (some .boolean) 1 [.ref (B.2.1 0), .int v1] B z r0 z0 := by
  refine pj_meti (own := RX11) (by decide +kernel) rfl (Nat.le_of_ble_eq_true rfl) ?_
  intro A K hK C Q H lo ls P hl
  have hl : lv_has ls 2 [(0, .ref (B.2.1 0)), (1, .int v1)] := hl
  unfold Md_isHeld at h
  refine pj_aload_n C dd_Md_isHeld_0 rfl hl 0 rfl ?_
  refine pj_getR C P 0 (LM0 hB) rfl fl_Md_38 dd_Md_isHeld_1 ?_
  refine pj_iload_n C dd_Md_isHeld_4 rfl hl 1 rfl ?_
  refine pj_iald C P 9 (LM9 hB) h dd_Md_isHeld_5 (fun h => ?_)
  refine pj_iconst (v := (nI 1)) C dd_Md_isHeld_6 rfl ?_
  refine pj_ic_ne C h dd_Md_isHeld_7 (fun h => ?_) (fun h => ?_)
  · refine pj_iconst (v := (nI 0)) C dd_Md_isHeld_58 rfl ?_
    exact pj_zret C Q P h dd_Md_isHeld_59
  · refine pj_aload_n C dd_Md_isHeld_10 rfl hl 0 rfl ?_
    refine pj_getR C P 0 (LM0 hB) rfl fl_Md_41 dd_Md_isHeld_11 ?_
    refine pj_iload_n C dd_Md_isHeld_14 rfl hl 1 rfl ?_
    refine pj_iald C P 10 (LM10 hB) h dd_Md_isHeld_15 (fun h => ?_)
    refine pj_iconst (v := (nI 1)) C dd_Md_isHeld_16 rfl ?_
    refine pj_ic_eq C h dd_Md_isHeld_17 (fun h => ?_) (fun h => ?_)
    · exact bt_Md_isHeld_54 hB C Q _ _ _ _ h P (lv_sub hl [] rfl)
    · refine pj_aload_n C dd_Md_isHeld_20 rfl hl 0 rfl ?_
      refine pj_getR C P 0 (LM0 hB) rfl fl_Md_7 dd_Md_isHeld_21 ?_
      refine pj_iconst (v := (nI 2)) C dd_Md_isHeld_24 rfl ?_
      refine pj_iald C P 1 (LM1 hB) h dd_Md_isHeld_25 (fun h => ?_)
      refine pj_iconst (v := (nI 1)) C dd_Md_isHeld_26 rfl ?_
      refine pj_ic_ne C h dd_Md_isHeld_27 (fun h => ?_) (fun h => ?_)
      · exact bt_Md_isHeld_45 hB C Q _ _ _ _ _ h P (lv_sub hl [0, 1] rfl)
      · refine pj_iload_n C dd_Md_isHeld_30 rfl hl 1 rfl ?_
        refine pj_bipush (v := (nI 8)) C dd_Md_isHeld_31 rfl ?_
        refine pj_idiv C h dd_Md_isHeld_33 (fun h => ?_)
        refine pj_aload_n C dd_Md_isHeld_34 rfl hl 0 rfl ?_
        refine pj_getR C P 0 (LM0 hB) rfl fl_Md_7 dd_Md_isHeld_35 ?_
        refine pj_iconst (v := (nI 1)) C dd_Md_isHeld_38 rfl ?_
        refine pj_iald C P 1 (LM1 hB) h dd_Md_isHeld_39 (fun h => ?_)
        refine pj_iconst (v := (nI 1)) C dd_Md_isHeld_40 rfl ?_
        refine pj_isub C dd_Md_isHeld_41 ?_
        refine pj_ic_eq C h dd_Md_isHeld_42 (fun h => ?_) (fun h => ?_)
        · exact bt_Md_isHeld_54 hB C Q _ _ _ _ h P (lv_sub hl [] rfl)
        · exact bt_Md_isHeld_45 hB C Q _ _ _ _ _ h P (lv_sub hl [0, 1] rfl)
theorem dd_Md_goes_0 : pj_d cX11_goes 0 (.aload_n 0) 1 1 := ⟨by decide +kernel, rfl⟩
theorem dd_Md_goes_1 : pj_d cX11_goes 1 (.getfield 38) 3 4 := ⟨by decide +kernel, rfl⟩
theorem dd_Md_goes_4 : pj_d cX11_goes 4 (.iload_n 1) 1 5 := ⟨by decide +kernel, rfl⟩
theorem dd_Md_goes_5 : pj_d cX11_goes 5 (.iconst 0) 1 6 := ⟨by decide +kernel, rfl⟩
theorem dd_Md_goes_6 : pj_d cX11_goes 6 (.iastore) 1 7 := ⟨by decide +kernel, rfl⟩
theorem dd_Md_goes_7 : pj_d cX11_goes 7 (.aload_n 0) 1 8 := ⟨by decide +kernel, rfl⟩
theorem dd_Md_goes_8 : pj_d cX11_goes 8 (.iload_n 1) 1 9 := ⟨by decide +kernel, rfl⟩
theorem dd_Md_goes_9 : pj_d cX11_goes 9 (.iconst (-1)) 1 10 := ⟨by decide +kernel, rfl⟩
theorem dd_Md_goes_10 : pj_d cX11_goes 10 (.invokevirtual 214) 3 13 := ⟨by decide +kernel, rfl⟩
theorem dd_Md_goes_13 : pj_d cX11_goes 13 (.return_) 1 14 := ⟨by decide +kernel, rfl⟩
set_option maxHeartbeats 4000000 in
set_option maxRecDepth 100000 in
theorem ct_Md_goes {l : Launch} {B : pj_B} (hB : B.2.2.2.1 = pj_LM) {v1 : Int32} {z : pj_S} {r0 : Unit} {z0 : pj_S} (h : Md_goes v1 z = some (r0, z0)) : pj_Mv l yX11_goes cX11_goes 2 none 3 [.ref (B.2.1 0), .int v1] B z r0 z0 := by
  refine pj_metv (own := RX11) (by decide +kernel) rfl (Nat.le_of_ble_eq_true rfl) ?_
  intro A K hK C Q H lo ls P hl
  have hl : lv_has ls 2 [(0, .ref (B.2.1 0)), (1, .int v1)] := hl
  unfold Md_goes at h
  refine pj_aload_n C dd_Md_goes_0 rfl hl 0 rfl ?_
  refine pj_getR C P 0 (LM0 hB) rfl fl_Md_38 dd_Md_goes_1 ?_
  refine pj_iload_n C dd_Md_goes_4 rfl hl 1 rfl ?_
  refine pj_iconst (v := (nI 0)) C dd_Md_goes_5 rfl ?_
  refine pj_iast C P 9 (LM9 hB) h dd_Md_goes_6 (fun H lo z1 h P => ?_)
  refine pj_aload_n C dd_Md_goes_7 rfl hl 0 rfl ?_
  refine pj_iload_n C dd_Md_goes_8 rfl hl 1 rfl ?_
  refine pj_iconst (v := (-1 : Int32)) C dd_Md_goes_9 rfl ?_
  obtain ⟨r4, z3, e2, h⟩ := pj_cE h
  refine pj_cVv (st := []) [.int v1, .int (-1 : Int32)] C P 0 (LM0 hB) rfl (ct_Md_holds hB e2) cl_Md_214 rfl (by decide) (by decide) hl.1 (Nat.le_of_ble_eq_true rfl) dd_Md_goes_10 (fun H lo P => ?_)
  exact pj_vret C Q P h dd_Md_goes_13
theorem dd_Md_pulls_0 : pj_d cX11_pulls 0 (.iload_n 2) 1 1 := ⟨by decide +kernel, rfl⟩
theorem dd_Md_pulls_1 : pj_d cX11_pulls 1 (.iconst 1) 1 2 := ⟨by decide +kernel, rfl⟩
theorem dd_Md_pulls_2 : pj_dj cX11_pulls 2 (.if_icmp .ne 7) 7 5 9 := ⟨by decide +kernel, rfl, by decide⟩
theorem dd_Md_pulls_5 : pj_d cX11_pulls 5 (.iconst 1) 1 6 := ⟨by decide +kernel, rfl⟩
theorem dd_Md_pulls_6 : pj_dj cX11_pulls 6 (.goto 4) 4 9 10 := ⟨by decide +kernel, rfl, by decide⟩
theorem dd_Md_pulls_9 : pj_d cX11_pulls 9 (.iconst (-1)) 1 10 := ⟨by decide +kernel, rfl⟩
theorem dd_Md_pulls_10 : pj_d cX11_pulls 10 (.istore 5) 2 12 := ⟨by decide +kernel, rfl⟩
theorem dd_Md_pulls_12 : pj_d cX11_pulls 12 (.iload_n 1) 1 13 := ⟨by decide +kernel, rfl⟩
theorem dd_Md_pulls_13 : pj_d cX11_pulls 13 (.istore 6) 2 15 := ⟨by decide +kernel, rfl⟩
theorem dd_Md_pulls_15 : pj_d cX11_pulls 15 (.iconst 1) 1 16 := ⟨by decide +kernel, rfl⟩
theorem dd_Md_pulls_16 : pj_d cX11_pulls 16 (.istore 7) 2 18 := ⟨by decide +kernel, rfl⟩
theorem dd_Md_pulls_18 : pj_d cX11_pulls 18 (.aload_n 0) 1 19 := ⟨by decide +kernel, rfl⟩
theorem dd_Md_pulls_19 : pj_d cX11_pulls 19 (.iconst 0) 1 20 := ⟨by decide +kernel, rfl⟩
theorem dd_Md_pulls_20 : pj_d cX11_pulls 20 (.putfield 249) 3 23 := ⟨by decide +kernel, rfl⟩
theorem dd_Md_pulls_23 : pj_d cX11_pulls 23 (.aload_n 0) 1 24 := ⟨by decide +kernel, rfl⟩
theorem dd_Md_pulls_24 : pj_d cX11_pulls 24 (.iconst 0) 1 25 := ⟨by decide +kernel, rfl⟩
theorem dd_Md_pulls_25 : pj_d cX11_pulls 25 (.putfield 252) 3 28 := ⟨by decide +kernel, rfl⟩
theorem dd_Md_pulls_28 : pj_d cX11_pulls 28 (.aload_n 0) 1 29 := ⟨by decide +kernel, rfl⟩
theorem dd_Md_pulls_29 : pj_d cX11_pulls 29 (.iconst (-1)) 1 30 := ⟨by decide +kernel, rfl⟩
theorem dd_Md_pulls_30 : pj_d cX11_pulls 30 (.putfield 255) 3 33 := ⟨by decide +kernel, rfl⟩
theorem dd_Md_pulls_33 : pj_d cX11_pulls 33 (.iload 7) 2 35 := ⟨by decide +kernel, rfl⟩
theorem dd_Md_pulls_35 : pj_dj cX11_pulls 35 (.ifCond .eq 129) 129 38 164 := ⟨by decide +kernel, rfl, by decide⟩
theorem dd_Md_pulls_38 : pj_d cX11_pulls 38 (.aload_n 0) 1 39 := ⟨by decide +kernel, rfl⟩
theorem dd_Md_pulls_39 : pj_d cX11_pulls 39 (.iload 6) 2 41 := ⟨by decide +kernel, rfl⟩
theorem dd_Md_pulls_41 : pj_d cX11_pulls 41 (.invokevirtual 258) 3 44 := ⟨by decide +kernel, rfl⟩
theorem dd_Md_pulls_44 : pj_d cX11_pulls 44 (.istore 8) 2 46 := ⟨by decide +kernel, rfl⟩
theorem dd_Md_pulls_46 : pj_d cX11_pulls 46 (.aload_n 0) 1 47 := ⟨by decide +kernel, rfl⟩
theorem dd_Md_pulls_47 : pj_d cX11_pulls 47 (.iload 8) 2 49 := ⟨by decide +kernel, rfl⟩
theorem dd_Md_pulls_49 : pj_d cX11_pulls 49 (.invokevirtual 217) 3 52 := ⟨by decide +kernel, rfl⟩
theorem dd_Md_pulls_52 : pj_dj cX11_pulls 52 (.ifCond .eq 10) 10 55 62 := ⟨by decide +kernel, rfl, by decide⟩
theorem dd_Md_pulls_55 : pj_d cX11_pulls 55 (.aload_n 0) 1 56 := ⟨by decide +kernel, rfl⟩
theorem dd_Md_pulls_56 : pj_d cX11_pulls 56 (.iload 6) 2 58 := ⟨by decide +kernel, rfl⟩
theorem dd_Md_pulls_58 : pj_d cX11_pulls 58 (.putfield 255) 3 61 := ⟨by decide +kernel, rfl⟩
theorem dd_Md_pulls_61 : pj_d cX11_pulls 61 (.return_) 1 62 := ⟨by decide +kernel, rfl⟩
theorem dd_Md_pulls_62 : pj_d cX11_pulls 62 (.aload_n 0) 1 63 := ⟨by decide +kernel, rfl⟩
theorem dd_Md_pulls_63 : pj_d cX11_pulls 63 (.dup) 1 64 := ⟨by decide +kernel, rfl⟩
theorem dd_Md_pulls_64 : pj_d cX11_pulls 64 (.getfield 252) 3 67 := ⟨by decide +kernel, rfl⟩
theorem dd_Md_pulls_67 : pj_d cX11_pulls 67 (.iconst 1) 1 68 := ⟨by decide +kernel, rfl⟩
theorem dd_Md_pulls_68 : pj_d cX11_pulls 68 (.iadd) 1 69 := ⟨by decide +kernel, rfl⟩
theorem dd_Md_pulls_69 : pj_d cX11_pulls 69 (.putfield 252) 3 72 := ⟨by decide +kernel, rfl⟩
theorem dd_Md_pulls_72 : pj_d cX11_pulls 72 (.aload_n 0) 1 73 := ⟨by decide +kernel, rfl⟩
theorem dd_Md_pulls_73 : pj_d cX11_pulls 73 (.getfield 38) 3 76 := ⟨by decide +kernel, rfl⟩
theorem dd_Md_pulls_76 : pj_d cX11_pulls 76 (.iload 8) 2 78 := ⟨by decide +kernel, rfl⟩
theorem dd_Md_pulls_78 : pj_d cX11_pulls 78 (.iaload) 1 79 := ⟨by decide +kernel, rfl⟩
theorem dd_Md_pulls_79 : pj_d cX11_pulls 79 (.iconst 1) 1 80 := ⟨by decide +kernel, rfl⟩
theorem dd_Md_pulls_80 : pj_dj cX11_pulls 80 (.if_icmp .ne 31) 31 83 111 := ⟨by decide +kernel, rfl, by decide⟩
theorem dd_Md_pulls_83 : pj_d cX11_pulls 83 (.aload_n 0) 1 84 := ⟨by decide +kernel, rfl⟩
theorem dd_Md_pulls_84 : pj_d cX11_pulls 84 (.iload 8) 2 86 := ⟨by decide +kernel, rfl⟩
theorem dd_Md_pulls_86 : pj_d cX11_pulls 86 (.invokevirtual 223) 3 89 := ⟨by decide +kernel, rfl⟩
theorem dd_Md_pulls_89 : pj_d cX11_pulls 89 (.aload_n 0) 1 90 := ⟨by decide +kernel, rfl⟩
theorem dd_Md_pulls_90 : pj_d cX11_pulls 90 (.dup) 1 91 := ⟨by decide +kernel, rfl⟩
theorem dd_Md_pulls_91 : pj_d cX11_pulls 91 (.getfield 249) 3 94 := ⟨by decide +kernel, rfl⟩
theorem dd_Md_pulls_94 : pj_d cX11_pulls 94 (.iconst 1) 1 95 := ⟨by decide +kernel, rfl⟩
theorem dd_Md_pulls_95 : pj_d cX11_pulls 95 (.iadd) 1 96 := ⟨by decide +kernel, rfl⟩
theorem dd_Md_pulls_96 : pj_d cX11_pulls 96 (.putfield 249) 3 99 := ⟨by decide +kernel, rfl⟩
theorem dd_Md_pulls_99 : pj_d cX11_pulls 99 (.iload 4) 2 101 := ⟨by decide +kernel, rfl⟩
theorem dd_Md_pulls_101 : pj_dj cX11_pulls 101 (.ifCond .eq 10) 10 104 111 := ⟨by decide +kernel, rfl, by decide⟩
theorem dd_Md_pulls_104 : pj_d cX11_pulls 104 (.aload_n 0) 1 105 := ⟨by decide +kernel, rfl⟩
theorem dd_Md_pulls_105 : pj_d cX11_pulls 105 (.iload 8) 2 107 := ⟨by decide +kernel, rfl⟩
theorem dd_Md_pulls_107 : pj_d cX11_pulls 107 (.iconst 2) 1 108 := ⟨by decide +kernel, rfl⟩
theorem dd_Md_pulls_108 : pj_d cX11_pulls 108 (.invokevirtual 243) 3 111 := ⟨by decide +kernel, rfl⟩
theorem dd_Md_pulls_111 : pj_d cX11_pulls 111 (.aload_n 0) 1 112 := ⟨by decide +kernel, rfl⟩
theorem dd_Md_pulls_112 : pj_d cX11_pulls 112 (.getfield 249) 3 115 := ⟨by decide +kernel, rfl⟩
theorem dd_Md_pulls_115 : pj_d cX11_pulls 115 (.iload_n 3) 1 116 := ⟨by decide +kernel, rfl⟩
theorem dd_Md_pulls_116 : pj_dj cX11_pulls 116 (.if_icmp .ge 35) 35 119 151 := ⟨by decide +kernel, rfl, by decide⟩
theorem dd_Md_pulls_119 : pj_d cX11_pulls 119 (.iload_n 2) 1 120 := ⟨by decide +kernel, rfl⟩
theorem dd_Md_pulls_120 : pj_d cX11_pulls 120 (.iconst 1) 1 121 := ⟨by decide +kernel, rfl⟩
theorem dd_Md_pulls_121 : pj_dj cX11_pulls 121 (.if_icmp .ne 16) 16 124 137 := ⟨by decide +kernel, rfl, by decide⟩
theorem dd_Md_pulls_124 : pj_d cX11_pulls 124 (.aload_n 0) 1 125 := ⟨by decide +kernel, rfl⟩
theorem dd_Md_pulls_125 : pj_d cX11_pulls 125 (.iload 6) 2 127 := ⟨by decide +kernel, rfl⟩
theorem dd_Md_pulls_127 : pj_d cX11_pulls 127 (.iconst 0) 1 128 := ⟨by decide +kernel, rfl⟩
theorem dd_Md_pulls_128 : pj_d cX11_pulls 128 (.invokevirtual 261) 3 131 := ⟨by decide +kernel, rfl⟩
theorem dd_Md_pulls_131 : pj_dj cX11_pulls 131 (.ifCond .eq 16) 16 134 147 := ⟨by decide +kernel, rfl, by decide⟩
theorem dd_Md_pulls_134 : pj_dj cX11_pulls 134 (.goto 17) 17 137 151 := ⟨by decide +kernel, rfl, by decide⟩
theorem dd_Md_pulls_137 : pj_d cX11_pulls 137 (.aload_n 0) 1 138 := ⟨by decide +kernel, rfl⟩
theorem dd_Md_pulls_138 : pj_d cX11_pulls 138 (.iload 6) 2 140 := ⟨by decide +kernel, rfl⟩
theorem dd_Md_pulls_140 : pj_d cX11_pulls 140 (.iconst 1) 1 141 := ⟨by decide +kernel, rfl⟩
theorem dd_Md_pulls_141 : pj_d cX11_pulls 141 (.invokevirtual 261) 3 144 := ⟨by decide +kernel, rfl⟩
theorem dd_Md_pulls_144 : pj_dj cX11_pulls 144 (.ifCond .ne 7) 7 147 151 := ⟨by decide +kernel, rfl, by decide⟩
theorem dd_Md_pulls_147 : pj_d cX11_pulls 147 (.iconst 1) 1 148 := ⟨by decide +kernel, rfl⟩
theorem dd_Md_pulls_148 : pj_dj cX11_pulls 148 (.goto 4) 4 151 152 := ⟨by decide +kernel, rfl, by decide⟩
theorem dd_Md_pulls_151 : pj_d cX11_pulls 151 (.iconst 0) 1 152 := ⟨by decide +kernel, rfl⟩
theorem dd_Md_pulls_152 : pj_d cX11_pulls 152 (.istore 7) 2 154 := ⟨by decide +kernel, rfl⟩
theorem dd_Md_pulls_154 : pj_d cX11_pulls 154 (.iload 6) 2 156 := ⟨by decide +kernel, rfl⟩
theorem dd_Md_pulls_156 : pj_d cX11_pulls 156 (.iload 5) 2 158 := ⟨by decide +kernel, rfl⟩
theorem dd_Md_pulls_158 : pj_d cX11_pulls 158 (.iadd) 1 159 := ⟨by decide +kernel, rfl⟩
theorem dd_Md_pulls_159 : pj_d cX11_pulls 159 (.istore 6) 2 161 := ⟨by decide +kernel, rfl⟩
theorem dd_Md_pulls_161 : pj_dj cX11_pulls 161 (.goto (-128)) (-128) 164 33 := ⟨by decide +kernel, rfl, by decide⟩
theorem dd_Md_pulls_164 : pj_d cX11_pulls 164 (.return_) 1 165 := ⟨by decide +kernel, rfl⟩
set_option maxHeartbeats 4000000 in
set_option maxRecDepth 100000 in
theorem bt_Md_pulls_152 {B : pj_B} {A : Nat → Prop} {K : pj_K} {r0 : Unit} {z0 : pj_S} (hB : B.2.2.2.1 = pj_LM) (C : pj_C B A K cX11_pulls 9 RX11 4) (Q : pj_Qv B A K none r0 z0) (s33 : Int32 → Int32 → Int32 → Int32 → Int32 → Int32 → pj_S → Option (Unit × pj_S)) (k33 : ∀ (v2 : Int32) (v3 : Int32) (v4 : Int32) (v5 : Int32) (v6 : Int32) (v7 : Int32) (z : pj_S) (H : Heap) (lo : List Loc) (ls : Array Slot), s33 v2 v3 v4 v5 v6 v7 z = some (r0, z0) → pj_P B A K z H lo → lv_has ls 9 [(0, .ref (B.2.1 0)), (2, .int v2), (3, .int v3), (4, .int v4), (5, .int v5), (6, .int v6), (7, .int v7)] → pj_W K H lo 33 ls []) (v2 : Int32) (v3 : Int32) (v4 : Int32) (v5 : Int32) (v6 : Int32) (t0 : Int32) (z : pj_S) (H : Heap) (lo : List Loc) (ls : Array Slot) (h : Md_pulls_152 s33 v2 v3 v4 v5 v6 t0 z = some (r0, z0)) (P : pj_P B A K z H lo) (hl : lv_has ls 9 [(0, .ref (B.2.1 0)), (2, .int v2), (3, .int v3), (4, .int v4), (5, .int v5), (6, .int v6)]) : pj_W K H lo 152 ls [.int t0] := by
  unfold Md_pulls_152 at h
  refine pj_istore [(7, .int t0), (0, .ref (B.2.1 0)), (2, .int v2), (3, .int v3), (4, .int v4), (5, .int v5), (6, .int v6)] C dd_Md_pulls_152 hl (by decide) rfl (fun ls hl => ?_)
  refine pj_iload C dd_Md_pulls_154 hl 6 rfl ?_
  refine pj_iload C dd_Md_pulls_156 hl 5 rfl ?_
  refine pj_iadd C dd_Md_pulls_158 ?_
  refine pj_istb [(7, .int t0), (0, .ref (B.2.1 0)), (2, .int v2), (3, .int v3), (4, .int v4), (5, .int v5)] C h dd_Md_pulls_159 hl (by decide) rfl (fun x1 ls h hl => ?_)
  refine pj_goto C dd_Md_pulls_161 ?_
  exact k33 _ _ _ _ _ _ _ _ _ _ h P (lv_sub hl [2, 3, 4, 5, 6, 0, 1] rfl)
set_option maxHeartbeats 4000000 in
set_option maxRecDepth 100000 in
theorem bt_Md_pulls_147 {B : pj_B} {A : Nat → Prop} {K : pj_K} {r0 : Unit} {z0 : pj_S} (hB : B.2.2.2.1 = pj_LM) (C : pj_C B A K cX11_pulls 9 RX11 4) (Q : pj_Qv B A K none r0 z0) (s33 : Int32 → Int32 → Int32 → Int32 → Int32 → Int32 → pj_S → Option (Unit × pj_S)) (k33 : ∀ (v2 : Int32) (v3 : Int32) (v4 : Int32) (v5 : Int32) (v6 : Int32) (v7 : Int32) (z : pj_S) (H : Heap) (lo : List Loc) (ls : Array Slot), s33 v2 v3 v4 v5 v6 v7 z = some (r0, z0) → pj_P B A K z H lo → lv_has ls 9 [(0, .ref (B.2.1 0)), (2, .int v2), (3, .int v3), (4, .int v4), (5, .int v5), (6, .int v6), (7, .int v7)] → pj_W K H lo 33 ls []) (v2 : Int32) (v3 : Int32) (v4 : Int32) (v5 : Int32) (v6 : Int32) (z : pj_S) (H : Heap) (lo : List Loc) (ls : Array Slot) (h : Md_pulls_147 s33 v2 v3 v4 v5 v6 z = some (r0, z0)) (P : pj_P B A K z H lo) (hl : lv_has ls 9 [(0, .ref (B.2.1 0)), (2, .int v2), (3, .int v3), (4, .int v4), (5, .int v5), (6, .int v6)]) : pj_W K H lo 147 ls [] := by
  unfold Md_pulls_147 at h
  refine pj_iconst (v := (nI 1)) C dd_Md_pulls_147 rfl ?_
  refine pj_goto C dd_Md_pulls_148 ?_
  exact bt_Md_pulls_152 hB C Q s33 k33 _ _ _ _ _ _ _ _ _ _ h P (lv_sub hl [0, 1, 2, 3, 4, 5] rfl)
set_option maxHeartbeats 4000000 in
set_option maxRecDepth 100000 in
theorem bt_Md_pulls_151 {B : pj_B} {A : Nat → Prop} {K : pj_K} {r0 : Unit} {z0 : pj_S} (hB : B.2.2.2.1 = pj_LM) (C : pj_C B A K cX11_pulls 9 RX11 4) (Q : pj_Qv B A K none r0 z0) (s33 : Int32 → Int32 → Int32 → Int32 → Int32 → Int32 → pj_S → Option (Unit × pj_S)) (k33 : ∀ (v2 : Int32) (v3 : Int32) (v4 : Int32) (v5 : Int32) (v6 : Int32) (v7 : Int32) (z : pj_S) (H : Heap) (lo : List Loc) (ls : Array Slot), s33 v2 v3 v4 v5 v6 v7 z = some (r0, z0) → pj_P B A K z H lo → lv_has ls 9 [(0, .ref (B.2.1 0)), (2, .int v2), (3, .int v3), (4, .int v4), (5, .int v5), (6, .int v6), (7, .int v7)] → pj_W K H lo 33 ls []) (v2 : Int32) (v3 : Int32) (v4 : Int32) (v5 : Int32) (v6 : Int32) (z : pj_S) (H : Heap) (lo : List Loc) (ls : Array Slot) (h : Md_pulls_151 s33 v2 v3 v4 v5 v6 z = some (r0, z0)) (P : pj_P B A K z H lo) (hl : lv_has ls 9 [(0, .ref (B.2.1 0)), (2, .int v2), (3, .int v3), (4, .int v4), (5, .int v5), (6, .int v6)]) : pj_W K H lo 151 ls [] := by
  unfold Md_pulls_151 at h
  refine pj_iconst (v := (nI 0)) C dd_Md_pulls_151 rfl ?_
  exact bt_Md_pulls_152 hB C Q s33 k33 _ _ _ _ _ _ _ _ _ _ h P (lv_sub hl [0, 1, 2, 3, 4, 5] rfl)
set_option maxHeartbeats 4000000 in
set_option maxRecDepth 100000 in
theorem bt_Md_pulls_111 {B : pj_B} {A : Nat → Prop} {K : pj_K} {r0 : Unit} {z0 : pj_S} (hB : B.2.2.2.1 = pj_LM) (C : pj_C B A K cX11_pulls 9 RX11 4) (Q : pj_Qv B A K none r0 z0) (s33 : Int32 → Int32 → Int32 → Int32 → Int32 → Int32 → pj_S → Option (Unit × pj_S)) (k33 : ∀ (v2 : Int32) (v3 : Int32) (v4 : Int32) (v5 : Int32) (v6 : Int32) (v7 : Int32) (z : pj_S) (H : Heap) (lo : List Loc) (ls : Array Slot), s33 v2 v3 v4 v5 v6 v7 z = some (r0, z0) → pj_P B A K z H lo → lv_has ls 9 [(0, .ref (B.2.1 0)), (2, .int v2), (3, .int v3), (4, .int v4), (5, .int v5), (6, .int v6), (7, .int v7)] → pj_W K H lo 33 ls []) (v2 : Int32) (v3 : Int32) (v4 : Int32) (v5 : Int32) (v6 : Int32) (z : pj_S) (H : Heap) (lo : List Loc) (ls : Array Slot) (h : Md_pulls_111 s33 v2 v3 v4 v5 v6 z = some (r0, z0)) (P : pj_P B A K z H lo) (hl : lv_has ls 9 [(0, .ref (B.2.1 0)), (2, .int v2), (3, .int v3), (4, .int v4), (5, .int v5), (6, .int v6)]) : pj_W K H lo 111 ls [] := by
  unfold Md_pulls_111 at h
  refine pj_aload_n C dd_Md_pulls_111 rfl hl 0 rfl ?_
  refine pj_getI C P 0 (LM0 hB) rfl fl_Md_249 dd_Md_pulls_112 ?_
  refine pj_iload_n C dd_Md_pulls_115 rfl hl 2 rfl ?_
  refine pj_ic_ge C h dd_Md_pulls_116 (fun h => ?_) (fun h => ?_)
  · exact bt_Md_pulls_151 hB C Q s33 k33 _ _ _ _ _ _ _ _ _ h P (lv_sub hl [0, 1, 2, 3, 4, 5] rfl)
  · refine pj_iload_n C dd_Md_pulls_119 rfl hl 1 rfl ?_
    refine pj_iconst (v := (nI 1)) C dd_Md_pulls_120 rfl ?_
    refine pj_ic_ne C h dd_Md_pulls_121 (fun h => ?_) (fun h => ?_)
    · refine pj_aload_n C dd_Md_pulls_137 rfl hl 0 rfl ?_
      refine pj_iload C dd_Md_pulls_138 hl 5 rfl ?_
      refine pj_iconst (v := (nI 1)) C dd_Md_pulls_140 rfl ?_
      obtain ⟨r3, z2, e1, h⟩ := pj_cE h
      refine pj_cVi (st := []) [.int v6, .int (nI 1)] C P 0 (LM0 hB) rfl (ct_Md_isEnd hB e1) cl_Md_261 rfl (by decide) (by decide) hl.1 (Nat.le_of_ble_eq_true rfl) dd_Md_pulls_141 (fun H lo P => ?_)
      refine pj_if_ne C h dd_Md_pulls_144 (fun h => ?_) (fun h => ?_)
      · exact bt_Md_pulls_151 hB C Q s33 k33 _ _ _ _ _ _ _ _ _ h P (lv_sub hl [0, 1, 2, 3, 4, 5] rfl)
      · exact bt_Md_pulls_147 hB C Q s33 k33 _ _ _ _ _ _ _ _ _ h P (lv_sub hl [0, 1, 2, 3, 4, 5] rfl)
    · refine pj_aload_n C dd_Md_pulls_124 rfl hl 0 rfl ?_
      refine pj_iload C dd_Md_pulls_125 hl 5 rfl ?_
      refine pj_iconst (v := (nI 0)) C dd_Md_pulls_127 rfl ?_
      obtain ⟨r6, z5, e4, h⟩ := pj_cE h
      refine pj_cVi (st := []) [.int v6, .int (nI 0)] C P 0 (LM0 hB) rfl (ct_Md_isEnd hB e4) cl_Md_261 rfl (by decide) (by decide) hl.1 (Nat.le_of_ble_eq_true rfl) dd_Md_pulls_128 (fun H lo P => ?_)
      refine pj_if_eq C h dd_Md_pulls_131 (fun h => ?_) (fun h => ?_)
      · exact bt_Md_pulls_147 hB C Q s33 k33 _ _ _ _ _ _ _ _ _ h P (lv_sub hl [0, 1, 2, 3, 4, 5] rfl)
      · refine pj_goto C dd_Md_pulls_134 ?_
        exact bt_Md_pulls_151 hB C Q s33 k33 _ _ _ _ _ _ _ _ _ h P (lv_sub hl [0, 1, 2, 3, 4, 5] rfl)
set_option maxHeartbeats 4000000 in
set_option maxRecDepth 100000 in
theorem bt_Md_pulls_55 {B : pj_B} {A : Nat → Prop} {K : pj_K} {r0 : Unit} {z0 : pj_S} (hB : B.2.2.2.1 = pj_LM) (C : pj_C B A K cX11_pulls 9 RX11 4) (Q : pj_Qv B A K none r0 z0)  (v6 : Int32) (z : pj_S) (H : Heap) (lo : List Loc) (ls : Array Slot) (h : Md_pulls_55 v6 z = some (r0, z0)) (P : pj_P B A K z H lo) (hl : lv_has ls 9 [(0, .ref (B.2.1 0)), (6, .int v6)]) : pj_W K H lo 55 ls [] := by
  unfold Md_pulls_55 at h
  refine pj_aload_n C dd_Md_pulls_55 rfl hl 0 rfl ?_
  refine pj_iload C dd_Md_pulls_56 hl 1 rfl ?_
  refine pj_putI C P 0 (LM0 hB) rfl fl_Md_255 rfl fy_11_28 h dd_Md_pulls_58 (fun H lo z1 h P => ?_)
  exact pj_vret C Q P h dd_Md_pulls_61
set_option maxHeartbeats 4000000 in
set_option maxRecDepth 100000 in
theorem bt_Md_pulls_33 {B : pj_B} {A : Nat → Prop} {K : pj_K} {r0 : Unit} {z0 : pj_S} (hB : B.2.2.2.1 = pj_LM) (C : pj_C B A K cX11_pulls 9 RX11 4) (Q : pj_Qv B A K none r0 z0) (s33 : Int32 → Int32 → Int32 → Int32 → Int32 → Int32 → pj_S → Option (Unit × pj_S)) (k33 : ∀ (v2 : Int32) (v3 : Int32) (v4 : Int32) (v5 : Int32) (v6 : Int32) (v7 : Int32) (z : pj_S) (H : Heap) (lo : List Loc) (ls : Array Slot), s33 v2 v3 v4 v5 v6 v7 z = some (r0, z0) → pj_P B A K z H lo → lv_has ls 9 [(0, .ref (B.2.1 0)), (2, .int v2), (3, .int v3), (4, .int v4), (5, .int v5), (6, .int v6), (7, .int v7)] → pj_W K H lo 33 ls []) (v2 : Int32) (v3 : Int32) (v4 : Int32) (v5 : Int32) (v6 : Int32) (v7 : Int32) (z : pj_S) (H : Heap) (lo : List Loc) (ls : Array Slot) (h : Md_pulls_33 s33 v2 v3 v4 v5 v6 v7 z = some (r0, z0)) (P : pj_P B A K z H lo) (hl : lv_has ls 9 [(0, .ref (B.2.1 0)), (2, .int v2), (3, .int v3), (4, .int v4), (5, .int v5), (6, .int v6), (7, .int v7)]) : pj_W K H lo 33 ls [] := by
  unfold Md_pulls_33 at h
  refine pj_iload C dd_Md_pulls_33 hl 6 rfl ?_
  refine pj_if_eq C h dd_Md_pulls_35 (fun h => ?_) (fun h => ?_)
  · exact pj_vret C Q P h dd_Md_pulls_164
  · refine pj_aload_n C dd_Md_pulls_38 rfl hl 0 rfl ?_
    refine pj_iload C dd_Md_pulls_39 hl 5 rfl ?_
    obtain ⟨r3, z2, e1, h⟩ := pj_cE h
    refine pj_cVi (st := []) [.int v6] C P 0 (LM0 hB) rfl (ct_Md_stitchAt hB e1) cl_Md_258 rfl (by decide) (by decide) hl.1 (Nat.le_of_ble_eq_true rfl) dd_Md_pulls_41 (fun H lo P => ?_)
    refine pj_istore [(8, .int r3), (0, .ref (B.2.1 0)), (2, .int v2), (3, .int v3), (4, .int v4), (5, .int v5), (6, .int v6), (7, .int v7)] C dd_Md_pulls_44 hl (by decide) rfl (fun ls hl => ?_)
    refine pj_aload_n C dd_Md_pulls_46 rfl hl 1 rfl ?_
    refine pj_iload C dd_Md_pulls_47 hl 0 rfl ?_
    obtain ⟨r6, z5, e4, h⟩ := pj_cE h
    refine pj_cVi (st := []) [.int r3] C P 0 (LM0 hB) rfl (ct_Md_isHeld hB e4) cl_Md_217 rfl (by decide) (by decide) hl.1 (Nat.le_of_ble_eq_true rfl) dd_Md_pulls_49 (fun H lo P => ?_)
    refine pj_if_eq C h dd_Md_pulls_52 (fun h => ?_) (fun h => ?_)
    · refine pj_aload_n C dd_Md_pulls_62 rfl hl 1 rfl ?_
      refine pj_dup C dd_Md_pulls_63 rfl ?_
      refine pj_getI C P 0 (LM0 hB) rfl fl_Md_252 dd_Md_pulls_64 ?_
      refine pj_iconst (v := (nI 1)) C dd_Md_pulls_67 rfl ?_
      refine pj_iadd C dd_Md_pulls_68 ?_
      refine pj_putI C P 0 (LM0 hB) rfl fl_Md_252 rfl fy_11_27 h dd_Md_pulls_69 (fun H lo z7 h P => ?_)
      refine pj_aload_n C dd_Md_pulls_72 rfl hl 1 rfl ?_
      refine pj_getR C P 0 (LM0 hB) rfl fl_Md_38 dd_Md_pulls_73 ?_
      refine pj_iload C dd_Md_pulls_76 hl 0 rfl ?_
      refine pj_iald C P 9 (LM9 hB) h dd_Md_pulls_78 (fun h => ?_)
      refine pj_iconst (v := (nI 1)) C dd_Md_pulls_79 rfl ?_
      refine pj_ic_ne C h dd_Md_pulls_80 (fun h => ?_) (fun h => ?_)
      · exact bt_Md_pulls_111 hB C Q s33 k33 _ _ _ _ _ _ _ _ _ h P (lv_sub hl [1, 2, 3, 4, 5, 6] rfl)
      · refine pj_aload_n C dd_Md_pulls_83 rfl hl 1 rfl ?_
        refine pj_iload C dd_Md_pulls_84 hl 0 rfl ?_
        obtain ⟨r10, z9, e8, h⟩ := pj_cE h
        refine pj_cVv (st := []) [.int r3] C P 0 (LM0 hB) rfl (ct_Md_goes hB e8) cl_Md_223 rfl (by decide) (by decide) hl.1 (Nat.le_of_ble_eq_true rfl) dd_Md_pulls_86 (fun H lo P => ?_)
        refine pj_aload_n C dd_Md_pulls_89 rfl hl 1 rfl ?_
        refine pj_dup C dd_Md_pulls_90 rfl ?_
        refine pj_getI C P 0 (LM0 hB) rfl fl_Md_249 dd_Md_pulls_91 ?_
        refine pj_iconst (v := (nI 1)) C dd_Md_pulls_94 rfl ?_
        refine pj_iadd C dd_Md_pulls_95 ?_
        refine pj_putI C P 0 (LM0 hB) rfl fl_Md_249 rfl fy_11_26 h dd_Md_pulls_96 (fun H lo z11 h P => ?_)
        refine pj_iload C dd_Md_pulls_99 hl 4 rfl ?_
        refine pj_if_eq C h dd_Md_pulls_101 (fun h => ?_) (fun h => ?_)
        · exact bt_Md_pulls_111 hB C Q s33 k33 _ _ _ _ _ _ _ _ _ h P (lv_sub hl [1, 2, 3, 4, 5, 6] rfl)
        · refine pj_aload_n C dd_Md_pulls_104 rfl hl 1 rfl ?_
          refine pj_iload C dd_Md_pulls_105 hl 0 rfl ?_
          refine pj_iconst (v := (nI 2)) C dd_Md_pulls_107 rfl ?_
          obtain ⟨r14, z13, e12, h⟩ := pj_cE h
          refine pj_cVv (st := []) [.int r3, .int (nI 2)] C P 0 (LM0 hB) rfl (ct_Md_isGone hB e12) cl_Md_243 rfl (by decide) (by decide) hl.1 (Nat.le_of_ble_eq_true rfl) dd_Md_pulls_108 (fun H lo P => ?_)
          exact bt_Md_pulls_111 hB C Q s33 k33 _ _ _ _ _ _ _ _ _ h P (lv_sub hl [1, 2, 3, 4, 5, 6] rfl)
    · exact bt_Md_pulls_55 hB C Q _ _ _ _ _ h P (lv_sub hl [1, 6] rfl)
theorem lt_Md_pulls_33 {B : pj_B} {A : Nat → Prop} {K : pj_K} {r0 : Unit} {z0 : pj_S} (hB : B.2.2.2.1 = pj_LM) (C : pj_C B A K cX11_pulls 9 RX11 4) (Q : pj_Qv B A K none r0 z0)  : ∀ (n : Nat) (v2 : Int32) (v3 : Int32) (v4 : Int32) (v5 : Int32) (v6 : Int32) (v7 : Int32) (z : pj_S) (H : Heap) (lo : List Loc) (ls : Array Slot), pj_lp6 Md_pulls_33 n v2 v3 v4 v5 v6 v7 z = some (r0, z0) → pj_P B A K z H lo → lv_has ls 9 [(0, .ref (B.2.1 0)), (2, .int v2), (3, .int v3), (4, .int v4), (5, .int v5), (6, .int v6), (7, .int v7)] → pj_W K H lo 33 ls [] := by
  intro n
  induction n with
  | zero => intro v2 v3 v4 v5 v6 v7 z H lo ls h; rw [pj_lp6_0] at h; cases h
  | succ n ih =>
    intro v2 v3 v4 v5 v6 v7 z H lo ls h P hl
    rw [pj_lp6_s] at h
    exact bt_Md_pulls_33 hB C Q   (pj_lp6 Md_pulls_33 n) ih v2 v3 v4 v5 v6 v7 z H lo ls h P hl
set_option maxHeartbeats 4000000 in
set_option maxRecDepth 100000 in
theorem bt_Md_pulls_10 {B : pj_B} {A : Nat → Prop} {K : pj_K} {r0 : Unit} {z0 : pj_S} (hB : B.2.2.2.1 = pj_LM) (C : pj_C B A K cX11_pulls 9 RX11 4) (Q : pj_Qv B A K none r0 z0)  (v1 : Int32) (v2 : Int32) (v3 : Int32) (v4 : Int32) (t0 : Int32) (z : pj_S) (H : Heap) (lo : List Loc) (ls : Array Slot) (h : Md_pulls_10 v1 v2 v3 v4 t0 z = some (r0, z0)) (P : pj_P B A K z H lo) (hl : lv_has ls 9 [(0, .ref (B.2.1 0)), (1, .int v1), (2, .int v2), (3, .int v3), (4, .int v4)]) : pj_W K H lo 10 ls [.int t0] := by
  unfold Md_pulls_10 at h
  refine pj_istore [(5, .int t0), (0, .ref (B.2.1 0)), (1, .int v1), (2, .int v2), (3, .int v3), (4, .int v4)] C dd_Md_pulls_10 hl (by decide) rfl (fun ls hl => ?_)
  refine pj_iload_n C dd_Md_pulls_12 rfl hl 2 rfl ?_
  refine pj_istore [(6, .int v1), (5, .int t0), (0, .ref (B.2.1 0)), (1, .int v1), (2, .int v2), (3, .int v3), (4, .int v4)] C dd_Md_pulls_13 hl (by decide) rfl (fun ls hl => ?_)
  refine pj_iconst (v := (nI 1)) C dd_Md_pulls_15 rfl ?_
  refine pj_istore [(7, .int (nI 1)), (6, .int v1), (5, .int t0), (0, .ref (B.2.1 0)), (1, .int v1), (2, .int v2), (3, .int v3), (4, .int v4)] C dd_Md_pulls_16 hl (by decide) rfl (fun ls hl => ?_)
  refine pj_aload_n C dd_Md_pulls_18 rfl hl 3 rfl ?_
  refine pj_iconst (v := (nI 0)) C dd_Md_pulls_19 rfl ?_
  refine pj_putI C P 0 (LM0 hB) rfl fl_Md_249 rfl fy_11_26 h dd_Md_pulls_20 (fun H lo z1 h P => ?_)
  refine pj_aload_n C dd_Md_pulls_23 rfl hl 3 rfl ?_
  refine pj_iconst (v := (nI 0)) C dd_Md_pulls_24 rfl ?_
  refine pj_putI C P 0 (LM0 hB) rfl fl_Md_252 rfl fy_11_27 h dd_Md_pulls_25 (fun H lo z2 h P => ?_)
  refine pj_aload_n C dd_Md_pulls_28 rfl hl 3 rfl ?_
  refine pj_iconst (v := (-1 : Int32)) C dd_Md_pulls_29 rfl ?_
  refine pj_putI C P 0 (LM0 hB) rfl fl_Md_255 rfl fy_11_28 h dd_Md_pulls_30 (fun H lo z3 h P => ?_)
  exact lt_Md_pulls_33 hB C Q 4000 _ _ _ _ _ _ _ _ _ _ h P (lv_sub hl [3, 5, 6, 7, 2, 1, 0] rfl)
set_option maxHeartbeats 4000000 in
set_option maxRecDepth 100000 in
theorem ct_Md_pulls {l : Launch} {B : pj_B} (hB : B.2.2.2.1 = pj_LM) {v1 : Int32} {v2 : Int32} {v3 : Int32} {v4 : Int32} {z : pj_S} {r0 : Unit} {z0 : pj_S} (h : Md_pulls v1 v2 v3 v4 z = some (r0, z0)) : pj_Mv l yX11_pulls cX11_pulls 9 none 4 [.ref (B.2.1 0), .int v1, .int v2, .int v3, .int v4] B z r0 z0 := by
  refine pj_metv (own := RX11) (by decide +kernel) rfl (Nat.le_of_ble_eq_true rfl) ?_
  intro A K hK C Q H lo ls P hl
  have hl : lv_has ls 9 [(0, .ref (B.2.1 0)), (1, .int v1), (2, .int v2), (3, .int v3), (4, .int v4)] := hl
  unfold Md_pulls at h
  refine pj_iload_n C dd_Md_pulls_0 rfl hl 2 rfl ?_
  refine pj_iconst (v := (nI 1)) C dd_Md_pulls_1 rfl ?_
  refine pj_ic_ne C h dd_Md_pulls_2 (fun h => ?_) (fun h => ?_)
  · refine pj_iconst (v := (-1 : Int32)) C dd_Md_pulls_9 rfl ?_
    exact bt_Md_pulls_10 hB C Q _ _ _ _ _ _ _ _ _ h P (lv_sub hl [0, 1, 2, 3, 4] rfl)
  · refine pj_iconst (v := (nI 1)) C dd_Md_pulls_5 rfl ?_
    refine pj_goto C dd_Md_pulls_6 ?_
    exact bt_Md_pulls_10 hB C Q _ _ _ _ _ _ _ _ _ h P (lv_sub hl [0, 1, 2, 3, 4] rfl)
theorem dd_Md_lengthOf_0 : pj_d cX11_lengthOf 0 (.iload_n 0) 1 1 := ⟨by decide +kernel, rfl⟩
theorem dd_Md_lengthOf_1 : pj_dj cX11_lengthOf 1 (.ifCond .ne 7) 7 4 8 := ⟨by decide +kernel, rfl, by decide⟩
theorem dd_Md_lengthOf_4 : pj_d cX11_lengthOf 4 (.iconst 3) 1 5 := ⟨by decide +kernel, rfl⟩
theorem dd_Md_lengthOf_5 : pj_dj cX11_lengthOf 5 (.goto 22) 22 8 27 := ⟨by decide +kernel, rfl, by decide⟩
theorem dd_Md_lengthOf_8 : pj_d cX11_lengthOf 8 (.iload_n 0) 1 9 := ⟨by decide +kernel, rfl⟩
theorem dd_Md_lengthOf_9 : pj_d cX11_lengthOf 9 (.iconst 1) 1 10 := ⟨by decide +kernel, rfl⟩
theorem dd_Md_lengthOf_10 : pj_dj cX11_lengthOf 10 (.if_icmp .ne 7) 7 13 17 := ⟨by decide +kernel, rfl, by decide⟩
theorem dd_Md_lengthOf_13 : pj_d cX11_lengthOf 13 (.iconst 4) 1 14 := ⟨by decide +kernel, rfl⟩
theorem dd_Md_lengthOf_14 : pj_dj cX11_lengthOf 14 (.goto 13) 13 17 27 := ⟨by decide +kernel, rfl, by decide⟩
theorem dd_Md_lengthOf_17 : pj_d cX11_lengthOf 17 (.iload_n 0) 1 18 := ⟨by decide +kernel, rfl⟩
theorem dd_Md_lengthOf_18 : pj_d cX11_lengthOf 18 (.iconst 2) 1 19 := ⟨by decide +kernel, rfl⟩
theorem dd_Md_lengthOf_19 : pj_dj cX11_lengthOf 19 (.if_icmp .ne 7) 7 22 26 := ⟨by decide +kernel, rfl, by decide⟩
theorem dd_Md_lengthOf_22 : pj_d cX11_lengthOf 22 (.iconst 2) 1 23 := ⟨by decide +kernel, rfl⟩
theorem dd_Md_lengthOf_23 : pj_dj cX11_lengthOf 23 (.goto 4) 4 26 27 := ⟨by decide +kernel, rfl, by decide⟩
theorem dd_Md_lengthOf_26 : pj_d cX11_lengthOf 26 (.iconst 5) 1 27 := ⟨by decide +kernel, rfl⟩
theorem dd_Md_lengthOf_27 : pj_d cX11_lengthOf 27 (.ireturn) 1 28 := ⟨by decide +kernel, rfl⟩
set_option maxHeartbeats 4000000 in
set_option maxRecDepth 100000 in
theorem ct_Md_lengthOfM {l : Launch} {B : pj_B} (hB : B.2.2.2.1 = pj_LM) {v0 : Int32} {z : pj_S} {r0 : Int32} {z0 : pj_S} (h : Md_lengthOfM v0 z = some (r0, z0)) : pj_Mi l yX11_lengthOf cX11_lengthOf 1 (some .int) 1 [.int v0] B z r0 z0 := by
  refine pj_meti (own := RX11) (by decide +kernel) rfl (Nat.le_of_ble_eq_true rfl) ?_
  intro A K hK C Q H lo ls P hl
  have hl : lv_has ls 1 [(0, .int v0)] := hl
  unfold Md_lengthOfM at h
  refine pj_iload_n C dd_Md_lengthOf_0 rfl hl 0 rfl ?_
  refine pj_if_ne C h dd_Md_lengthOf_1 (fun h => ?_) (fun h => ?_)
  · refine pj_iload_n C dd_Md_lengthOf_8 rfl hl 0 rfl ?_
    refine pj_iconst (v := (nI 1)) C dd_Md_lengthOf_9 rfl ?_
    refine pj_ic_ne C h dd_Md_lengthOf_10 (fun h => ?_) (fun h => ?_)
    · refine pj_iload_n C dd_Md_lengthOf_17 rfl hl 0 rfl ?_
      refine pj_iconst (v := (nI 2)) C dd_Md_lengthOf_18 rfl ?_
      refine pj_ic_ne C h dd_Md_lengthOf_19 (fun h => ?_) (fun h => ?_)
      · refine pj_iconst (v := (nI 5)) C dd_Md_lengthOf_26 rfl ?_
        exact pj_iret C Q P h dd_Md_lengthOf_27
      · refine pj_iconst (v := (nI 2)) C dd_Md_lengthOf_22 rfl ?_
        refine pj_goto C dd_Md_lengthOf_23 ?_
        exact pj_iret C Q P h dd_Md_lengthOf_27
    · refine pj_iconst (v := (nI 4)) C dd_Md_lengthOf_13 rfl ?_
      refine pj_goto C dd_Md_lengthOf_14 ?_
      exact pj_iret C Q P h dd_Md_lengthOf_27
  · refine pj_iconst (v := (nI 3)) C dd_Md_lengthOf_4 rfl ?_
    refine pj_goto C dd_Md_lengthOf_5 ?_
    exact pj_iret C Q P h dd_Md_lengthOf_27
theorem dd_Md_winds_0 : pj_d cX11_winds 0 (.iconst 0) 1 1 := ⟨by decide +kernel, rfl⟩
theorem dd_Md_winds_1 : pj_d cX11_winds 1 (.istore_n 3) 1 2 := ⟨by decide +kernel, rfl⟩
theorem dd_Md_winds_2 : pj_d cX11_winds 2 (.iconst 0) 1 3 := ⟨by decide +kernel, rfl⟩
theorem dd_Md_winds_3 : pj_d cX11_winds 3 (.istore 4) 2 5 := ⟨by decide +kernel, rfl⟩
theorem dd_Md_winds_5 : pj_d cX11_winds 5 (.iload 4) 2 7 := ⟨by decide +kernel, rfl⟩
theorem dd_Md_winds_7 : pj_d cX11_winds 7 (.aload_n 0) 1 8 := ⟨by decide +kernel, rfl⟩
theorem dd_Md_winds_8 : pj_d cX11_winds 8 (.getfield 252) 3 11 := ⟨by decide +kernel, rfl⟩
theorem dd_Md_winds_11 : pj_dj cX11_winds 11 (.if_icmp .ge 77) 77 14 88 := ⟨by decide +kernel, rfl, by decide⟩
theorem dd_Md_winds_14 : pj_d cX11_winds 14 (.aload_n 0) 1 15 := ⟨by decide +kernel, rfl⟩
theorem dd_Md_winds_15 : pj_d cX11_winds 15 (.iload_n 2) 1 16 := ⟨by decide +kernel, rfl⟩
theorem dd_Md_winds_16 : pj_d cX11_winds 16 (.iconst 1) 1 17 := ⟨by decide +kernel, rfl⟩
theorem dd_Md_winds_17 : pj_dj cX11_winds 17 (.if_icmp .ne 10) 10 20 27 := ⟨by decide +kernel, rfl, by decide⟩
theorem dd_Md_winds_20 : pj_d cX11_winds 20 (.iload_n 1) 1 21 := ⟨by decide +kernel, rfl⟩
theorem dd_Md_winds_21 : pj_d cX11_winds 21 (.iload 4) 2 23 := ⟨by decide +kernel, rfl⟩
theorem dd_Md_winds_23 : pj_d cX11_winds 23 (.iadd) 1 24 := ⟨by decide +kernel, rfl⟩
theorem dd_Md_winds_24 : pj_dj cX11_winds 24 (.goto 7) 7 27 31 := ⟨by decide +kernel, rfl, by decide⟩
theorem dd_Md_winds_27 : pj_d cX11_winds 27 (.iload_n 1) 1 28 := ⟨by decide +kernel, rfl⟩
theorem dd_Md_winds_28 : pj_d cX11_winds 28 (.iload 4) 2 30 := ⟨by decide +kernel, rfl⟩
theorem dd_Md_winds_30 : pj_d cX11_winds 30 (.isub) 1 31 := ⟨by decide +kernel, rfl⟩
theorem dd_Md_winds_31 : pj_d cX11_winds 31 (.invokevirtual 258) 3 34 := ⟨by decide +kernel, rfl⟩
theorem dd_Md_winds_34 : pj_d cX11_winds 34 (.istore 5) 2 36 := ⟨by decide +kernel, rfl⟩
theorem dd_Md_winds_36 : pj_d cX11_winds 36 (.iload_n 3) 1 37 := ⟨by decide +kernel, rfl⟩
theorem dd_Md_winds_37 : pj_d cX11_winds 37 (.aload_n 0) 1 38 := ⟨by decide +kernel, rfl⟩
theorem dd_Md_winds_38 : pj_d cX11_winds 38 (.getfield 7) 3 41 := ⟨by decide +kernel, rfl⟩
theorem dd_Md_winds_41 : pj_d cX11_winds 41 (.sipush 1490) 3 44 := ⟨by decide +kernel, rfl⟩
theorem dd_Md_winds_44 : pj_d cX11_winds 44 (.iload 5) 2 46 := ⟨by decide +kernel, rfl⟩
theorem dd_Md_winds_46 : pj_d cX11_winds 46 (.iadd) 1 47 := ⟨by decide +kernel, rfl⟩
theorem dd_Md_winds_47 : pj_d cX11_winds 47 (.iaload) 1 48 := ⟨by decide +kernel, rfl⟩
theorem dd_Md_winds_48 : pj_dj cX11_winds 48 (.ifCond .ne 19) 19 51 67 := ⟨by decide +kernel, rfl, by decide⟩
theorem dd_Md_winds_51 : pj_d cX11_winds 51 (.aload_n 0) 1 52 := ⟨by decide +kernel, rfl⟩
theorem dd_Md_winds_52 : pj_d cX11_winds 52 (.getfield 7) 3 55 := ⟨by decide +kernel, rfl⟩
theorem dd_Md_winds_55 : pj_d cX11_winds 55 (.bipush 10) 2 57 := ⟨by decide +kernel, rfl⟩
theorem dd_Md_winds_57 : pj_d cX11_winds 57 (.iload 5) 2 59 := ⟨by decide +kernel, rfl⟩
theorem dd_Md_winds_59 : pj_d cX11_winds 59 (.iadd) 1 60 := ⟨by decide +kernel, rfl⟩
theorem dd_Md_winds_60 : pj_d cX11_winds 60 (.iaload) 1 61 := ⟨by decide +kernel, rfl⟩
theorem dd_Md_winds_61 : pj_d cX11_winds 61 (.invokestatic 264) 3 64 := ⟨by decide +kernel, rfl⟩
theorem dd_Md_winds_64 : pj_dj cX11_winds 64 (.goto 4) 4 67 68 := ⟨by decide +kernel, rfl, by decide⟩
theorem dd_Md_winds_67 : pj_d cX11_winds 67 (.iconst 0) 1 68 := ⟨by decide +kernel, rfl⟩
theorem dd_Md_winds_68 : pj_d cX11_winds 68 (.iadd) 1 69 := ⟨by decide +kernel, rfl⟩
theorem dd_Md_winds_69 : pj_d cX11_winds 69 (.istore_n 3) 1 70 := ⟨by decide +kernel, rfl⟩
theorem dd_Md_winds_70 : pj_d cX11_winds 70 (.aload_n 0) 1 71 := ⟨by decide +kernel, rfl⟩
theorem dd_Md_winds_71 : pj_d cX11_winds 71 (.getfield 7) 3 74 := ⟨by decide +kernel, rfl⟩
theorem dd_Md_winds_74 : pj_d cX11_winds 74 (.sipush 1490) 3 77 := ⟨by decide +kernel, rfl⟩
theorem dd_Md_winds_77 : pj_d cX11_winds 77 (.iload 5) 2 79 := ⟨by decide +kernel, rfl⟩
theorem dd_Md_winds_79 : pj_d cX11_winds 79 (.iadd) 1 80 := ⟨by decide +kernel, rfl⟩
theorem dd_Md_winds_80 : pj_d cX11_winds 80 (.iconst 1) 1 81 := ⟨by decide +kernel, rfl⟩
theorem dd_Md_winds_81 : pj_d cX11_winds 81 (.iastore) 1 82 := ⟨by decide +kernel, rfl⟩
theorem dd_Md_winds_82 : pj_d cX11_winds 82 (.iinc 4 1) 3 85 := ⟨by decide +kernel, rfl⟩
theorem dd_Md_winds_85 : pj_dj cX11_winds 85 (.goto (-80)) (-80) 88 5 := ⟨by decide +kernel, rfl, by decide⟩
theorem dd_Md_winds_88 : pj_d cX11_winds 88 (.aload_n 0) 1 89 := ⟨by decide +kernel, rfl⟩
theorem dd_Md_winds_89 : pj_d cX11_winds 89 (.getfield 7) 3 92 := ⟨by decide +kernel, rfl⟩
theorem dd_Md_winds_92 : pj_d cX11_winds 92 (.iconst 3) 1 93 := ⟨by decide +kernel, rfl⟩
theorem dd_Md_winds_93 : pj_d cX11_winds 93 (.iaload) 1 94 := ⟨by decide +kernel, rfl⟩
theorem dd_Md_winds_94 : pj_d cX11_winds 94 (.bipush 20) 2 96 := ⟨by decide +kernel, rfl⟩
theorem dd_Md_winds_96 : pj_dj cX11_winds 96 (.if_icmp .ne 4) 4 99 100 := ⟨by decide +kernel, rfl, by decide⟩
theorem dd_Md_winds_99 : pj_d cX11_winds 99 (.return_) 1 100 := ⟨by decide +kernel, rfl⟩
theorem dd_Md_winds_100 : pj_d cX11_winds 100 (.aload_n 0) 1 101 := ⟨by decide +kernel, rfl⟩
theorem dd_Md_winds_101 : pj_d cX11_winds 101 (.getfield 7) 3 104 := ⟨by decide +kernel, rfl⟩
theorem dd_Md_winds_104 : pj_d cX11_winds 104 (.sipush 270) 3 107 := ⟨by decide +kernel, rfl⟩
theorem dd_Md_winds_107 : pj_d cX11_winds 107 (.aload_n 0) 1 108 := ⟨by decide +kernel, rfl⟩
theorem dd_Md_winds_108 : pj_d cX11_winds 108 (.getfield 7) 3 111 := ⟨by decide +kernel, rfl⟩
theorem dd_Md_winds_111 : pj_d cX11_winds 111 (.iconst 3) 1 112 := ⟨by decide +kernel, rfl⟩
theorem dd_Md_winds_112 : pj_d cX11_winds 112 (.iaload) 1 113 := ⟨by decide +kernel, rfl⟩
theorem dd_Md_winds_113 : pj_d cX11_winds 113 (.iadd) 1 114 := ⟨by decide +kernel, rfl⟩
theorem dd_Md_winds_114 : pj_d cX11_winds 114 (.iload_n 3) 1 115 := ⟨by decide +kernel, rfl⟩
theorem dd_Md_winds_115 : pj_d cX11_winds 115 (.iastore) 1 116 := ⟨by decide +kernel, rfl⟩
theorem dd_Md_winds_116 : pj_d cX11_winds 116 (.aload_n 0) 1 117 := ⟨by decide +kernel, rfl⟩
theorem dd_Md_winds_117 : pj_d cX11_winds 117 (.getfield 7) 3 120 := ⟨by decide +kernel, rfl⟩
theorem dd_Md_winds_120 : pj_d cX11_winds 120 (.iconst 3) 1 121 := ⟨by decide +kernel, rfl⟩
theorem dd_Md_winds_121 : pj_d cX11_winds 121 (.dup2) 1 122 := ⟨by decide +kernel, rfl⟩
theorem dd_Md_winds_122 : pj_d cX11_winds 122 (.iaload) 1 123 := ⟨by decide +kernel, rfl⟩
theorem dd_Md_winds_123 : pj_d cX11_winds 123 (.iconst 1) 1 124 := ⟨by decide +kernel, rfl⟩
theorem dd_Md_winds_124 : pj_d cX11_winds 124 (.iadd) 1 125 := ⟨by decide +kernel, rfl⟩
theorem dd_Md_winds_125 : pj_d cX11_winds 125 (.iastore) 1 126 := ⟨by decide +kernel, rfl⟩
theorem dd_Md_winds_126 : pj_d cX11_winds 126 (.return_) 1 127 := ⟨by decide +kernel, rfl⟩
set_option maxHeartbeats 4000000 in
set_option maxRecDepth 100000 in
theorem bt_Md_winds_88 {B : pj_B} {A : Nat → Prop} {K : pj_K} {r0 : Unit} {z0 : pj_S} (hB : B.2.2.2.1 = pj_LM) (C : pj_C B A K cX11_winds 6 RX11 2) (Q : pj_Qv B A K none r0 z0)  (v3 : Int32) (z : pj_S) (H : Heap) (lo : List Loc) (ls : Array Slot) (h : Md_winds_88 v3 z = some (r0, z0)) (P : pj_P B A K z H lo) (hl : lv_has ls 6 [(0, .ref (B.2.1 0)), (3, .int v3)]) : pj_W K H lo 88 ls [] := by
  unfold Md_winds_88 at h
  refine pj_aload_n C dd_Md_winds_88 rfl hl 0 rfl ?_
  refine pj_getR C P 0 (LM0 hB) rfl fl_Md_7 dd_Md_winds_89 ?_
  refine pj_iconst (v := (nI 3)) C dd_Md_winds_92 rfl ?_
  refine pj_iald C P 1 (LM1 hB) h dd_Md_winds_93 (fun h => ?_)
  refine pj_bipush (v := (nI 20)) C dd_Md_winds_94 rfl ?_
  refine pj_ic_ne C h dd_Md_winds_96 (fun h => ?_) (fun h => ?_)
  · refine pj_aload_n C dd_Md_winds_100 rfl hl 0 rfl ?_
    refine pj_getR C P 0 (LM0 hB) rfl fl_Md_7 dd_Md_winds_101 ?_
    refine pj_sipush (v := (nI 270)) C dd_Md_winds_104 rfl ?_
    refine pj_aload_n C dd_Md_winds_107 rfl hl 0 rfl ?_
    refine pj_getR C P 0 (LM0 hB) rfl fl_Md_7 dd_Md_winds_108 ?_
    refine pj_iconst (v := (nI 3)) C dd_Md_winds_111 rfl ?_
    refine pj_iald C P 1 (LM1 hB) h dd_Md_winds_112 (fun h => ?_)
    refine pj_iadd C dd_Md_winds_113 ?_
    refine pj_iload_n C dd_Md_winds_114 rfl hl 1 rfl ?_
    refine pj_iast C P 1 (LM1 hB) h dd_Md_winds_115 (fun H lo z1 h P => ?_)
    refine pj_aload_n C dd_Md_winds_116 rfl hl 0 rfl ?_
    refine pj_getR C P 0 (LM0 hB) rfl fl_Md_7 dd_Md_winds_117 ?_
    refine pj_iconst (v := (nI 3)) C dd_Md_winds_120 rfl ?_
    refine pj_dup2 C dd_Md_winds_121 rfl rfl ?_
    refine pj_iald C P 1 (LM1 hB) h dd_Md_winds_122 (fun h => ?_)
    refine pj_iconst (v := (nI 1)) C dd_Md_winds_123 rfl ?_
    refine pj_iadd C dd_Md_winds_124 ?_
    refine pj_iast C P 1 (LM1 hB) h dd_Md_winds_125 (fun H lo z2 h P => ?_)
    exact pj_vret C Q P h dd_Md_winds_126
  · exact pj_vret C Q P h dd_Md_winds_99
set_option maxHeartbeats 4000000 in
set_option maxRecDepth 100000 in
theorem bt_Md_winds_68 {B : pj_B} {A : Nat → Prop} {K : pj_K} {r0 : Unit} {z0 : pj_S} (hB : B.2.2.2.1 = pj_LM) (C : pj_C B A K cX11_winds 6 RX11 2) (Q : pj_Qv B A K none r0 z0) (s5 : Int32 → Int32 → Int32 → Int32 → pj_S → Option (Unit × pj_S)) (k5 : ∀ (v1 : Int32) (v2 : Int32) (v3 : Int32) (v4 : Int32) (z : pj_S) (H : Heap) (lo : List Loc) (ls : Array Slot), s5 v1 v2 v3 v4 z = some (r0, z0) → pj_P B A K z H lo → lv_has ls 6 [(0, .ref (B.2.1 0)), (1, .int v1), (2, .int v2), (3, .int v3), (4, .int v4)] → pj_W K H lo 5 ls []) (v1 : Int32) (v2 : Int32) (v4 : Int32) (v5 : Int32) (t0 : Int32) (t1 : Int32) (z : pj_S) (H : Heap) (lo : List Loc) (ls : Array Slot) (h : Md_winds_68 s5 v1 v2 v4 v5 t0 t1 z = some (r0, z0)) (P : pj_P B A K z H lo) (hl : lv_has ls 6 [(0, .ref (B.2.1 0)), (1, .int v1), (2, .int v2), (4, .int v4), (5, .int v5)]) : pj_W K H lo 68 ls [.int t0, .int t1] := by
  unfold Md_winds_68 at h
  refine pj_iadd C dd_Md_winds_68 ?_
  refine pj_istb_n [(0, .ref (B.2.1 0)), (1, .int v1), (2, .int v2), (4, .int v4), (5, .int v5)] C h dd_Md_winds_69 rfl hl (by decide) rfl (fun x1 ls h hl => ?_)
  refine pj_aload_n C dd_Md_winds_70 rfl hl 1 rfl ?_
  refine pj_getR C P 0 (LM0 hB) rfl fl_Md_7 dd_Md_winds_71 ?_
  refine pj_sipush (v := (nI 1490)) C dd_Md_winds_74 rfl ?_
  refine pj_iload C dd_Md_winds_77 hl 5 rfl ?_
  refine pj_iadd C dd_Md_winds_79 ?_
  refine pj_iconst (v := (nI 1)) C dd_Md_winds_80 rfl ?_
  refine pj_iast C P 1 (LM1 hB) h dd_Md_winds_81 (fun H lo z2 h P => ?_)
  refine pj_iinc (v := (nI 1)) [(3, .int x1), (0, .ref (B.2.1 0)), (1, .int v1), (2, .int v2), (5, .int v5)] C h rfl dd_Md_winds_82 hl 4 rfl (by decide) rfl (fun x3 ls h hl => ?_)
  refine pj_goto C dd_Md_winds_85 ?_
  exact k5 _ _ _ _ _ _ _ _ h P (lv_sub hl [2, 3, 4, 1, 0] rfl)
set_option maxHeartbeats 4000000 in
set_option maxRecDepth 100000 in
theorem bt_Md_winds_31 {B : pj_B} {A : Nat → Prop} {K : pj_K} {r0 : Unit} {z0 : pj_S} (hB : B.2.2.2.1 = pj_LM) (C : pj_C B A K cX11_winds 6 RX11 2) (Q : pj_Qv B A K none r0 z0) (s5 : Int32 → Int32 → Int32 → Int32 → pj_S → Option (Unit × pj_S)) (k5 : ∀ (v1 : Int32) (v2 : Int32) (v3 : Int32) (v4 : Int32) (z : pj_S) (H : Heap) (lo : List Loc) (ls : Array Slot), s5 v1 v2 v3 v4 z = some (r0, z0) → pj_P B A K z H lo → lv_has ls 6 [(0, .ref (B.2.1 0)), (1, .int v1), (2, .int v2), (3, .int v3), (4, .int v4)] → pj_W K H lo 5 ls []) (v1 : Int32) (v2 : Int32) (v3 : Int32) (v4 : Int32) (t0 : Int32) (z : pj_S) (H : Heap) (lo : List Loc) (ls : Array Slot) (h : Md_winds_31 s5 v1 v2 v3 v4 t0 z = some (r0, z0)) (P : pj_P B A K z H lo) (hl : lv_has ls 6 [(0, .ref (B.2.1 0)), (1, .int v1), (2, .int v2), (3, .int v3), (4, .int v4)]) : pj_W K H lo 31 ls [.int t0, .ref (B.2.1 0)] := by
  unfold Md_winds_31 at h
  obtain ⟨r3, z2, e1, h⟩ := pj_cE h
  refine pj_cVi (st := []) [.int t0] C P 0 (LM0 hB) rfl (ct_Md_stitchAt hB e1) cl_Md_258 rfl (by decide) (by decide) hl.1 (Nat.le_of_ble_eq_true rfl) dd_Md_winds_31 (fun H lo P => ?_)
  refine pj_istore [(5, .int r3), (0, .ref (B.2.1 0)), (1, .int v1), (2, .int v2), (3, .int v3), (4, .int v4)] C dd_Md_winds_34 hl (by decide) rfl (fun ls hl => ?_)
  refine pj_iload_n C dd_Md_winds_36 rfl hl 4 rfl ?_
  refine pj_aload_n C dd_Md_winds_37 rfl hl 1 rfl ?_
  refine pj_getR C P 0 (LM0 hB) rfl fl_Md_7 dd_Md_winds_38 ?_
  refine pj_sipush (v := (nI 1490)) C dd_Md_winds_41 rfl ?_
  refine pj_iload C dd_Md_winds_44 hl 0 rfl ?_
  refine pj_iadd C dd_Md_winds_46 ?_
  refine pj_iald C P 1 (LM1 hB) h dd_Md_winds_47 (fun h => ?_)
  refine pj_if_ne C h dd_Md_winds_48 (fun h => ?_) (fun h => ?_)
  · refine pj_iconst (v := (nI 0)) C dd_Md_winds_67 rfl ?_
    exact bt_Md_winds_68 hB C Q s5 k5 _ _ _ _ _ _ _ _ _ _ h P (lv_sub hl [1, 2, 3, 5, 0] rfl)
  · refine pj_aload_n C dd_Md_winds_51 rfl hl 1 rfl ?_
    refine pj_getR C P 0 (LM0 hB) rfl fl_Md_7 dd_Md_winds_52 ?_
    refine pj_bipush (v := (nI 10)) C dd_Md_winds_55 rfl ?_
    refine pj_iload C dd_Md_winds_57 hl 0 rfl ?_
    refine pj_iadd C dd_Md_winds_59 ?_
    refine pj_iald C P 1 (LM1 hB) h dd_Md_winds_60 (fun h => ?_)
    obtain ⟨r6, z5, e4, h⟩ := pj_cE h
    refine pj_cSi (st := [.int v3]) [.int (z2.1 1 (Int32.toNatClampNeg ((nI 10) + r3)))] C P (ct_Md_lengthOfM hB e4) cl_Md_264 rfl (by decide) (by decide) hl.1 (Nat.le_of_ble_eq_true rfl) dd_Md_winds_61 (fun H lo P => ?_)
    refine pj_goto C dd_Md_winds_64 ?_
    exact bt_Md_winds_68 hB C Q s5 k5 _ _ _ _ _ _ _ _ _ _ h P (lv_sub hl [1, 2, 3, 5, 0] rfl)
set_option maxHeartbeats 4000000 in
set_option maxRecDepth 100000 in
theorem bt_Md_winds_5 {B : pj_B} {A : Nat → Prop} {K : pj_K} {r0 : Unit} {z0 : pj_S} (hB : B.2.2.2.1 = pj_LM) (C : pj_C B A K cX11_winds 6 RX11 2) (Q : pj_Qv B A K none r0 z0) (s5 : Int32 → Int32 → Int32 → Int32 → pj_S → Option (Unit × pj_S)) (k5 : ∀ (v1 : Int32) (v2 : Int32) (v3 : Int32) (v4 : Int32) (z : pj_S) (H : Heap) (lo : List Loc) (ls : Array Slot), s5 v1 v2 v3 v4 z = some (r0, z0) → pj_P B A K z H lo → lv_has ls 6 [(0, .ref (B.2.1 0)), (1, .int v1), (2, .int v2), (3, .int v3), (4, .int v4)] → pj_W K H lo 5 ls []) (v1 : Int32) (v2 : Int32) (v3 : Int32) (v4 : Int32) (z : pj_S) (H : Heap) (lo : List Loc) (ls : Array Slot) (h : Md_winds_5 s5 v1 v2 v3 v4 z = some (r0, z0)) (P : pj_P B A K z H lo) (hl : lv_has ls 6 [(0, .ref (B.2.1 0)), (1, .int v1), (2, .int v2), (3, .int v3), (4, .int v4)]) : pj_W K H lo 5 ls [] := by
  unfold Md_winds_5 at h
  refine pj_iload C dd_Md_winds_5 hl 4 rfl ?_
  refine pj_aload_n C dd_Md_winds_7 rfl hl 0 rfl ?_
  refine pj_getI C P 0 (LM0 hB) rfl fl_Md_252 dd_Md_winds_8 ?_
  refine pj_ic_ge C h dd_Md_winds_11 (fun h => ?_) (fun h => ?_)
  · exact bt_Md_winds_88 hB C Q _ _ _ _ _ h P (lv_sub hl [0, 3] rfl)
  · refine pj_aload_n C dd_Md_winds_14 rfl hl 0 rfl ?_
    refine pj_iload_n C dd_Md_winds_15 rfl hl 2 rfl ?_
    refine pj_iconst (v := (nI 1)) C dd_Md_winds_16 rfl ?_
    refine pj_ic_ne C h dd_Md_winds_17 (fun h => ?_) (fun h => ?_)
    · refine pj_iload_n C dd_Md_winds_27 rfl hl 1 rfl ?_
      refine pj_iload C dd_Md_winds_28 hl 4 rfl ?_
      refine pj_isub C dd_Md_winds_30 ?_
      exact bt_Md_winds_31 hB C Q s5 k5 _ _ _ _ _ _ _ _ _ h P (lv_sub hl [0, 1, 2, 3, 4] rfl)
    · refine pj_iload_n C dd_Md_winds_20 rfl hl 1 rfl ?_
      refine pj_iload C dd_Md_winds_21 hl 4 rfl ?_
      refine pj_iadd C dd_Md_winds_23 ?_
      refine pj_goto C dd_Md_winds_24 ?_
      exact bt_Md_winds_31 hB C Q s5 k5 _ _ _ _ _ _ _ _ _ h P (lv_sub hl [0, 1, 2, 3, 4] rfl)
theorem lt_Md_winds_5 {B : pj_B} {A : Nat → Prop} {K : pj_K} {r0 : Unit} {z0 : pj_S} (hB : B.2.2.2.1 = pj_LM) (C : pj_C B A K cX11_winds 6 RX11 2) (Q : pj_Qv B A K none r0 z0)  : ∀ (n : Nat) (v1 : Int32) (v2 : Int32) (v3 : Int32) (v4 : Int32) (z : pj_S) (H : Heap) (lo : List Loc) (ls : Array Slot), pj_lp4 Md_winds_5 n v1 v2 v3 v4 z = some (r0, z0) → pj_P B A K z H lo → lv_has ls 6 [(0, .ref (B.2.1 0)), (1, .int v1), (2, .int v2), (3, .int v3), (4, .int v4)] → pj_W K H lo 5 ls [] := by
  intro n
  induction n with
  | zero => intro v1 v2 v3 v4 z H lo ls h; rw [pj_lp4_0] at h; cases h
  | succ n ih =>
    intro v1 v2 v3 v4 z H lo ls h P hl
    rw [pj_lp4_s] at h
    exact bt_Md_winds_5 hB C Q   (pj_lp4 Md_winds_5 n) ih v1 v2 v3 v4 z H lo ls h P hl
set_option maxHeartbeats 4000000 in
set_option maxRecDepth 100000 in
theorem ct_Md_winds {l : Launch} {B : pj_B} (hB : B.2.2.2.1 = pj_LM) {v1 : Int32} {v2 : Int32} {z : pj_S} {r0 : Unit} {z0 : pj_S} (h : Md_winds v1 v2 z = some (r0, z0)) : pj_Mv l yX11_winds cX11_winds 6 none 2 [.ref (B.2.1 0), .int v1, .int v2] B z r0 z0 := by
  refine pj_metv (own := RX11) (by decide +kernel) rfl (Nat.le_of_ble_eq_true rfl) ?_
  intro A K hK C Q H lo ls P hl
  have hl : lv_has ls 6 [(0, .ref (B.2.1 0)), (1, .int v1), (2, .int v2)] := hl
  unfold Md_winds at h
  refine pj_iconst (v := (nI 0)) C dd_Md_winds_0 rfl ?_
  refine pj_istore_n [(3, .int (nI 0)), (0, .ref (B.2.1 0)), (1, .int v1), (2, .int v2)] C dd_Md_winds_1 rfl hl (by decide) rfl (fun ls hl => ?_)
  refine pj_iconst (v := (nI 0)) C dd_Md_winds_2 rfl ?_
  refine pj_istore [(4, .int (nI 0)), (3, .int (nI 0)), (0, .ref (B.2.1 0)), (1, .int v1), (2, .int v2)] C dd_Md_winds_3 hl (by decide) rfl (fun ls hl => ?_)
  exact lt_Md_winds_5 hB C Q 4000 _ _ _ _ _ _ _ _ h P (lv_sub hl [2, 3, 4, 1, 0] rfl)
theorem dd_Md_pull_0 : pj_d cX11_pull 0 (.aload_n 0) 1 1 := ⟨by decide +kernel, rfl⟩
theorem dd_Md_pull_1 : pj_d cX11_pull 1 (.iload_n 1) 1 2 := ⟨by decide +kernel, rfl⟩
theorem dd_Md_pull_2 : pj_d cX11_pull 2 (.iload_n 2) 1 3 := ⟨by decide +kernel, rfl⟩
theorem dd_Md_pull_3 : pj_d cX11_pull 3 (.invokevirtual 261) 3 6 := ⟨by decide +kernel, rfl⟩
theorem dd_Md_pull_6 : pj_dj cX11_pull 6 (.ifCond .eq 13) 13 9 19 := ⟨by decide +kernel, rfl, by decide⟩
theorem dd_Md_pull_9 : pj_d cX11_pull 9 (.iload_n 3) 1 10 := ⟨by decide +kernel, rfl⟩
theorem dd_Md_pull_10 : pj_d cX11_pull 10 (.iconst 1) 1 11 := ⟨by decide +kernel, rfl⟩
theorem dd_Md_pull_11 : pj_d cX11_pull 11 (.bipush 36) 2 13 := ⟨by decide +kernel, rfl⟩
theorem dd_Md_pull_13 : pj_d cX11_pull 13 (.invokestatic 70) 3 16 := ⟨by decide +kernel, rfl⟩
theorem dd_Md_pull_16 : pj_dj cX11_pull 16 (.ifCond .ne 5) 5 19 21 := ⟨by decide +kernel, rfl, by decide⟩
theorem dd_Md_pull_19 : pj_d cX11_pull 19 (.iconst (-1)) 1 20 := ⟨by decide +kernel, rfl⟩
theorem dd_Md_pull_20 : pj_d cX11_pull 20 (.ireturn) 1 21 := ⟨by decide +kernel, rfl⟩
theorem dd_Md_pull_21 : pj_d cX11_pull 21 (.aload_n 0) 1 22 := ⟨by decide +kernel, rfl⟩
theorem dd_Md_pull_22 : pj_d cX11_pull 22 (.invokevirtual 240) 3 25 := ⟨by decide +kernel, rfl⟩
theorem dd_Md_pull_25 : pj_d cX11_pull 25 (.aload_n 0) 1 26 := ⟨by decide +kernel, rfl⟩
theorem dd_Md_pull_26 : pj_d cX11_pull 26 (.invokevirtual 267) 3 29 := ⟨by decide +kernel, rfl⟩
theorem dd_Md_pull_29 : pj_d cX11_pull 29 (.aload_n 0) 1 30 := ⟨by decide +kernel, rfl⟩
theorem dd_Md_pull_30 : pj_d cX11_pull 30 (.invokevirtual 270) 3 33 := ⟨by decide +kernel, rfl⟩
theorem dd_Md_pull_33 : pj_d cX11_pull 33 (.aload_n 0) 1 34 := ⟨by decide +kernel, rfl⟩
theorem dd_Md_pull_34 : pj_d cX11_pull 34 (.iload_n 1) 1 35 := ⟨by decide +kernel, rfl⟩
theorem dd_Md_pull_35 : pj_d cX11_pull 35 (.iload_n 2) 1 36 := ⟨by decide +kernel, rfl⟩
theorem dd_Md_pull_36 : pj_d cX11_pull 36 (.iload_n 3) 1 37 := ⟨by decide +kernel, rfl⟩
theorem dd_Md_pull_37 : pj_d cX11_pull 37 (.iconst 1) 1 38 := ⟨by decide +kernel, rfl⟩
theorem dd_Md_pull_38 : pj_d cX11_pull 38 (.invokevirtual 273) 3 41 := ⟨by decide +kernel, rfl⟩
theorem dd_Md_pull_41 : pj_d cX11_pull 41 (.aload_n 0) 1 42 := ⟨by decide +kernel, rfl⟩
theorem dd_Md_pull_42 : pj_d cX11_pull 42 (.getfield 249) 3 45 := ⟨by decide +kernel, rfl⟩
theorem dd_Md_pull_45 : pj_dj cX11_pull 45 (.ifCond .le 9) 9 48 54 := ⟨by decide +kernel, rfl, by decide⟩
theorem dd_Md_pull_48 : pj_d cX11_pull 48 (.aload_n 0) 1 49 := ⟨by decide +kernel, rfl⟩
theorem dd_Md_pull_49 : pj_d cX11_pull 49 (.iload_n 1) 1 50 := ⟨by decide +kernel, rfl⟩
theorem dd_Md_pull_50 : pj_d cX11_pull 50 (.iload_n 2) 1 51 := ⟨by decide +kernel, rfl⟩
theorem dd_Md_pull_51 : pj_d cX11_pull 51 (.invokevirtual 277) 3 54 := ⟨by decide +kernel, rfl⟩
theorem dd_Md_pull_54 : pj_d cX11_pull 54 (.aload_n 0) 1 55 := ⟨by decide +kernel, rfl⟩
theorem dd_Md_pull_55 : pj_d cX11_pull 55 (.getfield 249) 3 58 := ⟨by decide +kernel, rfl⟩
theorem dd_Md_pull_58 : pj_d cX11_pull 58 (.ireturn) 1 59 := ⟨by decide +kernel, rfl⟩
set_option maxHeartbeats 4000000 in
set_option maxRecDepth 100000 in
theorem bt_Md_pull_54 {B : pj_B} {A : Nat → Prop} {K : pj_K} {r0 : Int32} {z0 : pj_S} (hB : B.2.2.2.1 = pj_LM) (C : pj_C B A K cX11_pull 4 RX11 5) (Q : pj_Qi B A K (some .int) r0 z0)   (z : pj_S) (H : Heap) (lo : List Loc) (ls : Array Slot) (h : Md_pull_54 z = some (r0, z0)) (P : pj_P B A K z H lo) (hl : lv_has ls 4 [(0, .ref (B.2.1 0))]) : pj_W K H lo 54 ls [] := by
  unfold Md_pull_54 at h
  refine pj_aload_n C dd_Md_pull_54 rfl hl 0 rfl ?_
  refine pj_getI C P 0 (LM0 hB) rfl fl_Md_249 dd_Md_pull_55 ?_
  exact pj_iret C Q P h dd_Md_pull_58
set_option maxHeartbeats 4000000 in
set_option maxRecDepth 100000 in
theorem ct_Md_pull {l : Launch} {B : pj_B} (hB : B.2.2.2.1 = pj_LM) {v1 : Int32} {v2 : Int32} {v3 : Int32} {z : pj_S} {r0 : Int32} {z0 : pj_S} (h : Md_pull v1 v2 v3 z = some (r0, z0)) : pj_Mi l yX11_pull cX11_pull 4 (some .int) 5 [.ref (B.2.1 0), .int v1, .int v2, .int v3] B z r0 z0 := by
  refine pj_meti (own := RX11) (by decide +kernel) rfl (Nat.le_of_ble_eq_true rfl) ?_
  intro A K hK C Q H lo ls P hl
  have hl : lv_has ls 4 [(0, .ref (B.2.1 0)), (1, .int v1), (2, .int v2), (3, .int v3)] := hl
  unfold Md_pull at h
  refine pj_aload_n C dd_Md_pull_0 rfl hl 0 rfl ?_
  refine pj_iload_n C dd_Md_pull_1 rfl hl 1 rfl ?_
  refine pj_iload_n C dd_Md_pull_2 rfl hl 2 rfl ?_
  obtain ⟨r3, z2, e1, h⟩ := pj_cE h
  refine pj_cVi (st := []) [.int v1, .int v2] C P 0 (LM0 hB) rfl (ct_Md_isEnd hB e1) cl_Md_261 rfl (by decide) (by decide) hl.1 (Nat.le_of_ble_eq_true rfl) dd_Md_pull_3 (fun H lo P => ?_)
  refine pj_if_eq C h dd_Md_pull_6 (fun h => ?_) (fun h => ?_)
  · refine pj_iconst (v := (-1 : Int32)) C dd_Md_pull_19 rfl ?_
    exact pj_iret C Q P h dd_Md_pull_20
  · refine pj_iload_n C dd_Md_pull_9 rfl hl 3 rfl ?_
    refine pj_iconst (v := (nI 1)) C dd_Md_pull_10 rfl ?_
    refine pj_bipush (v := (nI 36)) C dd_Md_pull_11 rfl ?_
    obtain ⟨r6, z5, e4, h⟩ := pj_cE h
    refine pj_cSi (st := []) [.int v3, .int (nI 1), .int (nI 36)] C P (ct_Md_isInM hB e4) cl_Md_70 rfl (by decide) (by decide) hl.1 (Nat.le_of_ble_eq_true rfl) dd_Md_pull_13 (fun H lo P => ?_)
    refine pj_if_ne C h dd_Md_pull_16 (fun h => ?_) (fun h => ?_)
    · refine pj_aload_n C dd_Md_pull_21 rfl hl 0 rfl ?_
      obtain ⟨r9, z8, e7, h⟩ := pj_cE h
      refine pj_cVv (st := []) [] C P 0 (LM0 hB) rfl (ct_Md_keeps hB e7) cl_Md_240 rfl (by decide) (by decide) hl.1 (Nat.le_of_ble_eq_true rfl) dd_Md_pull_22 (fun H lo P => ?_)
      refine pj_aload_n C dd_Md_pull_25 rfl hl 0 rfl ?_
      obtain ⟨r12, z11, e10, h⟩ := pj_cE h
      refine pj_cVv (st := []) [] C P 0 (LM0 hB) rfl (ct_Md_laysNow hB e10) cl_Md_267 rfl (by decide) (by decide) hl.1 (Nat.le_of_ble_eq_true rfl) dd_Md_pull_26 (fun H lo P => ?_)
      refine pj_aload_n C dd_Md_pull_29 rfl hl 0 rfl ?_
      obtain ⟨r15, z14, e13, h⟩ := pj_cE h
      refine pj_cVv (st := []) [] C P 0 (LM0 hB) rfl (ct_Md_laysHolders hB e13) cl_Md_270 rfl (by decide) (by decide) hl.1 (Nat.le_of_ble_eq_true rfl) dd_Md_pull_30 (fun H lo P => ?_)
      refine pj_aload_n C dd_Md_pull_33 rfl hl 0 rfl ?_
      refine pj_iload_n C dd_Md_pull_34 rfl hl 1 rfl ?_
      refine pj_iload_n C dd_Md_pull_35 rfl hl 2 rfl ?_
      refine pj_iload_n C dd_Md_pull_36 rfl hl 3 rfl ?_
      refine pj_iconst (v := (nI 1)) C dd_Md_pull_37 rfl ?_
      obtain ⟨r18, z17, e16, h⟩ := pj_cE h
      refine pj_cVv (st := []) [.int v1, .int v2, .int v3, .int (nI 1)] C P 0 (LM0 hB) rfl (ct_Md_pulls hB e16) cl_Md_273 rfl (by decide) (by decide) hl.1 (Nat.le_of_ble_eq_true rfl) dd_Md_pull_38 (fun H lo P => ?_)
      refine pj_aload_n C dd_Md_pull_41 rfl hl 0 rfl ?_
      refine pj_getI C P 0 (LM0 hB) rfl fl_Md_249 dd_Md_pull_42 ?_
      refine pj_if_le C h dd_Md_pull_45 (fun h => ?_) (fun h => ?_)
      · exact bt_Md_pull_54 hB C Q _ _ _ _ h P (lv_sub hl [0] rfl)
      · refine pj_aload_n C dd_Md_pull_48 rfl hl 0 rfl ?_
        refine pj_iload_n C dd_Md_pull_49 rfl hl 1 rfl ?_
        refine pj_iload_n C dd_Md_pull_50 rfl hl 2 rfl ?_
        obtain ⟨r21, z20, e19, h⟩ := pj_cE h
        refine pj_cVv (st := []) [.int v1, .int v2] C P 0 (LM0 hB) rfl (ct_Md_winds hB e19) cl_Md_277 rfl (by decide) (by decide) hl.1 (Nat.le_of_ble_eq_true rfl) dd_Md_pull_51 (fun H lo P => ?_)
        exact bt_Md_pull_54 hB C Q _ _ _ _ h P (lv_sub hl [0] rfl)
    · refine pj_iconst (v := (-1 : Int32)) C dd_Md_pull_19 rfl ?_
      exact pj_iret C Q P h dd_Md_pull_20
theorem dd_Md_draw_0 : pj_d cX11_draw 0 (.aload_n 0) 1 1 := ⟨by decide +kernel, rfl⟩
theorem dd_Md_draw_1 : pj_d cX11_draw 1 (.getfield 7) 3 4 := ⟨by decide +kernel, rfl⟩
theorem dd_Md_draw_4 : pj_d cX11_draw 4 (.bipush 6) 2 6 := ⟨by decide +kernel, rfl⟩
theorem dd_Md_draw_6 : pj_d cX11_draw 6 (.ldc 74) 2 8 := ⟨by decide +kernel, rfl⟩
theorem dd_Md_draw_8 : pj_d cX11_draw 8 (.aload_n 0) 1 9 := ⟨by decide +kernel, rfl⟩
theorem dd_Md_draw_9 : pj_d cX11_draw 9 (.getfield 7) 3 12 := ⟨by decide +kernel, rfl⟩
theorem dd_Md_draw_12 : pj_d cX11_draw 12 (.bipush 6) 2 14 := ⟨by decide +kernel, rfl⟩
theorem dd_Md_draw_14 : pj_d cX11_draw 14 (.iaload) 1 15 := ⟨by decide +kernel, rfl⟩
theorem dd_Md_draw_15 : pj_d cX11_draw 15 (.imul) 1 16 := ⟨by decide +kernel, rfl⟩
theorem dd_Md_draw_16 : pj_d cX11_draw 16 (.ldc 75) 2 18 := ⟨by decide +kernel, rfl⟩
theorem dd_Md_draw_18 : pj_d cX11_draw 18 (.iadd) 1 19 := ⟨by decide +kernel, rfl⟩
theorem dd_Md_draw_19 : pj_d cX11_draw 19 (.iastore) 1 20 := ⟨by decide +kernel, rfl⟩
theorem dd_Md_draw_20 : pj_d cX11_draw 20 (.aload_n 0) 1 21 := ⟨by decide +kernel, rfl⟩
theorem dd_Md_draw_21 : pj_d cX11_draw 21 (.getfield 7) 3 24 := ⟨by decide +kernel, rfl⟩
theorem dd_Md_draw_24 : pj_d cX11_draw 24 (.bipush 6) 2 26 := ⟨by decide +kernel, rfl⟩
theorem dd_Md_draw_26 : pj_d cX11_draw 26 (.iaload) 1 27 := ⟨by decide +kernel, rfl⟩
theorem dd_Md_draw_27 : pj_d cX11_draw 27 (.bipush 8) 2 29 := ⟨by decide +kernel, rfl⟩
theorem dd_Md_draw_29 : pj_d cX11_draw 29 (.iushr) 1 30 := ⟨by decide +kernel, rfl⟩
theorem dd_Md_draw_30 : pj_d cX11_draw 30 (.iload_n 1) 1 31 := ⟨by decide +kernel, rfl⟩
theorem dd_Md_draw_31 : pj_d cX11_draw 31 (.irem) 1 32 := ⟨by decide +kernel, rfl⟩
theorem dd_Md_draw_32 : pj_d cX11_draw 32 (.ireturn) 1 33 := ⟨by decide +kernel, rfl⟩
set_option maxHeartbeats 4000000 in
set_option maxRecDepth 100000 in
theorem ct_Md_draw {l : Launch} {B : pj_B} (hB : B.2.2.2.1 = pj_LM) {v1 : Int32} {z : pj_S} {r0 : Int32} {z0 : pj_S} (h : Md_draw v1 z = some (r0, z0)) : pj_Mi l yX11_draw cX11_draw 2 (some .int) 1 [.ref (B.2.1 0), .int v1] B z r0 z0 := by
  refine pj_meti (own := RX11) (by decide +kernel) rfl (Nat.le_of_ble_eq_true rfl) ?_
  intro A K hK C Q H lo ls P hl
  have hl : lv_has ls 2 [(0, .ref (B.2.1 0)), (1, .int v1)] := hl
  unfold Md_draw at h
  refine pj_aload_n C dd_Md_draw_0 rfl hl 0 rfl ?_
  refine pj_getR C P 0 (LM0 hB) rfl fl_Md_7 dd_Md_draw_1 ?_
  refine pj_bipush (v := (nI 6)) C dd_Md_draw_4 rfl ?_
  refine pj_ldc (v := (nI 1664525)) C co_Md_74 dd_Md_draw_6 ?_
  refine pj_aload_n C dd_Md_draw_8 rfl hl 0 rfl ?_
  refine pj_getR C P 0 (LM0 hB) rfl fl_Md_7 dd_Md_draw_9 ?_
  refine pj_bipush (v := (nI 6)) C dd_Md_draw_12 rfl ?_
  refine pj_iald C P 1 (LM1 hB) h dd_Md_draw_14 (fun h => ?_)
  refine pj_imul C dd_Md_draw_15 ?_
  refine pj_ldc (v := (nI 1013904223)) C co_Md_75 dd_Md_draw_16 ?_
  refine pj_iadd C dd_Md_draw_18 ?_
  refine pj_iast C P 1 (LM1 hB) h dd_Md_draw_19 (fun H lo z1 h P => ?_)
  refine pj_aload_n C dd_Md_draw_20 rfl hl 0 rfl ?_
  refine pj_getR C P 0 (LM0 hB) rfl fl_Md_7 dd_Md_draw_21 ?_
  refine pj_bipush (v := (nI 6)) C dd_Md_draw_24 rfl ?_
  refine pj_iald C P 1 (LM1 hB) h dd_Md_draw_26 (fun h => ?_)
  refine pj_bipush (v := (nI 8)) C dd_Md_draw_27 rfl ?_
  refine pj_iushr C dd_Md_draw_29 ?_
  refine pj_iload_n C dd_Md_draw_30 rfl hl 1 rfl ?_
  refine pj_irem C h dd_Md_draw_31 (fun h => ?_)
  exact pj_iret C Q P h dd_Md_draw_32
theorem dd_Md_isLoose_0 : pj_d cX11_isLoose 0 (.aload_n 0) 1 1 := ⟨by decide +kernel, rfl⟩
theorem dd_Md_isLoose_1 : pj_d cX11_isLoose 1 (.getfield 38) 3 4 := ⟨by decide +kernel, rfl⟩
theorem dd_Md_isLoose_4 : pj_d cX11_isLoose 4 (.iload_n 1) 1 5 := ⟨by decide +kernel, rfl⟩
theorem dd_Md_isLoose_5 : pj_d cX11_isLoose 5 (.iaload) 1 6 := ⟨by decide +kernel, rfl⟩
theorem dd_Md_isLoose_6 : pj_d cX11_isLoose 6 (.iconst 1) 1 7 := ⟨by decide +kernel, rfl⟩
theorem dd_Md_isLoose_7 : pj_dj cX11_isLoose 7 (.if_icmp .ne 15) 15 10 22 := ⟨by decide +kernel, rfl, by decide⟩
theorem dd_Md_isLoose_10 : pj_d cX11_isLoose 10 (.aload_n 0) 1 11 := ⟨by decide +kernel, rfl⟩
theorem dd_Md_isLoose_11 : pj_d cX11_isLoose 11 (.iload_n 1) 1 12 := ⟨by decide +kernel, rfl⟩
theorem dd_Md_isLoose_12 : pj_d cX11_isLoose 12 (.invokevirtual 217) 3 15 := ⟨by decide +kernel, rfl⟩
theorem dd_Md_isLoose_15 : pj_dj cX11_isLoose 15 (.ifCond .ne 7) 7 18 22 := ⟨by decide +kernel, rfl, by decide⟩
theorem dd_Md_isLoose_18 : pj_d cX11_isLoose 18 (.iconst 1) 1 19 := ⟨by decide +kernel, rfl⟩
theorem dd_Md_isLoose_19 : pj_dj cX11_isLoose 19 (.goto 4) 4 22 23 := ⟨by decide +kernel, rfl, by decide⟩
theorem dd_Md_isLoose_22 : pj_d cX11_isLoose 22 (.iconst 0) 1 23 := ⟨by decide +kernel, rfl⟩
theorem dd_Md_isLoose_23 : pj_d cX11_isLoose 23 (.ireturn) 1 24 := ⟨by decide +kernel, rfl⟩
set_option maxHeartbeats 4000000 in
set_option maxRecDepth 100000 in
theorem ct_Md_isLoose {l : Launch} {B : pj_B} (hB : B.2.2.2.1 = pj_LM) {v1 : Int32} {z : pj_S} {r0 : Int32} {z0 : pj_S} (h : Md_isLoose v1 z = some (r0, z0)) : pj_Mi l yX11_isLoose cX11_isLoose 2 (some .boolean) 2 [.ref (B.2.1 0), .int v1] B z r0 z0 := by
  refine pj_meti (own := RX11) (by decide +kernel) rfl (Nat.le_of_ble_eq_true rfl) ?_
  intro A K hK C Q H lo ls P hl
  have hl : lv_has ls 2 [(0, .ref (B.2.1 0)), (1, .int v1)] := hl
  unfold Md_isLoose at h
  refine pj_aload_n C dd_Md_isLoose_0 rfl hl 0 rfl ?_
  refine pj_getR C P 0 (LM0 hB) rfl fl_Md_38 dd_Md_isLoose_1 ?_
  refine pj_iload_n C dd_Md_isLoose_4 rfl hl 1 rfl ?_
  refine pj_iald C P 9 (LM9 hB) h dd_Md_isLoose_5 (fun h => ?_)
  refine pj_iconst (v := (nI 1)) C dd_Md_isLoose_6 rfl ?_
  refine pj_ic_ne C h dd_Md_isLoose_7 (fun h => ?_) (fun h => ?_)
  · refine pj_iconst (v := (nI 0)) C dd_Md_isLoose_22 rfl ?_
    exact pj_zret C Q P h dd_Md_isLoose_23
  · refine pj_aload_n C dd_Md_isLoose_10 rfl hl 0 rfl ?_
    refine pj_iload_n C dd_Md_isLoose_11 rfl hl 1 rfl ?_
    obtain ⟨r3, z2, e1, h⟩ := pj_cE h
    refine pj_cVi (st := []) [.int v1] C P 0 (LM0 hB) rfl (ct_Md_isHeld hB e1) cl_Md_217 rfl (by decide) (by decide) hl.1 (Nat.le_of_ble_eq_true rfl) dd_Md_isLoose_12 (fun H lo P => ?_)
    refine pj_if_ne C h dd_Md_isLoose_15 (fun h => ?_) (fun h => ?_)
    · refine pj_iconst (v := (nI 0)) C dd_Md_isLoose_22 rfl ?_
      exact pj_zret C Q P h dd_Md_isLoose_23
    · refine pj_iconst (v := (nI 1)) C dd_Md_isLoose_18 rfl ?_
      refine pj_goto C dd_Md_isLoose_19 ?_
      exact pj_zret C Q P h dd_Md_isLoose_23
theorem dd_Md_both_0 : pj_d cX11_both 0 (.iload_n 0) 1 1 := ⟨by decide +kernel, rfl⟩
theorem dd_Md_both_1 : pj_d cX11_both 1 (.tableswitch 100 13 21 #[51, 55, 59, 100, 63, 74, 85, 100, 96]) 51 52 := ⟨by decide +kernel, rfl⟩
theorem dd_Md_both_52 : pj_d cX11_both 52 (.iload_n 1) 1 53 := ⟨by decide +kernel, rfl⟩
theorem dd_Md_both_53 : pj_d cX11_both 53 (.iload_n 2) 1 54 := ⟨by decide +kernel, rfl⟩
theorem dd_Md_both_54 : pj_d cX11_both 54 (.iadd) 1 55 := ⟨by decide +kernel, rfl⟩
theorem dd_Md_both_55 : pj_d cX11_both 55 (.ireturn) 1 56 := ⟨by decide +kernel, rfl⟩
theorem dd_Md_both_56 : pj_d cX11_both 56 (.iload_n 1) 1 57 := ⟨by decide +kernel, rfl⟩
theorem dd_Md_both_57 : pj_d cX11_both 57 (.iload_n 2) 1 58 := ⟨by decide +kernel, rfl⟩
theorem dd_Md_both_58 : pj_d cX11_both 58 (.isub) 1 59 := ⟨by decide +kernel, rfl⟩
theorem dd_Md_both_59 : pj_d cX11_both 59 (.ireturn) 1 60 := ⟨by decide +kernel, rfl⟩
theorem dd_Md_both_60 : pj_d cX11_both 60 (.iload_n 1) 1 61 := ⟨by decide +kernel, rfl⟩
theorem dd_Md_both_61 : pj_d cX11_both 61 (.iload_n 2) 1 62 := ⟨by decide +kernel, rfl⟩
theorem dd_Md_both_62 : pj_d cX11_both 62 (.imul) 1 63 := ⟨by decide +kernel, rfl⟩
theorem dd_Md_both_63 : pj_d cX11_both 63 (.ireturn) 1 64 := ⟨by decide +kernel, rfl⟩
theorem dd_Md_both_64 : pj_d cX11_both 64 (.iload_n 1) 1 65 := ⟨by decide +kernel, rfl⟩
theorem dd_Md_both_65 : pj_d cX11_both 65 (.iload_n 2) 1 66 := ⟨by decide +kernel, rfl⟩
theorem dd_Md_both_66 : pj_dj cX11_both 66 (.if_icmp .ge 7) 7 69 73 := ⟨by decide +kernel, rfl, by decide⟩
theorem dd_Md_both_69 : pj_d cX11_both 69 (.iconst 1) 1 70 := ⟨by decide +kernel, rfl⟩
theorem dd_Md_both_70 : pj_dj cX11_both 70 (.goto 4) 4 73 74 := ⟨by decide +kernel, rfl, by decide⟩
theorem dd_Md_both_73 : pj_d cX11_both 73 (.iconst 0) 1 74 := ⟨by decide +kernel, rfl⟩
theorem dd_Md_both_74 : pj_d cX11_both 74 (.ireturn) 1 75 := ⟨by decide +kernel, rfl⟩
theorem dd_Md_both_75 : pj_d cX11_both 75 (.iload_n 1) 1 76 := ⟨by decide +kernel, rfl⟩
theorem dd_Md_both_76 : pj_d cX11_both 76 (.iload_n 2) 1 77 := ⟨by decide +kernel, rfl⟩
theorem dd_Md_both_77 : pj_dj cX11_both 77 (.if_icmp .ne 7) 7 80 84 := ⟨by decide +kernel, rfl, by decide⟩
theorem dd_Md_both_80 : pj_d cX11_both 80 (.iconst 1) 1 81 := ⟨by decide +kernel, rfl⟩
theorem dd_Md_both_81 : pj_dj cX11_both 81 (.goto 4) 4 84 85 := ⟨by decide +kernel, rfl, by decide⟩
theorem dd_Md_both_84 : pj_d cX11_both 84 (.iconst 0) 1 85 := ⟨by decide +kernel, rfl⟩
theorem dd_Md_both_85 : pj_d cX11_both 85 (.ireturn) 1 86 := ⟨by decide +kernel, rfl⟩
theorem dd_Md_both_86 : pj_d cX11_both 86 (.iload_n 1) 1 87 := ⟨by decide +kernel, rfl⟩
theorem dd_Md_both_87 : pj_d cX11_both 87 (.iload_n 2) 1 88 := ⟨by decide +kernel, rfl⟩
theorem dd_Md_both_88 : pj_dj cX11_both 88 (.if_icmp .le 7) 7 91 95 := ⟨by decide +kernel, rfl, by decide⟩
theorem dd_Md_both_91 : pj_d cX11_both 91 (.iconst 1) 1 92 := ⟨by decide +kernel, rfl⟩
theorem dd_Md_both_92 : pj_dj cX11_both 92 (.goto 4) 4 95 96 := ⟨by decide +kernel, rfl, by decide⟩
theorem dd_Md_both_95 : pj_d cX11_both 95 (.iconst 0) 1 96 := ⟨by decide +kernel, rfl⟩
theorem dd_Md_both_96 : pj_d cX11_both 96 (.ireturn) 1 97 := ⟨by decide +kernel, rfl⟩
theorem dd_Md_both_97 : pj_d cX11_both 97 (.iload_n 1) 1 98 := ⟨by decide +kernel, rfl⟩
theorem dd_Md_both_98 : pj_d cX11_both 98 (.iload_n 2) 1 99 := ⟨by decide +kernel, rfl⟩
theorem dd_Md_both_99 : pj_d cX11_both 99 (.iand) 1 100 := ⟨by decide +kernel, rfl⟩
theorem dd_Md_both_100 : pj_d cX11_both 100 (.ireturn) 1 101 := ⟨by decide +kernel, rfl⟩
theorem dd_Md_both_101 : pj_d cX11_both 101 (.iload_n 1) 1 102 := ⟨by decide +kernel, rfl⟩
theorem dd_Md_both_102 : pj_d cX11_both 102 (.iload_n 2) 1 103 := ⟨by decide +kernel, rfl⟩
theorem dd_Md_both_103 : pj_d cX11_both 103 (.ior) 1 104 := ⟨by decide +kernel, rfl⟩
theorem dd_Md_both_104 : pj_d cX11_both 104 (.ireturn) 1 105 := ⟨by decide +kernel, rfl⟩
set_option maxHeartbeats 4000000 in
set_option maxRecDepth 100000 in
theorem ct_Md_bothM {l : Launch} {B : pj_B} (hB : B.2.2.2.1 = pj_LM) {v0 : Int32} {v1 : Int32} {v2 : Int32} {z : pj_S} {r0 : Int32} {z0 : pj_S} (h : Md_bothM v0 v1 v2 z = some (r0, z0)) : pj_Mi l yX11_both cX11_both 3 (some .int) 1 [.int v0, .int v1, .int v2] B z r0 z0 := by
  refine pj_meti (own := RX11) (by decide +kernel) rfl (Nat.le_of_ble_eq_true rfl) ?_
  intro A K hK C Q H lo ls P hl
  have hl : lv_has ls 3 [(0, .int v0), (1, .int v1), (2, .int v2)] := hl
  unfold Md_bothM at h
  refine pj_iload_n C dd_Md_both_0 rfl hl 0 rfl ?_
  refine pj_sw h (fun c0 h => ?_) (fun c0 h => ?_)
  · refine pj_swI (nI 13) (51) 52 C dd_Md_both_1 c0 (by decide) ?_
    refine pj_iload_n C dd_Md_both_52 rfl hl 1 rfl ?_
    refine pj_iload_n C dd_Md_both_53 rfl hl 2 rfl ?_
    refine pj_iadd C dd_Md_both_54 ?_
    exact pj_iret C Q P h dd_Md_both_55
  refine pj_sw h (fun c1 h => ?_) (fun c1 h => ?_)
  · refine pj_swI (nI 14) (55) 56 C dd_Md_both_1 c1 (by decide) ?_
    refine pj_iload_n C dd_Md_both_56 rfl hl 1 rfl ?_
    refine pj_iload_n C dd_Md_both_57 rfl hl 2 rfl ?_
    refine pj_isub C dd_Md_both_58 ?_
    exact pj_iret C Q P h dd_Md_both_59
  refine pj_sw h (fun c2 h => ?_) (fun c2 h => ?_)
  · refine pj_swI (nI 15) (59) 60 C dd_Md_both_1 c2 (by decide) ?_
    refine pj_iload_n C dd_Md_both_60 rfl hl 1 rfl ?_
    refine pj_iload_n C dd_Md_both_61 rfl hl 2 rfl ?_
    refine pj_imul C dd_Md_both_62 ?_
    exact pj_iret C Q P h dd_Md_both_63
  refine pj_sw h (fun c3 h => ?_) (fun c3 h => ?_)
  · refine pj_swI (nI 16) (100) 101 C dd_Md_both_1 c3 (by decide) ?_
    refine pj_iload_n C dd_Md_both_101 rfl hl 1 rfl ?_
    refine pj_iload_n C dd_Md_both_102 rfl hl 2 rfl ?_
    refine pj_ior C dd_Md_both_103 ?_
    exact pj_iret C Q P h dd_Md_both_104
  refine pj_sw h (fun c4 h => ?_) (fun c4 h => ?_)
  · refine pj_swI (nI 17) (63) 64 C dd_Md_both_1 c4 (by decide) ?_
    refine pj_iload_n C dd_Md_both_64 rfl hl 1 rfl ?_
    refine pj_iload_n C dd_Md_both_65 rfl hl 2 rfl ?_
    refine pj_ic_ge C h dd_Md_both_66 (fun h => ?_) (fun h => ?_)
    · refine pj_iconst (v := (nI 0)) C dd_Md_both_73 rfl ?_
      exact pj_iret C Q P h dd_Md_both_74
    · refine pj_iconst (v := (nI 1)) C dd_Md_both_69 rfl ?_
      refine pj_goto C dd_Md_both_70 ?_
      exact pj_iret C Q P h dd_Md_both_74
  refine pj_sw h (fun c5 h => ?_) (fun c5 h => ?_)
  · refine pj_swI (nI 18) (74) 75 C dd_Md_both_1 c5 (by decide) ?_
    refine pj_iload_n C dd_Md_both_75 rfl hl 1 rfl ?_
    refine pj_iload_n C dd_Md_both_76 rfl hl 2 rfl ?_
    refine pj_ic_ne C h dd_Md_both_77 (fun h => ?_) (fun h => ?_)
    · refine pj_iconst (v := (nI 0)) C dd_Md_both_84 rfl ?_
      exact pj_iret C Q P h dd_Md_both_85
    · refine pj_iconst (v := (nI 1)) C dd_Md_both_80 rfl ?_
      refine pj_goto C dd_Md_both_81 ?_
      exact pj_iret C Q P h dd_Md_both_85
  refine pj_sw h (fun c6 h => ?_) (fun c6 h => ?_)
  · refine pj_swI (nI 19) (85) 86 C dd_Md_both_1 c6 (by decide) ?_
    refine pj_iload_n C dd_Md_both_86 rfl hl 1 rfl ?_
    refine pj_iload_n C dd_Md_both_87 rfl hl 2 rfl ?_
    refine pj_ic_le C h dd_Md_both_88 (fun h => ?_) (fun h => ?_)
    · refine pj_iconst (v := (nI 0)) C dd_Md_both_95 rfl ?_
      exact pj_iret C Q P h dd_Md_both_96
    · refine pj_iconst (v := (nI 1)) C dd_Md_both_91 rfl ?_
      refine pj_goto C dd_Md_both_92 ?_
      exact pj_iret C Q P h dd_Md_both_96
  refine pj_sw h (fun c7 h => ?_) (fun c7 h => ?_)
  · refine pj_swI (nI 20) (100) 101 C dd_Md_both_1 c7 (by decide) ?_
    refine pj_iload_n C dd_Md_both_101 rfl hl 1 rfl ?_
    refine pj_iload_n C dd_Md_both_102 rfl hl 2 rfl ?_
    refine pj_ior C dd_Md_both_103 ?_
    exact pj_iret C Q P h dd_Md_both_104
  refine pj_sw h (fun c8 h => ?_) (fun c8 h => ?_)
  · refine pj_swI (nI 21) (96) 97 C dd_Md_both_1 c8 (by decide) ?_
    refine pj_iload_n C dd_Md_both_97 rfl hl 1 rfl ?_
    refine pj_iload_n C dd_Md_both_98 rfl hl 2 rfl ?_
    refine pj_iand C dd_Md_both_99 ?_
    exact pj_iret C Q P h dd_Md_both_100
  have u0 := pj_nI c0 (n := 13) (by decide)
  have u1 := pj_nI c1 (n := 14) (by decide)
  have u2 := pj_nI c2 (n := 15) (by decide)
  have u3 := pj_nI c3 (n := 16) (by decide)
  have u4 := pj_nI c4 (n := 17) (by decide)
  have u5 := pj_nI c5 (n := 18) (by decide)
  have u6 := pj_nI c6 (n := 19) (by decide)
  have u7 := pj_nI c7 (n := 20) (by decide)
  have u8 := pj_nI c8 (n := 21) (by decide)
  refine pj_swO 101 C dd_Md_both_1 (by omega) (by decide) ?_
  refine pj_iload_n C dd_Md_both_101 rfl hl 1 rfl ?_
  refine pj_iload_n C dd_Md_both_102 rfl hl 2 rfl ?_
  refine pj_ior C dd_Md_both_103 ?_
  exact pj_iret C Q P h dd_Md_both_104
