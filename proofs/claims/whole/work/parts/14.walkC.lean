theorem ct_Reader_readClause_d {l : Launch} {B : pj_B} (hB : B.2.2.2.1 = pj_LC) : ∀ (d : Nat) (v1 : Int32) (z : pj_S) (r0 : Int32) (z0 : pj_S), pj_lp1 Reader_readClause_B d v1 z = some (r0, z0) → pj_Mi l yX3_readClause cX3_readClause 4 (some .boolean) (3 + 2 * d) [.ref (B.2.1 5), .int v1] B z r0 z0 := by
  intro d
  induction d with
  | zero => intro v1 z r0 z0 h; rw [pj_lp1_0] at h; cases h
  | succ d ih =>
    intro v1 z r0 z0 h
    rw [pj_lp1_s] at h
    exact ct_Reader_readClause_B hB (lv0 := 3 + 2 * d) (Nat.le_add_right _ _) ih h
theorem ct_Reader_readClause_o {l : Launch} {B : pj_B} (hB : B.2.2.2.1 = pj_LC) {v1 : Int32} {z : pj_S} {r0 : Int32} {z0 : pj_S} (h : Reader_readClause_o v1 z = some (r0, z0)) : pj_Mi l yX3_readClause cX3_readClause 4 (some .boolean) 27 [.ref (B.2.1 5), .int v1] B z r0 z0 := ct_Reader_readClause_d hB 12 _ _ _ _ h
theorem ct_Reader_readCondition_o {l : Launch} {B : pj_B} (hB : B.2.2.2.1 = pj_LC) {v1 : Int32} {z : pj_S} {r0 : Int32} {z0 : pj_S} (h : Reader_readCondition_o v1 z = some (r0, z0)) : pj_Mi l yX3_readCondition cX3_readCondition 5 (some .boolean) 28 [.ref (B.2.1 5), .int v1] B z r0 z0 := ct_Reader_readCondition hB (lv0 := 27) (by decide) (ct_Reader_readClause_d hB 12) h
theorem dd_Reader_readLine_0 : pj_d cX3_readLine 0 (.aload_n 0) 1 1 := ⟨by decide +kernel, rfl⟩
theorem dd_Reader_readLine_1 : pj_d cX3_readLine 1 (.invokevirtual 44) 3 4 := ⟨by decide +kernel, rfl⟩
theorem dd_Reader_readLine_4 : pj_d cX3_readLine 4 (.bipush (-18)) 2 6 := ⟨by decide +kernel, rfl⟩
theorem dd_Reader_readLine_6 : pj_dj cX3_readLine 6 (.if_icmp .eq 9) 9 9 15 := ⟨by decide +kernel, rfl, by decide⟩
theorem dd_Reader_readLine_9 : pj_d cX3_readLine 9 (.aload_n 0) 1 10 := ⟨by decide +kernel, rfl⟩
theorem dd_Reader_readLine_10 : pj_d cX3_readLine 10 (.iconst 1) 1 11 := ⟨by decide +kernel, rfl⟩
theorem dd_Reader_readLine_11 : pj_d cX3_readLine 11 (.invokevirtual 122) 3 14 := ⟨by decide +kernel, rfl⟩
theorem dd_Reader_readLine_14 : pj_d cX3_readLine 14 (.ireturn) 1 15 := ⟨by decide +kernel, rfl⟩
theorem dd_Reader_readLine_15 : pj_d cX3_readLine 15 (.aload_n 0) 1 16 := ⟨by decide +kernel, rfl⟩
theorem dd_Reader_readLine_16 : pj_d cX3_readLine 16 (.getfield 37) 3 19 := ⟨by decide +kernel, rfl⟩
theorem dd_Reader_readLine_19 : pj_d cX3_readLine 19 (.bipush 16) 2 21 := ⟨by decide +kernel, rfl⟩
theorem dd_Reader_readLine_21 : pj_dj cX3_readLine 21 (.if_icmp .lt 9) 9 24 30 := ⟨by decide +kernel, rfl, by decide⟩
theorem dd_Reader_readLine_24 : pj_d cX3_readLine 24 (.aload_n 0) 1 25 := ⟨by decide +kernel, rfl⟩
theorem dd_Reader_readLine_25 : pj_d cX3_readLine 25 (.iconst 3) 1 26 := ⟨by decide +kernel, rfl⟩
theorem dd_Reader_readLine_26 : pj_d cX3_readLine 26 (.invokevirtual 122) 3 29 := ⟨by decide +kernel, rfl⟩
theorem dd_Reader_readLine_29 : pj_d cX3_readLine 29 (.ireturn) 1 30 := ⟨by decide +kernel, rfl⟩
theorem dd_Reader_readLine_30 : pj_d cX3_readLine 30 (.aload_n 0) 1 31 := ⟨by decide +kernel, rfl⟩
theorem dd_Reader_readLine_31 : pj_d cX3_readLine 31 (.dup) 1 32 := ⟨by decide +kernel, rfl⟩
theorem dd_Reader_readLine_32 : pj_d cX3_readLine 32 (.getfield 31) 3 35 := ⟨by decide +kernel, rfl⟩
theorem dd_Reader_readLine_35 : pj_d cX3_readLine 35 (.iconst 1) 1 36 := ⟨by decide +kernel, rfl⟩
theorem dd_Reader_readLine_36 : pj_d cX3_readLine 36 (.iadd) 1 37 := ⟨by decide +kernel, rfl⟩
theorem dd_Reader_readLine_37 : pj_d cX3_readLine 37 (.putfield 31) 3 40 := ⟨by decide +kernel, rfl⟩
theorem dd_Reader_readLine_40 : pj_d cX3_readLine 40 (.aload_n 0) 1 41 := ⟨by decide +kernel, rfl⟩
theorem dd_Reader_readLine_41 : pj_d cX3_readLine 41 (.dup) 1 42 := ⟨by decide +kernel, rfl⟩
theorem dd_Reader_readLine_42 : pj_d cX3_readLine 42 (.getfield 37) 3 45 := ⟨by decide +kernel, rfl⟩
theorem dd_Reader_readLine_45 : pj_d cX3_readLine 45 (.iconst 1) 1 46 := ⟨by decide +kernel, rfl⟩
theorem dd_Reader_readLine_46 : pj_d cX3_readLine 46 (.iadd) 1 47 := ⟨by decide +kernel, rfl⟩
theorem dd_Reader_readLine_47 : pj_d cX3_readLine 47 (.putfield 37) 3 50 := ⟨by decide +kernel, rfl⟩
theorem dd_Reader_readLine_50 : pj_d cX3_readLine 50 (.aload_n 0) 1 51 := ⟨by decide +kernel, rfl⟩
theorem dd_Reader_readLine_51 : pj_d cX3_readLine 51 (.invokevirtual 125) 3 54 := ⟨by decide +kernel, rfl⟩
theorem dd_Reader_readLine_54 : pj_dj cX3_readLine 54 (.ifCond .ne 5) 5 57 59 := ⟨by decide +kernel, rfl, by decide⟩
theorem dd_Reader_readLine_57 : pj_d cX3_readLine 57 (.iconst 0) 1 58 := ⟨by decide +kernel, rfl⟩
theorem dd_Reader_readLine_58 : pj_d cX3_readLine 58 (.ireturn) 1 59 := ⟨by decide +kernel, rfl⟩
theorem dd_Reader_readLine_59 : pj_d cX3_readLine 59 (.bipush (-18)) 2 61 := ⟨by decide +kernel, rfl⟩
theorem dd_Reader_readLine_61 : pj_d cX3_readLine 61 (.istore_n 1) 1 62 := ⟨by decide +kernel, rfl⟩
theorem dd_Reader_readLine_62 : pj_d cX3_readLine 62 (.aload_n 0) 1 63 := ⟨by decide +kernel, rfl⟩
theorem dd_Reader_readLine_63 : pj_d cX3_readLine 63 (.invokevirtual 44) 3 66 := ⟨by decide +kernel, rfl⟩
theorem dd_Reader_readLine_66 : pj_d cX3_readLine 66 (.bipush (-19)) 2 68 := ⟨by decide +kernel, rfl⟩
theorem dd_Reader_readLine_68 : pj_dj cX3_readLine 68 (.if_icmp .ne 26) 26 71 94 := ⟨by decide +kernel, rfl, by decide⟩
theorem dd_Reader_readLine_71 : pj_d cX3_readLine 71 (.bipush (-19)) 2 73 := ⟨by decide +kernel, rfl⟩
theorem dd_Reader_readLine_73 : pj_d cX3_readLine 73 (.istore_n 1) 1 74 := ⟨by decide +kernel, rfl⟩
theorem dd_Reader_readLine_74 : pj_d cX3_readLine 74 (.aload_n 0) 1 75 := ⟨by decide +kernel, rfl⟩
theorem dd_Reader_readLine_75 : pj_d cX3_readLine 75 (.dup) 1 76 := ⟨by decide +kernel, rfl⟩
theorem dd_Reader_readLine_76 : pj_d cX3_readLine 76 (.getfield 31) 3 79 := ⟨by decide +kernel, rfl⟩
theorem dd_Reader_readLine_79 : pj_d cX3_readLine 79 (.iconst 1) 1 80 := ⟨by decide +kernel, rfl⟩
theorem dd_Reader_readLine_80 : pj_d cX3_readLine 80 (.iadd) 1 81 := ⟨by decide +kernel, rfl⟩
theorem dd_Reader_readLine_81 : pj_d cX3_readLine 81 (.putfield 31) 3 84 := ⟨by decide +kernel, rfl⟩
theorem dd_Reader_readLine_84 : pj_d cX3_readLine 84 (.aload_n 0) 1 85 := ⟨by decide +kernel, rfl⟩
theorem dd_Reader_readLine_85 : pj_d cX3_readLine 85 (.iconst 0) 1 86 := ⟨by decide +kernel, rfl⟩
theorem dd_Reader_readLine_86 : pj_d cX3_readLine 86 (.invokevirtual 128) 3 89 := ⟨by decide +kernel, rfl⟩
theorem dd_Reader_readLine_89 : pj_dj cX3_readLine 89 (.ifCond .ne 5) 5 92 94 := ⟨by decide +kernel, rfl, by decide⟩
theorem dd_Reader_readLine_92 : pj_d cX3_readLine 92 (.iconst 0) 1 93 := ⟨by decide +kernel, rfl⟩
theorem dd_Reader_readLine_93 : pj_d cX3_readLine 93 (.ireturn) 1 94 := ⟨by decide +kernel, rfl⟩
theorem dd_Reader_readLine_94 : pj_d cX3_readLine 94 (.aload_n 0) 1 95 := ⟨by decide +kernel, rfl⟩
theorem dd_Reader_readLine_95 : pj_d cX3_readLine 95 (.iload_n 1) 1 96 := ⟨by decide +kernel, rfl⟩
theorem dd_Reader_readLine_96 : pj_d cX3_readLine 96 (.invokevirtual 131) 3 99 := ⟨by decide +kernel, rfl⟩
theorem dd_Reader_readLine_99 : pj_d cX3_readLine 99 (.aload_n 0) 1 100 := ⟨by decide +kernel, rfl⟩
theorem dd_Reader_readLine_100 : pj_d cX3_readLine 100 (.bipush 59) 2 102 := ⟨by decide +kernel, rfl⟩
theorem dd_Reader_readLine_102 : pj_d cX3_readLine 102 (.invokevirtual 135) 3 105 := ⟨by decide +kernel, rfl⟩
theorem dd_Reader_readLine_105 : pj_d cX3_readLine 105 (.ireturn) 1 106 := ⟨by decide +kernel, rfl⟩
set_option maxHeartbeats 4000000 in
set_option maxRecDepth 100000 in
theorem bt_Reader_readLine_94 {B : pj_B} {A : Nat → Prop} {K : pj_K} {r0 : Int32} {z0 : pj_S} (hB : B.2.2.2.1 = pj_LC) (C : pj_C B A K cX3_readLine 2 RX3 29) (Q : pj_Qi B A K (some .boolean) r0 z0)  (v1 : Int32) (z : pj_S) (H : Heap) (lo : List Loc) (ls : Array Slot) (h : Reader_readLine_94 v1 z = some (r0, z0)) (P : pj_P B A K z H lo) (hl : lv_has ls 2 [(0, .ref (B.2.1 5)), (1, .int v1)]) : pj_W K H lo 94 ls [] := by
  unfold Reader_readLine_94 at h
  refine pj_aload_n C dd_Reader_readLine_94 rfl hl 0 rfl ?_
  refine pj_iload_n C dd_Reader_readLine_95 rfl hl 1 rfl ?_
  obtain ⟨r3, z2, e1, h⟩ := pj_cE h
  refine pj_cVv (st := []) [.int v1] C P 5 (LC5 hB) rfl (ct_Reader_emit hB e1) cl_Reader_131 rfl (by decide) (by decide) hl.1 (Nat.le_of_ble_eq_true rfl) dd_Reader_readLine_96 (fun H lo P => ?_)
  refine pj_aload_n C dd_Reader_readLine_99 rfl hl 0 rfl ?_
  refine pj_bipush (v := (nI 59)) C dd_Reader_readLine_100 rfl ?_
  obtain ⟨r6, z5, e4, h⟩ := pj_cE h
  refine pj_cVi (st := []) [.int (nI 59)] C P 5 (LC5 hB) rfl (ct_Reader_readSign hB e4) cl_Reader_135 rfl (by decide) (by decide) hl.1 (Nat.le_of_ble_eq_true rfl) dd_Reader_readLine_102 (fun H lo P => ?_)
  exact pj_zret C Q P h dd_Reader_readLine_105
set_option maxHeartbeats 4000000 in
set_option maxRecDepth 100000 in
theorem ct_Reader_readLine {l : Launch} {B : pj_B} (hB : B.2.2.2.1 = pj_LC)  {z : pj_S} {r0 : Int32} {z0 : pj_S} (h : Reader_readLine z = some (r0, z0)) : pj_Mi l yX3_readLine cX3_readLine 2 (some .boolean) 29 [.ref (B.2.1 5)] B z r0 z0 := by
  refine pj_meti (own := RX3) (by decide +kernel) rfl (Nat.le_of_ble_eq_true rfl) ?_
  intro A K hK C Q H lo ls P hl
  have hl : lv_has ls 2 [(0, .ref (B.2.1 5))] := hl
  unfold Reader_readLine at h
  refine pj_aload_n C dd_Reader_readLine_0 rfl hl 0 rfl ?_
  obtain ⟨r3, z2, e1, h⟩ := pj_cE h
  refine pj_cVi (st := []) [] C P 5 (LC5 hB) rfl (ct_Reader_token hB e1) cl_Reader_44 rfl (by decide) (by decide) hl.1 (Nat.le_of_ble_eq_true rfl) dd_Reader_readLine_1 (fun H lo P => ?_)
  refine pj_bipush (v := (-18 : Int32)) C dd_Reader_readLine_4 rfl ?_
  refine pj_ic_eq C h dd_Reader_readLine_6 (fun h => ?_) (fun h => ?_)
  · refine pj_aload_n C dd_Reader_readLine_15 rfl hl 0 rfl ?_
    refine pj_getI C P 5 (LC5 hB) rfl fl_Reader_37 dd_Reader_readLine_16 ?_
    refine pj_bipush (v := (nI 16)) C dd_Reader_readLine_19 rfl ?_
    refine pj_ic_lt C h dd_Reader_readLine_21 (fun h => ?_) (fun h => ?_)
    · refine pj_aload_n C dd_Reader_readLine_30 rfl hl 0 rfl ?_
      refine pj_dup C dd_Reader_readLine_31 rfl ?_
      refine pj_getI C P 5 (LC5 hB) rfl fl_Reader_31 dd_Reader_readLine_32 ?_
      refine pj_iconst (v := (nI 1)) C dd_Reader_readLine_35 rfl ?_
      refine pj_iadd C dd_Reader_readLine_36 ?_
      refine pj_putI C P 5 (LC5 hB) rfl fl_Reader_31 rfl fy_3_5 h dd_Reader_readLine_37 (fun H lo z4 h P => ?_)
      refine pj_aload_n C dd_Reader_readLine_40 rfl hl 0 rfl ?_
      refine pj_dup C dd_Reader_readLine_41 rfl ?_
      refine pj_getI C P 5 (LC5 hB) rfl fl_Reader_37 dd_Reader_readLine_42 ?_
      refine pj_iconst (v := (nI 1)) C dd_Reader_readLine_45 rfl ?_
      refine pj_iadd C dd_Reader_readLine_46 ?_
      refine pj_putI C P 5 (LC5 hB) rfl fl_Reader_37 rfl fy_3_7 h dd_Reader_readLine_47 (fun H lo z5 h P => ?_)
      refine pj_aload_n C dd_Reader_readLine_50 rfl hl 0 rfl ?_
      obtain ⟨r8, z7, e6, h⟩ := pj_cE h
      refine pj_cVi (st := []) [] C P 5 (LC5 hB) rfl (ct_Reader_readSum hB e6) cl_Reader_125 rfl (by decide) (by decide) hl.1 (Nat.le_of_ble_eq_true rfl) dd_Reader_readLine_51 (fun H lo P => ?_)
      refine pj_if_ne C h dd_Reader_readLine_54 (fun h => ?_) (fun h => ?_)
      · refine pj_bipush (v := (-18 : Int32)) C dd_Reader_readLine_59 rfl ?_
        refine pj_istore_n [(1, .int (-18 : Int32)), (0, .ref (B.2.1 5))] C dd_Reader_readLine_61 rfl hl (by decide) rfl (fun ls hl => ?_)
        refine pj_aload_n C dd_Reader_readLine_62 rfl hl 1 rfl ?_
        obtain ⟨r11, z10, e9, h⟩ := pj_cE h
        refine pj_cVi (st := []) [] C P 5 (LC5 hB) rfl (ct_Reader_token hB e9) cl_Reader_44 rfl (by decide) (by decide) hl.1 (Nat.le_of_ble_eq_true rfl) dd_Reader_readLine_63 (fun H lo P => ?_)
        refine pj_bipush (v := (-19 : Int32)) C dd_Reader_readLine_66 rfl ?_
        refine pj_ic_ne C h dd_Reader_readLine_68 (fun h => ?_) (fun h => ?_)
        · exact bt_Reader_readLine_94 hB C Q _ _ _ _ _ h P (lv_sub hl [1, 0] rfl)
        · refine pj_bipush (v := (-19 : Int32)) C dd_Reader_readLine_71 rfl ?_
          refine pj_istore_n [(1, .int (-19 : Int32)), (0, .ref (B.2.1 5))] C dd_Reader_readLine_73 rfl hl (by decide) rfl (fun ls hl => ?_)
          refine pj_aload_n C dd_Reader_readLine_74 rfl hl 1 rfl ?_
          refine pj_dup C dd_Reader_readLine_75 rfl ?_
          refine pj_getI C P 5 (LC5 hB) rfl fl_Reader_31 dd_Reader_readLine_76 ?_
          refine pj_iconst (v := (nI 1)) C dd_Reader_readLine_79 rfl ?_
          refine pj_iadd C dd_Reader_readLine_80 ?_
          refine pj_putI C P 5 (LC5 hB) rfl fl_Reader_31 rfl fy_3_5 h dd_Reader_readLine_81 (fun H lo z12 h P => ?_)
          refine pj_aload_n C dd_Reader_readLine_84 rfl hl 1 rfl ?_
          refine pj_iconst (v := (nI 0)) C dd_Reader_readLine_85 rfl ?_
          obtain ⟨r15, z14, e13, h⟩ := pj_cE h
          refine pj_cVi (st := []) [.int (nI 0)] C P 5 (LC5 hB) rfl (ct_Reader_readCondition_o hB e13) cl_Reader_128 rfl (by decide) (by decide) hl.1 (Nat.le_of_ble_eq_true rfl) dd_Reader_readLine_86 (fun H lo P => ?_)
          refine pj_if_ne C h dd_Reader_readLine_89 (fun h => ?_) (fun h => ?_)
          · exact bt_Reader_readLine_94 hB C Q _ _ _ _ _ h P (lv_sub hl [1, 0] rfl)
          · refine pj_iconst (v := (nI 0)) C dd_Reader_readLine_92 rfl ?_
            exact pj_zret C Q P h dd_Reader_readLine_93
      · refine pj_iconst (v := (nI 0)) C dd_Reader_readLine_57 rfl ?_
        exact pj_zret C Q P h dd_Reader_readLine_58
    · refine pj_aload_n C dd_Reader_readLine_24 rfl hl 0 rfl ?_
      refine pj_iconst (v := (nI 3)) C dd_Reader_readLine_25 rfl ?_
      obtain ⟨r18, z17, e16, h⟩ := pj_cE h
      refine pj_cVi (st := []) [.int (nI 3)] C P 5 (LC5 hB) rfl (ct_Reader_fails hB e16) cl_Reader_122 rfl (by decide) (by decide) hl.1 (Nat.le_of_ble_eq_true rfl) dd_Reader_readLine_26 (fun H lo P => ?_)
      exact pj_zret C Q P h dd_Reader_readLine_29
  · refine pj_aload_n C dd_Reader_readLine_9 rfl hl 0 rfl ?_
    refine pj_iconst (v := (nI 1)) C dd_Reader_readLine_10 rfl ?_
    obtain ⟨r21, z20, e19, h⟩ := pj_cE h
    refine pj_cVi (st := []) [.int (nI 1)] C P 5 (LC5 hB) rfl (ct_Reader_fails hB e19) cl_Reader_122 rfl (by decide) (by decide) hl.1 (Nat.le_of_ble_eq_true rfl) dd_Reader_readLine_11 (fun H lo P => ?_)
    exact pj_zret C Q P h dd_Reader_readLine_14
theorem dd_Tape_signAt_0 : pj_d cX7_signAt 0 (.iload_n 1) 1 1 := ⟨by decide +kernel, rfl⟩
theorem dd_Tape_signAt_1 : pj_dj cX7_signAt 1 (.ifCond .lt 33) 33 4 34 := ⟨by decide +kernel, rfl, by decide⟩
theorem dd_Tape_signAt_4 : pj_d cX7_signAt 4 (.iload_n 1) 1 5 := ⟨by decide +kernel, rfl⟩
theorem dd_Tape_signAt_5 : pj_d cX7_signAt 5 (.aload_n 0) 1 6 := ⟨by decide +kernel, rfl⟩
theorem dd_Tape_signAt_6 : pj_d cX7_signAt 6 (.getfield 15) 3 9 := ⟨by decide +kernel, rfl⟩
theorem dd_Tape_signAt_9 : pj_dj cX7_signAt 9 (.if_icmp .ge 25) 25 12 34 := ⟨by decide +kernel, rfl, by decide⟩
theorem dd_Tape_signAt_12 : pj_d cX7_signAt 12 (.iload_n 1) 1 13 := ⟨by decide +kernel, rfl⟩
theorem dd_Tape_signAt_13 : pj_d cX7_signAt 13 (.aload_n 0) 1 14 := ⟨by decide +kernel, rfl⟩
theorem dd_Tape_signAt_14 : pj_d cX7_signAt 14 (.getfield 9) 3 17 := ⟨by decide +kernel, rfl⟩
theorem dd_Tape_signAt_17 : pj_d cX7_signAt 17 (.arraylength) 1 18 := ⟨by decide +kernel, rfl⟩
theorem dd_Tape_signAt_18 : pj_dj cX7_signAt 18 (.if_icmp .ge 16) 16 21 34 := ⟨by decide +kernel, rfl, by decide⟩
theorem dd_Tape_signAt_21 : pj_d cX7_signAt 21 (.aload_n 0) 1 22 := ⟨by decide +kernel, rfl⟩
theorem dd_Tape_signAt_22 : pj_d cX7_signAt 22 (.getfield 9) 3 25 := ⟨by decide +kernel, rfl⟩
theorem dd_Tape_signAt_25 : pj_d cX7_signAt 25 (.iload_n 1) 1 26 := ⟨by decide +kernel, rfl⟩
theorem dd_Tape_signAt_26 : pj_d cX7_signAt 26 (.baload) 1 27 := ⟨by decide +kernel, rfl⟩
theorem dd_Tape_signAt_27 : pj_d cX7_signAt 27 (.sipush 255) 3 30 := ⟨by decide +kernel, rfl⟩
theorem dd_Tape_signAt_30 : pj_d cX7_signAt 30 (.iand) 1 31 := ⟨by decide +kernel, rfl⟩
theorem dd_Tape_signAt_31 : pj_dj cX7_signAt 31 (.goto 4) 4 34 35 := ⟨by decide +kernel, rfl, by decide⟩
theorem dd_Tape_signAt_34 : pj_d cX7_signAt 34 (.iconst (-1)) 1 35 := ⟨by decide +kernel, rfl⟩
theorem dd_Tape_signAt_35 : pj_d cX7_signAt 35 (.ireturn) 1 36 := ⟨by decide +kernel, rfl⟩
set_option maxHeartbeats 4000000 in
set_option maxRecDepth 100000 in
theorem ct_Tape_signAt {l : Launch} {B : pj_B} (hB : B.2.2.2.1 = pj_LC) {v1 : Int32} {z : pj_S} {r0 : Int32} {z0 : pj_S} (h : Tape_signAt v1 z = some (r0, z0)) : pj_Mi l yX7_signAt cX7_signAt 2 (some .int) 1 [.ref (B.2.1 4), .int v1] B z r0 z0 := by
  refine pj_meti (own := RX7) (by decide +kernel) rfl (Nat.le_of_ble_eq_true rfl) ?_
  intro A K hK C Q H lo ls P hl
  have hl : lv_has ls 2 [(0, .ref (B.2.1 4)), (1, .int v1)] := hl
  unfold Tape_signAt at h
  refine pj_iload_n C dd_Tape_signAt_0 rfl hl 1 rfl ?_
  refine pj_if_lt C h dd_Tape_signAt_1 (fun h => ?_) (fun h => ?_)
  · refine pj_iconst (v := (-1 : Int32)) C dd_Tape_signAt_34 rfl ?_
    exact pj_iret C Q P h dd_Tape_signAt_35
  · refine pj_iload_n C dd_Tape_signAt_4 rfl hl 1 rfl ?_
    refine pj_aload_n C dd_Tape_signAt_5 rfl hl 0 rfl ?_
    refine pj_getI C P 4 (LC4 hB) rfl fl_Tape_15 dd_Tape_signAt_6 ?_
    refine pj_ic_ge C h dd_Tape_signAt_9 (fun h => ?_) (fun h => ?_)
    · refine pj_iconst (v := (-1 : Int32)) C dd_Tape_signAt_34 rfl ?_
      exact pj_iret C Q P h dd_Tape_signAt_35
    · refine pj_iload_n C dd_Tape_signAt_12 rfl hl 1 rfl ?_
      refine pj_aload_n C dd_Tape_signAt_13 rfl hl 0 rfl ?_
      refine pj_getR C P 4 (LC4 hB) rfl fl_Tape_9 dd_Tape_signAt_14 ?_
      refine pj_alen (nI 400) C P 23 (LC23 hB) (by decide) (by decide) dd_Tape_signAt_17 ?_
      refine pj_ic_ge C h dd_Tape_signAt_18 (fun h => ?_) (fun h => ?_)
      · refine pj_iconst (v := (-1 : Int32)) C dd_Tape_signAt_34 rfl ?_
        exact pj_iret C Q P h dd_Tape_signAt_35
      · refine pj_aload_n C dd_Tape_signAt_21 rfl hl 0 rfl ?_
        refine pj_getR C P 4 (LC4 hB) rfl fl_Tape_9 dd_Tape_signAt_22 ?_
        refine pj_iload_n C dd_Tape_signAt_25 rfl hl 1 rfl ?_
        refine pj_bald C P 23 (LC23 hB) h dd_Tape_signAt_26 (fun h => ?_)
        refine pj_sipush (v := (nI 255)) C dd_Tape_signAt_27 rfl ?_
        refine pj_iand C dd_Tape_signAt_30 ?_
        refine pj_goto C dd_Tape_signAt_31 ?_
        exact pj_iret C Q P h dd_Tape_signAt_35
theorem dd_Tape_behindBlanks_0 : pj_d cX7_behindBlanks 0 (.iload_n 1) 1 1 := ⟨by decide +kernel, rfl⟩
theorem dd_Tape_behindBlanks_1 : pj_d cX7_behindBlanks 1 (.istore_n 2) 1 2 := ⟨by decide +kernel, rfl⟩
theorem dd_Tape_behindBlanks_2 : pj_d cX7_behindBlanks 2 (.iload_n 2) 1 3 := ⟨by decide +kernel, rfl⟩
theorem dd_Tape_behindBlanks_3 : pj_d cX7_behindBlanks 3 (.aload_n 0) 1 4 := ⟨by decide +kernel, rfl⟩
theorem dd_Tape_behindBlanks_4 : pj_d cX7_behindBlanks 4 (.getfield 15) 3 7 := ⟨by decide +kernel, rfl⟩
theorem dd_Tape_behindBlanks_7 : pj_dj cX7_behindBlanks 7 (.if_icmp .ge 29) 29 10 36 := ⟨by decide +kernel, rfl, by decide⟩
theorem dd_Tape_behindBlanks_10 : pj_d cX7_behindBlanks 10 (.aload_n 0) 1 11 := ⟨by decide +kernel, rfl⟩
theorem dd_Tape_behindBlanks_11 : pj_d cX7_behindBlanks 11 (.iload_n 2) 1 12 := ⟨by decide +kernel, rfl⟩
theorem dd_Tape_behindBlanks_12 : pj_d cX7_behindBlanks 12 (.invokevirtual 19) 3 15 := ⟨by decide +kernel, rfl⟩
theorem dd_Tape_behindBlanks_15 : pj_d cX7_behindBlanks 15 (.bipush 32) 2 17 := ⟨by decide +kernel, rfl⟩
theorem dd_Tape_behindBlanks_17 : pj_dj cX7_behindBlanks 17 (.if_icmp .eq 13) 13 20 30 := ⟨by decide +kernel, rfl, by decide⟩
theorem dd_Tape_behindBlanks_20 : pj_d cX7_behindBlanks 20 (.aload_n 0) 1 21 := ⟨by decide +kernel, rfl⟩
theorem dd_Tape_behindBlanks_21 : pj_d cX7_behindBlanks 21 (.iload_n 2) 1 22 := ⟨by decide +kernel, rfl⟩
theorem dd_Tape_behindBlanks_22 : pj_d cX7_behindBlanks 22 (.invokevirtual 19) 3 25 := ⟨by decide +kernel, rfl⟩
theorem dd_Tape_behindBlanks_25 : pj_d cX7_behindBlanks 25 (.bipush 10) 2 27 := ⟨by decide +kernel, rfl⟩
theorem dd_Tape_behindBlanks_27 : pj_dj cX7_behindBlanks 27 (.if_icmp .ne 9) 9 30 36 := ⟨by decide +kernel, rfl, by decide⟩
theorem dd_Tape_behindBlanks_30 : pj_d cX7_behindBlanks 30 (.iinc 2 1) 3 33 := ⟨by decide +kernel, rfl⟩
theorem dd_Tape_behindBlanks_33 : pj_dj cX7_behindBlanks 33 (.goto (-31)) (-31) 36 2 := ⟨by decide +kernel, rfl, by decide⟩
theorem dd_Tape_behindBlanks_36 : pj_d cX7_behindBlanks 36 (.iload_n 2) 1 37 := ⟨by decide +kernel, rfl⟩
theorem dd_Tape_behindBlanks_37 : pj_d cX7_behindBlanks 37 (.ireturn) 1 38 := ⟨by decide +kernel, rfl⟩
set_option maxHeartbeats 4000000 in
set_option maxRecDepth 100000 in
theorem bt_Tape_behindBlanks_30 {B : pj_B} {A : Nat → Prop} {K : pj_K} {r0 : Int32} {z0 : pj_S} (hB : B.2.2.2.1 = pj_LC) (C : pj_C B A K cX7_behindBlanks 3 RX7 2) (Q : pj_Qi B A K (some .int) r0 z0) (s2 : Int32 → pj_S → Option (Int32 × pj_S)) (k2 : ∀ (v2 : Int32) (z : pj_S) (H : Heap) (lo : List Loc) (ls : Array Slot), s2 v2 z = some (r0, z0) → pj_P B A K z H lo → lv_has ls 3 [(0, .ref (B.2.1 4)), (2, .int v2)] → pj_W K H lo 2 ls []) (v2 : Int32) (z : pj_S) (H : Heap) (lo : List Loc) (ls : Array Slot) (h : Tape_behindBlanks_30 s2 v2 z = some (r0, z0)) (P : pj_P B A K z H lo) (hl : lv_has ls 3 [(0, .ref (B.2.1 4)), (2, .int v2)]) : pj_W K H lo 30 ls [] := by
  unfold Tape_behindBlanks_30 at h
  refine pj_iinc (v := (nI 1)) [(0, .ref (B.2.1 4))] C h rfl dd_Tape_behindBlanks_30 hl 1 rfl (by decide) rfl (fun x1 ls h hl => ?_)
  refine pj_goto C dd_Tape_behindBlanks_33 ?_
  exact k2 _ _ _ _ _ h P (lv_sub hl [1, 0] rfl)
set_option maxHeartbeats 4000000 in
set_option maxRecDepth 100000 in
theorem bt_Tape_behindBlanks_2 {B : pj_B} {A : Nat → Prop} {K : pj_K} {r0 : Int32} {z0 : pj_S} (hB : B.2.2.2.1 = pj_LC) (C : pj_C B A K cX7_behindBlanks 3 RX7 2) (Q : pj_Qi B A K (some .int) r0 z0) (s2 : Int32 → pj_S → Option (Int32 × pj_S)) (k2 : ∀ (v2 : Int32) (z : pj_S) (H : Heap) (lo : List Loc) (ls : Array Slot), s2 v2 z = some (r0, z0) → pj_P B A K z H lo → lv_has ls 3 [(0, .ref (B.2.1 4)), (2, .int v2)] → pj_W K H lo 2 ls []) (v2 : Int32) (z : pj_S) (H : Heap) (lo : List Loc) (ls : Array Slot) (h : Tape_behindBlanks_2 s2 v2 z = some (r0, z0)) (P : pj_P B A K z H lo) (hl : lv_has ls 3 [(0, .ref (B.2.1 4)), (2, .int v2)]) : pj_W K H lo 2 ls [] := by
  unfold Tape_behindBlanks_2 at h
  refine pj_iload_n C dd_Tape_behindBlanks_2 rfl hl 1 rfl ?_
  refine pj_aload_n C dd_Tape_behindBlanks_3 rfl hl 0 rfl ?_
  refine pj_getI C P 4 (LC4 hB) rfl fl_Tape_15 dd_Tape_behindBlanks_4 ?_
  refine pj_ic_ge C h dd_Tape_behindBlanks_7 (fun h => ?_) (fun h => ?_)
  · refine pj_iload_n C dd_Tape_behindBlanks_36 rfl hl 1 rfl ?_
    exact pj_iret C Q P h dd_Tape_behindBlanks_37
  · refine pj_aload_n C dd_Tape_behindBlanks_10 rfl hl 0 rfl ?_
    refine pj_iload_n C dd_Tape_behindBlanks_11 rfl hl 1 rfl ?_
    obtain ⟨r3, z2, e1, h⟩ := pj_cE h
    refine pj_cVi (st := []) [.int v2] C P 4 (LC4 hB) rfl (ct_Tape_signAt hB e1) cl_Tape_19 rfl (by decide) (by decide) hl.1 (Nat.le_of_ble_eq_true rfl) dd_Tape_behindBlanks_12 (fun H lo P => ?_)
    refine pj_bipush (v := (nI 32)) C dd_Tape_behindBlanks_15 rfl ?_
    refine pj_ic_eq C h dd_Tape_behindBlanks_17 (fun h => ?_) (fun h => ?_)
    · exact bt_Tape_behindBlanks_30 hB C Q s2 k2 _ _ _ _ _ h P (lv_sub hl [0, 1] rfl)
    · refine pj_aload_n C dd_Tape_behindBlanks_20 rfl hl 0 rfl ?_
      refine pj_iload_n C dd_Tape_behindBlanks_21 rfl hl 1 rfl ?_
      obtain ⟨r6, z5, e4, h⟩ := pj_cE h
      refine pj_cVi (st := []) [.int v2] C P 4 (LC4 hB) rfl (ct_Tape_signAt hB e4) cl_Tape_19 rfl (by decide) (by decide) hl.1 (Nat.le_of_ble_eq_true rfl) dd_Tape_behindBlanks_22 (fun H lo P => ?_)
      refine pj_bipush (v := (nI 10)) C dd_Tape_behindBlanks_25 rfl ?_
      refine pj_ic_ne C h dd_Tape_behindBlanks_27 (fun h => ?_) (fun h => ?_)
      · refine pj_iload_n C dd_Tape_behindBlanks_36 rfl hl 1 rfl ?_
        exact pj_iret C Q P h dd_Tape_behindBlanks_37
      · exact bt_Tape_behindBlanks_30 hB C Q s2 k2 _ _ _ _ _ h P (lv_sub hl [0, 1] rfl)
theorem lt_Tape_behindBlanks_2 {B : pj_B} {A : Nat → Prop} {K : pj_K} {r0 : Int32} {z0 : pj_S} (hB : B.2.2.2.1 = pj_LC) (C : pj_C B A K cX7_behindBlanks 3 RX7 2) (Q : pj_Qi B A K (some .int) r0 z0)  : ∀ (n : Nat) (v2 : Int32) (z : pj_S) (H : Heap) (lo : List Loc) (ls : Array Slot), pj_lp1 Tape_behindBlanks_2 n v2 z = some (r0, z0) → pj_P B A K z H lo → lv_has ls 3 [(0, .ref (B.2.1 4)), (2, .int v2)] → pj_W K H lo 2 ls [] := by
  intro n
  induction n with
  | zero => intro v2 z H lo ls h; rw [pj_lp1_0] at h; cases h
  | succ n ih =>
    intro v2 z H lo ls h P hl
    rw [pj_lp1_s] at h
    exact bt_Tape_behindBlanks_2 hB C Q   (pj_lp1 Tape_behindBlanks_2 n) ih v2 z H lo ls h P hl
set_option maxHeartbeats 4000000 in
set_option maxRecDepth 100000 in
theorem ct_Tape_behindBlanks {l : Launch} {B : pj_B} (hB : B.2.2.2.1 = pj_LC) {v1 : Int32} {z : pj_S} {r0 : Int32} {z0 : pj_S} (h : Tape_behindBlanks v1 z = some (r0, z0)) : pj_Mi l yX7_behindBlanks cX7_behindBlanks 3 (some .int) 2 [.ref (B.2.1 4), .int v1] B z r0 z0 := by
  refine pj_meti (own := RX7) (by decide +kernel) rfl (Nat.le_of_ble_eq_true rfl) ?_
  intro A K hK C Q H lo ls P hl
  have hl : lv_has ls 3 [(0, .ref (B.2.1 4)), (1, .int v1)] := hl
  unfold Tape_behindBlanks at h
  refine pj_iload_n C dd_Tape_behindBlanks_0 rfl hl 1 rfl ?_
  refine pj_istore_n [(2, .int v1), (0, .ref (B.2.1 4)), (1, .int v1)] C dd_Tape_behindBlanks_1 rfl hl (by decide) rfl (fun ls hl => ?_)
  exact lt_Tape_behindBlanks_2 hB C Q 4000 _ _ _ _ _ h P (lv_sub hl [1, 0] rfl)
theorem dd_Tape_isDigit_0 : pj_d cX7_isDigit 0 (.iload_n 0) 1 1 := ⟨by decide +kernel, rfl⟩
theorem dd_Tape_isDigit_1 : pj_d cX7_isDigit 1 (.bipush 48) 2 3 := ⟨by decide +kernel, rfl⟩
theorem dd_Tape_isDigit_3 : pj_dj cX7_isDigit 3 (.if_icmp .lt 13) 13 6 16 := ⟨by decide +kernel, rfl, by decide⟩
theorem dd_Tape_isDigit_6 : pj_d cX7_isDigit 6 (.iload_n 0) 1 7 := ⟨by decide +kernel, rfl⟩
theorem dd_Tape_isDigit_7 : pj_d cX7_isDigit 7 (.bipush 57) 2 9 := ⟨by decide +kernel, rfl⟩
theorem dd_Tape_isDigit_9 : pj_dj cX7_isDigit 9 (.if_icmp .gt 7) 7 12 16 := ⟨by decide +kernel, rfl, by decide⟩
theorem dd_Tape_isDigit_12 : pj_d cX7_isDigit 12 (.iconst 1) 1 13 := ⟨by decide +kernel, rfl⟩
theorem dd_Tape_isDigit_13 : pj_dj cX7_isDigit 13 (.goto 4) 4 16 17 := ⟨by decide +kernel, rfl, by decide⟩
theorem dd_Tape_isDigit_16 : pj_d cX7_isDigit 16 (.iconst 0) 1 17 := ⟨by decide +kernel, rfl⟩
theorem dd_Tape_isDigit_17 : pj_d cX7_isDigit 17 (.ireturn) 1 18 := ⟨by decide +kernel, rfl⟩
set_option maxHeartbeats 4000000 in
set_option maxRecDepth 100000 in
theorem ct_Tape_isDigit {l : Launch} {B : pj_B} (hB : B.2.2.2.1 = pj_LC) {v0 : Int32} {z : pj_S} {r0 : Int32} {z0 : pj_S} (h : Tape_isDigit v0 z = some (r0, z0)) : pj_Mi l yX7_isDigit cX7_isDigit 1 (some .boolean) 1 [.int v0] B z r0 z0 := by
  refine pj_meti (own := RX7) (by decide +kernel) rfl (Nat.le_of_ble_eq_true rfl) ?_
  intro A K hK C Q H lo ls P hl
  have hl : lv_has ls 1 [(0, .int v0)] := hl
  unfold Tape_isDigit at h
  refine pj_iload_n C dd_Tape_isDigit_0 rfl hl 0 rfl ?_
  refine pj_bipush (v := (nI 48)) C dd_Tape_isDigit_1 rfl ?_
  refine pj_ic_lt C h dd_Tape_isDigit_3 (fun h => ?_) (fun h => ?_)
  · refine pj_iconst (v := (nI 0)) C dd_Tape_isDigit_16 rfl ?_
    exact pj_zret C Q P h dd_Tape_isDigit_17
  · refine pj_iload_n C dd_Tape_isDigit_6 rfl hl 0 rfl ?_
    refine pj_bipush (v := (nI 57)) C dd_Tape_isDigit_7 rfl ?_
    refine pj_ic_gt C h dd_Tape_isDigit_9 (fun h => ?_) (fun h => ?_)
    · refine pj_iconst (v := (nI 0)) C dd_Tape_isDigit_16 rfl ?_
      exact pj_zret C Q P h dd_Tape_isDigit_17
    · refine pj_iconst (v := (nI 1)) C dd_Tape_isDigit_12 rfl ?_
      refine pj_goto C dd_Tape_isDigit_13 ?_
      exact pj_zret C Q P h dd_Tape_isDigit_17
theorem dd_Tape_isLetter_0 : pj_d cX7_isLetter 0 (.iload_n 0) 1 1 := ⟨by decide +kernel, rfl⟩
theorem dd_Tape_isLetter_1 : pj_d cX7_isLetter 1 (.bipush 97) 2 3 := ⟨by decide +kernel, rfl⟩
theorem dd_Tape_isLetter_3 : pj_dj cX7_isLetter 3 (.if_icmp .lt 9) 9 6 12 := ⟨by decide +kernel, rfl, by decide⟩
theorem dd_Tape_isLetter_6 : pj_d cX7_isLetter 6 (.iload_n 0) 1 7 := ⟨by decide +kernel, rfl⟩
theorem dd_Tape_isLetter_7 : pj_d cX7_isLetter 7 (.bipush 122) 2 9 := ⟨by decide +kernel, rfl⟩
theorem dd_Tape_isLetter_9 : pj_dj cX7_isLetter 9 (.if_icmp .le 15) 15 12 24 := ⟨by decide +kernel, rfl, by decide⟩
theorem dd_Tape_isLetter_12 : pj_d cX7_isLetter 12 (.iload_n 0) 1 13 := ⟨by decide +kernel, rfl⟩
theorem dd_Tape_isLetter_13 : pj_d cX7_isLetter 13 (.bipush 65) 2 15 := ⟨by decide +kernel, rfl⟩
theorem dd_Tape_isLetter_15 : pj_dj cX7_isLetter 15 (.if_icmp .lt 13) 13 18 28 := ⟨by decide +kernel, rfl, by decide⟩
theorem dd_Tape_isLetter_18 : pj_d cX7_isLetter 18 (.iload_n 0) 1 19 := ⟨by decide +kernel, rfl⟩
theorem dd_Tape_isLetter_19 : pj_d cX7_isLetter 19 (.bipush 90) 2 21 := ⟨by decide +kernel, rfl⟩
theorem dd_Tape_isLetter_21 : pj_dj cX7_isLetter 21 (.if_icmp .gt 7) 7 24 28 := ⟨by decide +kernel, rfl, by decide⟩
theorem dd_Tape_isLetter_24 : pj_d cX7_isLetter 24 (.iconst 1) 1 25 := ⟨by decide +kernel, rfl⟩
theorem dd_Tape_isLetter_25 : pj_dj cX7_isLetter 25 (.goto 4) 4 28 29 := ⟨by decide +kernel, rfl, by decide⟩
theorem dd_Tape_isLetter_28 : pj_d cX7_isLetter 28 (.iconst 0) 1 29 := ⟨by decide +kernel, rfl⟩
theorem dd_Tape_isLetter_29 : pj_d cX7_isLetter 29 (.ireturn) 1 30 := ⟨by decide +kernel, rfl⟩
set_option maxHeartbeats 4000000 in
set_option maxRecDepth 100000 in
theorem bt_Tape_isLetter_24 {B : pj_B} {A : Nat → Prop} {K : pj_K} {r0 : Int32} {z0 : pj_S} (hB : B.2.2.2.1 = pj_LC) (C : pj_C B A K cX7_isLetter 1 RX7 1) (Q : pj_Qi B A K (some .boolean) r0 z0)   (z : pj_S) (H : Heap) (lo : List Loc) (ls : Array Slot) (h : Tape_isLetter_24 z = some (r0, z0)) (P : pj_P B A K z H lo) (hl : lv_has ls 1 []) : pj_W K H lo 24 ls [] := by
  unfold Tape_isLetter_24 at h
  refine pj_iconst (v := (nI 1)) C dd_Tape_isLetter_24 rfl ?_
  refine pj_goto C dd_Tape_isLetter_25 ?_
  exact pj_zret C Q P h dd_Tape_isLetter_29
set_option maxHeartbeats 4000000 in
set_option maxRecDepth 100000 in
theorem bt_Tape_isLetter_12 {B : pj_B} {A : Nat → Prop} {K : pj_K} {r0 : Int32} {z0 : pj_S} (hB : B.2.2.2.1 = pj_LC) (C : pj_C B A K cX7_isLetter 1 RX7 1) (Q : pj_Qi B A K (some .boolean) r0 z0)  (v0 : Int32) (z : pj_S) (H : Heap) (lo : List Loc) (ls : Array Slot) (h : Tape_isLetter_12 v0 z = some (r0, z0)) (P : pj_P B A K z H lo) (hl : lv_has ls 1 [(0, .int v0)]) : pj_W K H lo 12 ls [] := by
  unfold Tape_isLetter_12 at h
  refine pj_iload_n C dd_Tape_isLetter_12 rfl hl 0 rfl ?_
  refine pj_bipush (v := (nI 65)) C dd_Tape_isLetter_13 rfl ?_
  refine pj_ic_lt C h dd_Tape_isLetter_15 (fun h => ?_) (fun h => ?_)
  · refine pj_iconst (v := (nI 0)) C dd_Tape_isLetter_28 rfl ?_
    exact pj_zret C Q P h dd_Tape_isLetter_29
  · refine pj_iload_n C dd_Tape_isLetter_18 rfl hl 0 rfl ?_
    refine pj_bipush (v := (nI 90)) C dd_Tape_isLetter_19 rfl ?_
    refine pj_ic_gt C h dd_Tape_isLetter_21 (fun h => ?_) (fun h => ?_)
    · refine pj_iconst (v := (nI 0)) C dd_Tape_isLetter_28 rfl ?_
      exact pj_zret C Q P h dd_Tape_isLetter_29
    · exact bt_Tape_isLetter_24 hB C Q _ _ _ _ h P (lv_sub hl [] rfl)
set_option maxHeartbeats 4000000 in
set_option maxRecDepth 100000 in
theorem ct_Tape_isLetter {l : Launch} {B : pj_B} (hB : B.2.2.2.1 = pj_LC) {v0 : Int32} {z : pj_S} {r0 : Int32} {z0 : pj_S} (h : Tape_isLetter v0 z = some (r0, z0)) : pj_Mi l yX7_isLetter cX7_isLetter 1 (some .boolean) 1 [.int v0] B z r0 z0 := by
  refine pj_meti (own := RX7) (by decide +kernel) rfl (Nat.le_of_ble_eq_true rfl) ?_
  intro A K hK C Q H lo ls P hl
  have hl : lv_has ls 1 [(0, .int v0)] := hl
  unfold Tape_isLetter at h
  refine pj_iload_n C dd_Tape_isLetter_0 rfl hl 0 rfl ?_
  refine pj_bipush (v := (nI 97)) C dd_Tape_isLetter_1 rfl ?_
  refine pj_ic_lt C h dd_Tape_isLetter_3 (fun h => ?_) (fun h => ?_)
  · exact bt_Tape_isLetter_12 hB C Q _ _ _ _ _ h P (lv_sub hl [0] rfl)
  · refine pj_iload_n C dd_Tape_isLetter_6 rfl hl 0 rfl ?_
    refine pj_bipush (v := (nI 122)) C dd_Tape_isLetter_7 rfl ?_
    refine pj_ic_le C h dd_Tape_isLetter_9 (fun h => ?_) (fun h => ?_)
    · exact bt_Tape_isLetter_24 hB C Q _ _ _ _ h P (lv_sub hl [] rfl)
    · exact bt_Tape_isLetter_12 hB C Q _ _ _ _ _ h P (lv_sub hl [0] rfl)
theorem dd_Tape_behindToken_0 : pj_d cX7_behindToken 0 (.aload_n 0) 1 1 := ⟨by decide +kernel, rfl⟩
theorem dd_Tape_behindToken_1 : pj_d cX7_behindToken 1 (.iload_n 1) 1 2 := ⟨by decide +kernel, rfl⟩
theorem dd_Tape_behindToken_2 : pj_d cX7_behindToken 2 (.invokevirtual 19) 3 5 := ⟨by decide +kernel, rfl⟩
theorem dd_Tape_behindToken_5 : pj_d cX7_behindToken 5 (.invokestatic 23) 3 8 := ⟨by decide +kernel, rfl⟩
theorem dd_Tape_behindToken_8 : pj_d cX7_behindToken 8 (.istore_n 2) 1 9 := ⟨by decide +kernel, rfl⟩
theorem dd_Tape_behindToken_9 : pj_d cX7_behindToken 9 (.iload_n 2) 1 10 := ⟨by decide +kernel, rfl⟩
theorem dd_Tape_behindToken_10 : pj_dj cX7_behindToken 10 (.ifCond .ne 18) 18 13 28 := ⟨by decide +kernel, rfl, by decide⟩
theorem dd_Tape_behindToken_13 : pj_d cX7_behindToken 13 (.aload_n 0) 1 14 := ⟨by decide +kernel, rfl⟩
theorem dd_Tape_behindToken_14 : pj_d cX7_behindToken 14 (.iload_n 1) 1 15 := ⟨by decide +kernel, rfl⟩
theorem dd_Tape_behindToken_15 : pj_d cX7_behindToken 15 (.invokevirtual 19) 3 18 := ⟨by decide +kernel, rfl⟩
theorem dd_Tape_behindToken_18 : pj_d cX7_behindToken 18 (.invokestatic 27) 3 21 := ⟨by decide +kernel, rfl⟩
theorem dd_Tape_behindToken_21 : pj_dj cX7_behindToken 21 (.ifCond .ne 7) 7 24 28 := ⟨by decide +kernel, rfl, by decide⟩
theorem dd_Tape_behindToken_24 : pj_d cX7_behindToken 24 (.iload_n 1) 1 25 := ⟨by decide +kernel, rfl⟩
theorem dd_Tape_behindToken_25 : pj_d cX7_behindToken 25 (.iconst 1) 1 26 := ⟨by decide +kernel, rfl⟩
theorem dd_Tape_behindToken_26 : pj_d cX7_behindToken 26 (.iadd) 1 27 := ⟨by decide +kernel, rfl⟩
theorem dd_Tape_behindToken_27 : pj_d cX7_behindToken 27 (.ireturn) 1 28 := ⟨by decide +kernel, rfl⟩
theorem dd_Tape_behindToken_28 : pj_d cX7_behindToken 28 (.iload_n 1) 1 29 := ⟨by decide +kernel, rfl⟩
theorem dd_Tape_behindToken_29 : pj_d cX7_behindToken 29 (.istore_n 3) 1 30 := ⟨by decide +kernel, rfl⟩
theorem dd_Tape_behindToken_30 : pj_d cX7_behindToken 30 (.iload_n 3) 1 31 := ⟨by decide +kernel, rfl⟩
theorem dd_Tape_behindToken_31 : pj_d cX7_behindToken 31 (.aload_n 0) 1 32 := ⟨by decide +kernel, rfl⟩
theorem dd_Tape_behindToken_32 : pj_d cX7_behindToken 32 (.getfield 15) 3 35 := ⟨by decide +kernel, rfl⟩
theorem dd_Tape_behindToken_35 : pj_dj cX7_behindToken 35 (.if_icmp .ge 38) 38 38 73 := ⟨by decide +kernel, rfl, by decide⟩
theorem dd_Tape_behindToken_38 : pj_d cX7_behindToken 38 (.iload_n 2) 1 39 := ⟨by decide +kernel, rfl⟩
theorem dd_Tape_behindToken_39 : pj_dj cX7_behindToken 39 (.ifCond .eq 17) 17 42 56 := ⟨by decide +kernel, rfl, by decide⟩
theorem dd_Tape_behindToken_42 : pj_d cX7_behindToken 42 (.aload_n 0) 1 43 := ⟨by decide +kernel, rfl⟩
theorem dd_Tape_behindToken_43 : pj_d cX7_behindToken 43 (.iload_n 3) 1 44 := ⟨by decide +kernel, rfl⟩
theorem dd_Tape_behindToken_44 : pj_d cX7_behindToken 44 (.invokevirtual 19) 3 47 := ⟨by decide +kernel, rfl⟩
theorem dd_Tape_behindToken_47 : pj_d cX7_behindToken 47 (.invokestatic 23) 3 50 := ⟨by decide +kernel, rfl⟩
theorem dd_Tape_behindToken_50 : pj_dj cX7_behindToken 50 (.ifCond .eq 23) 23 53 73 := ⟨by decide +kernel, rfl, by decide⟩
theorem dd_Tape_behindToken_53 : pj_dj cX7_behindToken 53 (.goto 14) 14 56 67 := ⟨by decide +kernel, rfl, by decide⟩
theorem dd_Tape_behindToken_56 : pj_d cX7_behindToken 56 (.aload_n 0) 1 57 := ⟨by decide +kernel, rfl⟩
theorem dd_Tape_behindToken_57 : pj_d cX7_behindToken 57 (.iload_n 3) 1 58 := ⟨by decide +kernel, rfl⟩
theorem dd_Tape_behindToken_58 : pj_d cX7_behindToken 58 (.invokevirtual 19) 3 61 := ⟨by decide +kernel, rfl⟩
theorem dd_Tape_behindToken_61 : pj_d cX7_behindToken 61 (.invokestatic 27) 3 64 := ⟨by decide +kernel, rfl⟩
theorem dd_Tape_behindToken_64 : pj_dj cX7_behindToken 64 (.ifCond .eq 9) 9 67 73 := ⟨by decide +kernel, rfl, by decide⟩
theorem dd_Tape_behindToken_67 : pj_d cX7_behindToken 67 (.iinc 3 1) 3 70 := ⟨by decide +kernel, rfl⟩
theorem dd_Tape_behindToken_70 : pj_dj cX7_behindToken 70 (.goto (-40)) (-40) 73 30 := ⟨by decide +kernel, rfl, by decide⟩
theorem dd_Tape_behindToken_73 : pj_d cX7_behindToken 73 (.iload_n 3) 1 74 := ⟨by decide +kernel, rfl⟩
theorem dd_Tape_behindToken_74 : pj_d cX7_behindToken 74 (.ireturn) 1 75 := ⟨by decide +kernel, rfl⟩
set_option maxHeartbeats 4000000 in
set_option maxRecDepth 100000 in
theorem bt_Tape_behindToken_67 {B : pj_B} {A : Nat → Prop} {K : pj_K} {r0 : Int32} {z0 : pj_S} (hB : B.2.2.2.1 = pj_LC) (C : pj_C B A K cX7_behindToken 4 RX7 2) (Q : pj_Qi B A K (some .int) r0 z0) (s30 : Int32 → Int32 → pj_S → Option (Int32 × pj_S)) (k30 : ∀ (v2 : Int32) (v3 : Int32) (z : pj_S) (H : Heap) (lo : List Loc) (ls : Array Slot), s30 v2 v3 z = some (r0, z0) → pj_P B A K z H lo → lv_has ls 4 [(0, .ref (B.2.1 4)), (2, .int v2), (3, .int v3)] → pj_W K H lo 30 ls []) (v2 : Int32) (v3 : Int32) (z : pj_S) (H : Heap) (lo : List Loc) (ls : Array Slot) (h : Tape_behindToken_67 s30 v2 v3 z = some (r0, z0)) (P : pj_P B A K z H lo) (hl : lv_has ls 4 [(0, .ref (B.2.1 4)), (2, .int v2), (3, .int v3)]) : pj_W K H lo 67 ls [] := by
  unfold Tape_behindToken_67 at h
  refine pj_iinc (v := (nI 1)) [(0, .ref (B.2.1 4)), (2, .int v2)] C h rfl dd_Tape_behindToken_67 hl 2 rfl (by decide) rfl (fun x1 ls h hl => ?_)
  refine pj_goto C dd_Tape_behindToken_70 ?_
  exact k30 _ _ _ _ _ _ h P (lv_sub hl [1, 2, 0] rfl)
set_option maxHeartbeats 4000000 in
set_option maxRecDepth 100000 in
theorem bt_Tape_behindToken_30 {B : pj_B} {A : Nat → Prop} {K : pj_K} {r0 : Int32} {z0 : pj_S} (hB : B.2.2.2.1 = pj_LC) (C : pj_C B A K cX7_behindToken 4 RX7 2) (Q : pj_Qi B A K (some .int) r0 z0) (s30 : Int32 → Int32 → pj_S → Option (Int32 × pj_S)) (k30 : ∀ (v2 : Int32) (v3 : Int32) (z : pj_S) (H : Heap) (lo : List Loc) (ls : Array Slot), s30 v2 v3 z = some (r0, z0) → pj_P B A K z H lo → lv_has ls 4 [(0, .ref (B.2.1 4)), (2, .int v2), (3, .int v3)] → pj_W K H lo 30 ls []) (v2 : Int32) (v3 : Int32) (z : pj_S) (H : Heap) (lo : List Loc) (ls : Array Slot) (h : Tape_behindToken_30 s30 v2 v3 z = some (r0, z0)) (P : pj_P B A K z H lo) (hl : lv_has ls 4 [(0, .ref (B.2.1 4)), (2, .int v2), (3, .int v3)]) : pj_W K H lo 30 ls [] := by
  unfold Tape_behindToken_30 at h
  refine pj_iload_n C dd_Tape_behindToken_30 rfl hl 2 rfl ?_
  refine pj_aload_n C dd_Tape_behindToken_31 rfl hl 0 rfl ?_
  refine pj_getI C P 4 (LC4 hB) rfl fl_Tape_15 dd_Tape_behindToken_32 ?_
  refine pj_ic_ge C h dd_Tape_behindToken_35 (fun h => ?_) (fun h => ?_)
  · refine pj_iload_n C dd_Tape_behindToken_73 rfl hl 2 rfl ?_
    exact pj_iret C Q P h dd_Tape_behindToken_74
  · refine pj_iload_n C dd_Tape_behindToken_38 rfl hl 1 rfl ?_
    refine pj_if_eq C h dd_Tape_behindToken_39 (fun h => ?_) (fun h => ?_)
    · refine pj_aload_n C dd_Tape_behindToken_56 rfl hl 0 rfl ?_
      refine pj_iload_n C dd_Tape_behindToken_57 rfl hl 2 rfl ?_
      obtain ⟨r3, z2, e1, h⟩ := pj_cE h
      refine pj_cVi (st := []) [.int v3] C P 4 (LC4 hB) rfl (ct_Tape_signAt hB e1) cl_Tape_19 rfl (by decide) (by decide) hl.1 (Nat.le_of_ble_eq_true rfl) dd_Tape_behindToken_58 (fun H lo P => ?_)
      obtain ⟨r6, z5, e4, h⟩ := pj_cE h
      refine pj_cSi (st := []) [.int r3] C P (ct_Tape_isDigit hB e4) cl_Tape_27 rfl (by decide) (by decide) hl.1 (Nat.le_of_ble_eq_true rfl) dd_Tape_behindToken_61 (fun H lo P => ?_)
      refine pj_if_eq C h dd_Tape_behindToken_64 (fun h => ?_) (fun h => ?_)
      · refine pj_iload_n C dd_Tape_behindToken_73 rfl hl 2 rfl ?_
        exact pj_iret C Q P h dd_Tape_behindToken_74
      · exact bt_Tape_behindToken_67 hB C Q s30 k30 _ _ _ _ _ _ h P (lv_sub hl [0, 1, 2] rfl)
    · refine pj_aload_n C dd_Tape_behindToken_42 rfl hl 0 rfl ?_
      refine pj_iload_n C dd_Tape_behindToken_43 rfl hl 2 rfl ?_
      obtain ⟨r9, z8, e7, h⟩ := pj_cE h
      refine pj_cVi (st := []) [.int v3] C P 4 (LC4 hB) rfl (ct_Tape_signAt hB e7) cl_Tape_19 rfl (by decide) (by decide) hl.1 (Nat.le_of_ble_eq_true rfl) dd_Tape_behindToken_44 (fun H lo P => ?_)
      obtain ⟨r12, z11, e10, h⟩ := pj_cE h
      refine pj_cSi (st := []) [.int r9] C P (ct_Tape_isLetter hB e10) cl_Tape_23 rfl (by decide) (by decide) hl.1 (Nat.le_of_ble_eq_true rfl) dd_Tape_behindToken_47 (fun H lo P => ?_)
      refine pj_if_eq C h dd_Tape_behindToken_50 (fun h => ?_) (fun h => ?_)
      · refine pj_iload_n C dd_Tape_behindToken_73 rfl hl 2 rfl ?_
        exact pj_iret C Q P h dd_Tape_behindToken_74
      · refine pj_goto C dd_Tape_behindToken_53 ?_
        exact bt_Tape_behindToken_67 hB C Q s30 k30 _ _ _ _ _ _ h P (lv_sub hl [0, 1, 2] rfl)
theorem lt_Tape_behindToken_30 {B : pj_B} {A : Nat → Prop} {K : pj_K} {r0 : Int32} {z0 : pj_S} (hB : B.2.2.2.1 = pj_LC) (C : pj_C B A K cX7_behindToken 4 RX7 2) (Q : pj_Qi B A K (some .int) r0 z0)  : ∀ (n : Nat) (v2 : Int32) (v3 : Int32) (z : pj_S) (H : Heap) (lo : List Loc) (ls : Array Slot), pj_lp2 Tape_behindToken_30 n v2 v3 z = some (r0, z0) → pj_P B A K z H lo → lv_has ls 4 [(0, .ref (B.2.1 4)), (2, .int v2), (3, .int v3)] → pj_W K H lo 30 ls [] := by
  intro n
  induction n with
  | zero => intro v2 v3 z H lo ls h; rw [pj_lp2_0] at h; cases h
  | succ n ih =>
    intro v2 v3 z H lo ls h P hl
    rw [pj_lp2_s] at h
    exact bt_Tape_behindToken_30 hB C Q   (pj_lp2 Tape_behindToken_30 n) ih v2 v3 z H lo ls h P hl
set_option maxHeartbeats 4000000 in
set_option maxRecDepth 100000 in
theorem bt_Tape_behindToken_28 {B : pj_B} {A : Nat → Prop} {K : pj_K} {r0 : Int32} {z0 : pj_S} (hB : B.2.2.2.1 = pj_LC) (C : pj_C B A K cX7_behindToken 4 RX7 2) (Q : pj_Qi B A K (some .int) r0 z0)  (v1 : Int32) (v2 : Int32) (z : pj_S) (H : Heap) (lo : List Loc) (ls : Array Slot) (h : Tape_behindToken_28 v1 v2 z = some (r0, z0)) (P : pj_P B A K z H lo) (hl : lv_has ls 4 [(0, .ref (B.2.1 4)), (1, .int v1), (2, .int v2)]) : pj_W K H lo 28 ls [] := by
  unfold Tape_behindToken_28 at h
  refine pj_iload_n C dd_Tape_behindToken_28 rfl hl 1 rfl ?_
  refine pj_istore_n [(3, .int v1), (0, .ref (B.2.1 4)), (1, .int v1), (2, .int v2)] C dd_Tape_behindToken_29 rfl hl (by decide) rfl (fun ls hl => ?_)
  exact lt_Tape_behindToken_30 hB C Q 4000 _ _ _ _ _ _ h P (lv_sub hl [1, 3, 0] rfl)
set_option maxHeartbeats 4000000 in
set_option maxRecDepth 100000 in
theorem ct_Tape_behindToken {l : Launch} {B : pj_B} (hB : B.2.2.2.1 = pj_LC) {v1 : Int32} {z : pj_S} {r0 : Int32} {z0 : pj_S} (h : Tape_behindToken v1 z = some (r0, z0)) : pj_Mi l yX7_behindToken cX7_behindToken 4 (some .int) 2 [.ref (B.2.1 4), .int v1] B z r0 z0 := by
  refine pj_meti (own := RX7) (by decide +kernel) rfl (Nat.le_of_ble_eq_true rfl) ?_
  intro A K hK C Q H lo ls P hl
  have hl : lv_has ls 4 [(0, .ref (B.2.1 4)), (1, .int v1)] := hl
  unfold Tape_behindToken at h
  refine pj_aload_n C dd_Tape_behindToken_0 rfl hl 0 rfl ?_
  refine pj_iload_n C dd_Tape_behindToken_1 rfl hl 1 rfl ?_
  obtain ⟨r3, z2, e1, h⟩ := pj_cE h
  refine pj_cVi (st := []) [.int v1] C P 4 (LC4 hB) rfl (ct_Tape_signAt hB e1) cl_Tape_19 rfl (by decide) (by decide) hl.1 (Nat.le_of_ble_eq_true rfl) dd_Tape_behindToken_2 (fun H lo P => ?_)
  obtain ⟨r6, z5, e4, h⟩ := pj_cE h
  refine pj_cSi (st := []) [.int r3] C P (ct_Tape_isLetter hB e4) cl_Tape_23 rfl (by decide) (by decide) hl.1 (Nat.le_of_ble_eq_true rfl) dd_Tape_behindToken_5 (fun H lo P => ?_)
  refine pj_istore_n [(2, .int r6), (0, .ref (B.2.1 4)), (1, .int v1)] C dd_Tape_behindToken_8 rfl hl (by decide) rfl (fun ls hl => ?_)
  refine pj_iload_n C dd_Tape_behindToken_9 rfl hl 0 rfl ?_
  refine pj_if_ne C h dd_Tape_behindToken_10 (fun h => ?_) (fun h => ?_)
  · exact bt_Tape_behindToken_28 hB C Q _ _ _ _ _ _ h P (lv_sub hl [1, 2, 0] rfl)
  · refine pj_aload_n C dd_Tape_behindToken_13 rfl hl 1 rfl ?_
    refine pj_iload_n C dd_Tape_behindToken_14 rfl hl 2 rfl ?_
    obtain ⟨r9, z8, e7, h⟩ := pj_cE h
    refine pj_cVi (st := []) [.int v1] C P 4 (LC4 hB) rfl (ct_Tape_signAt hB e7) cl_Tape_19 rfl (by decide) (by decide) hl.1 (Nat.le_of_ble_eq_true rfl) dd_Tape_behindToken_15 (fun H lo P => ?_)
    obtain ⟨r12, z11, e10, h⟩ := pj_cE h
    refine pj_cSi (st := []) [.int r9] C P (ct_Tape_isDigit hB e10) cl_Tape_27 rfl (by decide) (by decide) hl.1 (Nat.le_of_ble_eq_true rfl) dd_Tape_behindToken_18 (fun H lo P => ?_)
    refine pj_if_ne C h dd_Tape_behindToken_21 (fun h => ?_) (fun h => ?_)
    · exact bt_Tape_behindToken_28 hB C Q _ _ _ _ _ _ h P (lv_sub hl [1, 2, 0] rfl)
    · refine pj_iload_n C dd_Tape_behindToken_24 rfl hl 2 rfl ?_
      refine pj_iconst (v := (nI 1)) C dd_Tape_behindToken_25 rfl ?_
      refine pj_iadd C dd_Tape_behindToken_26 ?_
      exact pj_iret C Q P h dd_Tape_behindToken_27
theorem dd_Tape_spells_0 : pj_d cX7_spells 0 (.iload_n 3) 1 1 := ⟨by decide +kernel, rfl⟩
theorem dd_Tape_spells_1 : pj_d cX7_spells 1 (.iload_n 2) 1 2 := ⟨by decide +kernel, rfl⟩
theorem dd_Tape_spells_2 : pj_d cX7_spells 2 (.isub) 1 3 := ⟨by decide +kernel, rfl⟩
theorem dd_Tape_spells_3 : pj_d cX7_spells 3 (.aload_n 1) 1 4 := ⟨by decide +kernel, rfl⟩
theorem dd_Tape_spells_4 : pj_d cX7_spells 4 (.invokevirtual 30) 3 7 := ⟨by decide +kernel, rfl⟩
theorem dd_Tape_spells_7 : pj_dj cX7_spells 7 (.if_icmp .eq 5) 5 10 12 := ⟨by decide +kernel, rfl, by decide⟩
theorem dd_Tape_spells_10 : pj_d cX7_spells 10 (.iconst 0) 1 11 := ⟨by decide +kernel, rfl⟩
theorem dd_Tape_spells_11 : pj_d cX7_spells 11 (.ireturn) 1 12 := ⟨by decide +kernel, rfl⟩
theorem dd_Tape_spells_12 : pj_d cX7_spells 12 (.iconst 0) 1 13 := ⟨by decide +kernel, rfl⟩
theorem dd_Tape_spells_13 : pj_d cX7_spells 13 (.istore 4) 2 15 := ⟨by decide +kernel, rfl⟩
theorem dd_Tape_spells_15 : pj_d cX7_spells 15 (.iload 4) 2 17 := ⟨by decide +kernel, rfl⟩
theorem dd_Tape_spells_17 : pj_d cX7_spells 17 (.aload_n 1) 1 18 := ⟨by decide +kernel, rfl⟩
theorem dd_Tape_spells_18 : pj_d cX7_spells 18 (.invokevirtual 30) 3 21 := ⟨by decide +kernel, rfl⟩
theorem dd_Tape_spells_21 : pj_dj cX7_spells 21 (.if_icmp .ge 28) 28 24 49 := ⟨by decide +kernel, rfl, by decide⟩
theorem dd_Tape_spells_24 : pj_d cX7_spells 24 (.aload_n 0) 1 25 := ⟨by decide +kernel, rfl⟩
theorem dd_Tape_spells_25 : pj_d cX7_spells 25 (.iload_n 2) 1 26 := ⟨by decide +kernel, rfl⟩
theorem dd_Tape_spells_26 : pj_d cX7_spells 26 (.iload 4) 2 28 := ⟨by decide +kernel, rfl⟩
theorem dd_Tape_spells_28 : pj_d cX7_spells 28 (.iadd) 1 29 := ⟨by decide +kernel, rfl⟩
theorem dd_Tape_spells_29 : pj_d cX7_spells 29 (.invokevirtual 19) 3 32 := ⟨by decide +kernel, rfl⟩
theorem dd_Tape_spells_32 : pj_d cX7_spells 32 (.aload_n 1) 1 33 := ⟨by decide +kernel, rfl⟩
theorem dd_Tape_spells_33 : pj_d cX7_spells 33 (.iload 4) 2 35 := ⟨by decide +kernel, rfl⟩
theorem dd_Tape_spells_35 : pj_d cX7_spells 35 (.invokevirtual 35) 3 38 := ⟨by decide +kernel, rfl⟩
theorem dd_Tape_spells_38 : pj_dj cX7_spells 38 (.if_icmp .eq 5) 5 41 43 := ⟨by decide +kernel, rfl, by decide⟩
theorem dd_Tape_spells_41 : pj_d cX7_spells 41 (.iconst 0) 1 42 := ⟨by decide +kernel, rfl⟩
theorem dd_Tape_spells_42 : pj_d cX7_spells 42 (.ireturn) 1 43 := ⟨by decide +kernel, rfl⟩
theorem dd_Tape_spells_43 : pj_d cX7_spells 43 (.iinc 4 1) 3 46 := ⟨by decide +kernel, rfl⟩
theorem dd_Tape_spells_46 : pj_dj cX7_spells 46 (.goto (-31)) (-31) 49 15 := ⟨by decide +kernel, rfl, by decide⟩
theorem dd_Tape_spells_49 : pj_d cX7_spells 49 (.iconst 1) 1 50 := ⟨by decide +kernel, rfl⟩
theorem dd_Tape_spells_50 : pj_d cX7_spells 50 (.ireturn) 1 51 := ⟨by decide +kernel, rfl⟩
set_option maxHeartbeats 4000000 in
set_option maxRecDepth 100000 in
theorem bt_Tape_spells_15 {B : pj_B} {A : Nat → Prop} {K : pj_K} {r0 : Int32} {z0 : pj_S} (hB : B.2.2.2.1 = pj_LC) (C : pj_C B A K cX7_spells 5 RX7 7) (Q : pj_Qi B A K (some .boolean) r0 z0) (s15 : Nat → Int32 → Int32 → pj_S → Option (Int32 × pj_S)) (k15 : ∀ (v1 : Nat) (v2 : Int32) (v4 : Int32) (z : pj_S) (H : Heap) (lo : List Loc) (ls : Array Slot), s15 v1 v2 v4 z = some (r0, z0) → pj_P B A K z H lo → lv_has ls 5 [(0, .ref (B.2.1 4)), (1, .ref (B.2.2.2.2.2.1 v1)), (2, .int v2), (4, .int v4)] → pj_W K H lo 15 ls []) (v1 : Nat) (v2 : Int32) (v4 : Int32) (z : pj_S) (H : Heap) (lo : List Loc) (ls : Array Slot) (h : Tape_spells_15 s15 v1 v2 v4 z = some (r0, z0)) (P : pj_P B A K z H lo) (hl : lv_has ls 5 [(0, .ref (B.2.1 4)), (1, .ref (B.2.2.2.2.2.1 v1)), (2, .int v2), (4, .int v4)]) : pj_W K H lo 15 ls [] := by
  unfold Tape_spells_15 at h
  refine pj_iload C dd_Tape_spells_15 hl 3 rfl ?_
  refine pj_aload_n C dd_Tape_spells_17 rfl hl 1 rfl ?_
  obtain ⟨r3, z2, e1, h⟩ := pj_cE h
  refine pj_cKi (st := [.int v4]) [] C P v1 (JStr_hi_length e1) (ct_JStr_length hB e1) cl_Tape_30 rfl (by decide) (by decide) hl.1 (Nat.le_of_ble_eq_true rfl) dd_Tape_spells_18 (fun H lo P => ?_)
  refine pj_ic_ge C h dd_Tape_spells_21 (fun h => ?_) (fun h => ?_)
  · refine pj_iconst (v := (nI 1)) C dd_Tape_spells_49 rfl ?_
    exact pj_zret C Q P h dd_Tape_spells_50
  · refine pj_aload_n C dd_Tape_spells_24 rfl hl 0 rfl ?_
    refine pj_iload_n C dd_Tape_spells_25 rfl hl 2 rfl ?_
    refine pj_iload C dd_Tape_spells_26 hl 3 rfl ?_
    refine pj_iadd C dd_Tape_spells_28 ?_
    obtain ⟨r6, z5, e4, h⟩ := pj_cE h
    refine pj_cVi (st := []) [.int (v2 + v4)] C P 4 (LC4 hB) rfl (ct_Tape_signAt hB e4) cl_Tape_19 rfl (by decide) (by decide) hl.1 (Nat.le_of_ble_eq_true rfl) dd_Tape_spells_29 (fun H lo P => ?_)
    refine pj_aload_n C dd_Tape_spells_32 rfl hl 1 rfl ?_
    refine pj_iload C dd_Tape_spells_33 hl 3 rfl ?_
    obtain ⟨r9, z8, e7, h⟩ := pj_cE h
    refine pj_cKi (st := [.int r6]) [.int v4] C P v1 (JStr_hi_charAt e7) (ct_JStr_charAt hB e7) cl_Tape_35 rfl (by decide) (by decide) hl.1 (Nat.le_of_ble_eq_true rfl) dd_Tape_spells_35 (fun H lo P => ?_)
    refine pj_ic_eq C h dd_Tape_spells_38 (fun h => ?_) (fun h => ?_)
    · refine pj_iinc (v := (nI 1)) [(0, .ref (B.2.1 4)), (1, .ref (B.2.2.2.2.2.1 v1)), (2, .int v2)] C h rfl dd_Tape_spells_43 hl 3 rfl (by decide) rfl (fun x10 ls h hl => ?_)
      refine pj_goto C dd_Tape_spells_46 ?_
      exact k15 _ _ _ _ _ _ _ h P (lv_sub hl [1, 2, 3, 0] rfl)
    · refine pj_iconst (v := (nI 0)) C dd_Tape_spells_41 rfl ?_
      exact pj_zret C Q P h dd_Tape_spells_42
theorem lt_Tape_spells_15 {B : pj_B} {A : Nat → Prop} {K : pj_K} {r0 : Int32} {z0 : pj_S} (hB : B.2.2.2.1 = pj_LC) (C : pj_C B A K cX7_spells 5 RX7 7) (Q : pj_Qi B A K (some .boolean) r0 z0)  : ∀ (n : Nat) (v1 : Nat) (v2 : Int32) (v4 : Int32) (z : pj_S) (H : Heap) (lo : List Loc) (ls : Array Slot), pj_lp3 Tape_spells_15 n v1 v2 v4 z = some (r0, z0) → pj_P B A K z H lo → lv_has ls 5 [(0, .ref (B.2.1 4)), (1, .ref (B.2.2.2.2.2.1 v1)), (2, .int v2), (4, .int v4)] → pj_W K H lo 15 ls [] := by
  intro n
  induction n with
  | zero => intro v1 v2 v4 z H lo ls h; rw [pj_lp3_0] at h; cases h
  | succ n ih =>
    intro v1 v2 v4 z H lo ls h P hl
    rw [pj_lp3_s] at h
    exact bt_Tape_spells_15 hB C Q   (pj_lp3 Tape_spells_15 n) ih v1 v2 v4 z H lo ls h P hl
set_option maxHeartbeats 4000000 in
set_option maxRecDepth 100000 in
theorem ct_Tape_spells {l : Launch} {B : pj_B} (hB : B.2.2.2.1 = pj_LC) {v1 : Nat} {v2 : Int32} {v3 : Int32} {z : pj_S} {r0 : Int32} {z0 : pj_S} (h : Tape_spells v1 v2 v3 z = some (r0, z0)) : pj_Mi l yX7_spells cX7_spells 5 (some .boolean) 7 [.ref (B.2.1 4), .ref (B.2.2.2.2.2.1 v1), .int v2, .int v3] B z r0 z0 := by
  refine pj_meti (own := RX7) (by decide +kernel) rfl (Nat.le_of_ble_eq_true rfl) ?_
  intro A K hK C Q H lo ls P hl
  have hl : lv_has ls 5 [(0, .ref (B.2.1 4)), (1, .ref (B.2.2.2.2.2.1 v1)), (2, .int v2), (3, .int v3)] := hl
  unfold Tape_spells at h
  refine pj_iload_n C dd_Tape_spells_0 rfl hl 3 rfl ?_
  refine pj_iload_n C dd_Tape_spells_1 rfl hl 2 rfl ?_
  refine pj_isub C dd_Tape_spells_2 ?_
  refine pj_aload_n C dd_Tape_spells_3 rfl hl 1 rfl ?_
  obtain ⟨r3, z2, e1, h⟩ := pj_cE h
  refine pj_cKi (st := [.int (v3 - v2)]) [] C P v1 (JStr_hi_length e1) (ct_JStr_length hB e1) cl_Tape_30 rfl (by decide) (by decide) hl.1 (Nat.le_of_ble_eq_true rfl) dd_Tape_spells_4 (fun H lo P => ?_)
  refine pj_ic_eq C h dd_Tape_spells_7 (fun h => ?_) (fun h => ?_)
  · refine pj_iconst (v := (nI 0)) C dd_Tape_spells_12 rfl ?_
    refine pj_istore [(4, .int (nI 0)), (0, .ref (B.2.1 4)), (1, .ref (B.2.2.2.2.2.1 v1)), (2, .int v2), (3, .int v3)] C dd_Tape_spells_13 hl (by decide) rfl (fun ls hl => ?_)
    exact lt_Tape_spells_15 hB C Q 4000 _ _ _ _ _ _ _ h P (lv_sub hl [1, 2, 3, 0] rfl)
  · refine pj_iconst (v := (nI 0)) C dd_Tape_spells_10 rfl ?_
    exact pj_zret C Q P h dd_Tape_spells_11
theorem dd_Reader_traitWordOf_0 : pj_d cX3_traitWordOf 0 (.aload_n 0) 1 1 := ⟨by decide +kernel, rfl⟩
theorem dd_Reader_traitWordOf_1 : pj_d cX3_traitWordOf 1 (.ldc 108) 2 3 := ⟨by decide +kernel, rfl⟩
theorem dd_Reader_traitWordOf_3 : pj_d cX3_traitWordOf 3 (.iload_n 1) 1 4 := ⟨by decide +kernel, rfl⟩
theorem dd_Reader_traitWordOf_4 : pj_d cX3_traitWordOf 4 (.iload_n 2) 1 5 := ⟨by decide +kernel, rfl⟩
theorem dd_Reader_traitWordOf_5 : pj_d cX3_traitWordOf 5 (.invokevirtual 93) 3 8 := ⟨by decide +kernel, rfl⟩
theorem dd_Reader_traitWordOf_8 : pj_dj cX3_traitWordOf 8 (.ifCond .eq 6) 6 11 14 := ⟨by decide +kernel, rfl, by decide⟩
theorem dd_Reader_traitWordOf_11 : pj_d cX3_traitWordOf 11 (.bipush (-11)) 2 13 := ⟨by decide +kernel, rfl⟩
theorem dd_Reader_traitWordOf_13 : pj_d cX3_traitWordOf 13 (.ireturn) 1 14 := ⟨by decide +kernel, rfl⟩
theorem dd_Reader_traitWordOf_14 : pj_d cX3_traitWordOf 14 (.aload_n 0) 1 15 := ⟨by decide +kernel, rfl⟩
theorem dd_Reader_traitWordOf_15 : pj_d cX3_traitWordOf 15 (.ldc 110) 2 17 := ⟨by decide +kernel, rfl⟩
theorem dd_Reader_traitWordOf_17 : pj_d cX3_traitWordOf 17 (.iload_n 1) 1 18 := ⟨by decide +kernel, rfl⟩
theorem dd_Reader_traitWordOf_18 : pj_d cX3_traitWordOf 18 (.iload_n 2) 1 19 := ⟨by decide +kernel, rfl⟩
theorem dd_Reader_traitWordOf_19 : pj_d cX3_traitWordOf 19 (.invokevirtual 93) 3 22 := ⟨by decide +kernel, rfl⟩
theorem dd_Reader_traitWordOf_22 : pj_dj cX3_traitWordOf 22 (.ifCond .eq 6) 6 25 28 := ⟨by decide +kernel, rfl, by decide⟩
theorem dd_Reader_traitWordOf_25 : pj_d cX3_traitWordOf 25 (.bipush (-12)) 2 27 := ⟨by decide +kernel, rfl⟩
theorem dd_Reader_traitWordOf_27 : pj_d cX3_traitWordOf 27 (.ireturn) 1 28 := ⟨by decide +kernel, rfl⟩
theorem dd_Reader_traitWordOf_28 : pj_d cX3_traitWordOf 28 (.aload_n 0) 1 29 := ⟨by decide +kernel, rfl⟩
theorem dd_Reader_traitWordOf_29 : pj_d cX3_traitWordOf 29 (.ldc 112) 2 31 := ⟨by decide +kernel, rfl⟩
theorem dd_Reader_traitWordOf_31 : pj_d cX3_traitWordOf 31 (.iload_n 1) 1 32 := ⟨by decide +kernel, rfl⟩
theorem dd_Reader_traitWordOf_32 : pj_d cX3_traitWordOf 32 (.iload_n 2) 1 33 := ⟨by decide +kernel, rfl⟩
theorem dd_Reader_traitWordOf_33 : pj_d cX3_traitWordOf 33 (.invokevirtual 93) 3 36 := ⟨by decide +kernel, rfl⟩
theorem dd_Reader_traitWordOf_36 : pj_dj cX3_traitWordOf 36 (.ifCond .eq 6) 6 39 42 := ⟨by decide +kernel, rfl, by decide⟩
theorem dd_Reader_traitWordOf_39 : pj_d cX3_traitWordOf 39 (.bipush (-13)) 2 41 := ⟨by decide +kernel, rfl⟩
theorem dd_Reader_traitWordOf_41 : pj_d cX3_traitWordOf 41 (.ireturn) 1 42 := ⟨by decide +kernel, rfl⟩
theorem dd_Reader_traitWordOf_42 : pj_d cX3_traitWordOf 42 (.aload_n 0) 1 43 := ⟨by decide +kernel, rfl⟩
theorem dd_Reader_traitWordOf_43 : pj_d cX3_traitWordOf 43 (.ldc 114) 2 45 := ⟨by decide +kernel, rfl⟩
theorem dd_Reader_traitWordOf_45 : pj_d cX3_traitWordOf 45 (.iload_n 1) 1 46 := ⟨by decide +kernel, rfl⟩
theorem dd_Reader_traitWordOf_46 : pj_d cX3_traitWordOf 46 (.iload_n 2) 1 47 := ⟨by decide +kernel, rfl⟩
theorem dd_Reader_traitWordOf_47 : pj_d cX3_traitWordOf 47 (.invokevirtual 93) 3 50 := ⟨by decide +kernel, rfl⟩
theorem dd_Reader_traitWordOf_50 : pj_dj cX3_traitWordOf 50 (.ifCond .eq 6) 6 53 56 := ⟨by decide +kernel, rfl, by decide⟩
theorem dd_Reader_traitWordOf_53 : pj_d cX3_traitWordOf 53 (.bipush (-14)) 2 55 := ⟨by decide +kernel, rfl⟩
theorem dd_Reader_traitWordOf_55 : pj_d cX3_traitWordOf 55 (.ireturn) 1 56 := ⟨by decide +kernel, rfl⟩
theorem dd_Reader_traitWordOf_56 : pj_d cX3_traitWordOf 56 (.aload_n 0) 1 57 := ⟨by decide +kernel, rfl⟩
theorem dd_Reader_traitWordOf_57 : pj_d cX3_traitWordOf 57 (.ldc 116) 2 59 := ⟨by decide +kernel, rfl⟩
theorem dd_Reader_traitWordOf_59 : pj_d cX3_traitWordOf 59 (.iload_n 1) 1 60 := ⟨by decide +kernel, rfl⟩
theorem dd_Reader_traitWordOf_60 : pj_d cX3_traitWordOf 60 (.iload_n 2) 1 61 := ⟨by decide +kernel, rfl⟩
theorem dd_Reader_traitWordOf_61 : pj_d cX3_traitWordOf 61 (.invokevirtual 93) 3 64 := ⟨by decide +kernel, rfl⟩
theorem dd_Reader_traitWordOf_64 : pj_dj cX3_traitWordOf 64 (.ifCond .eq 6) 6 67 70 := ⟨by decide +kernel, rfl, by decide⟩
theorem dd_Reader_traitWordOf_67 : pj_d cX3_traitWordOf 67 (.bipush (-15)) 2 69 := ⟨by decide +kernel, rfl⟩
theorem dd_Reader_traitWordOf_69 : pj_d cX3_traitWordOf 69 (.ireturn) 1 70 := ⟨by decide +kernel, rfl⟩
theorem dd_Reader_traitWordOf_70 : pj_d cX3_traitWordOf 70 (.aload_n 0) 1 71 := ⟨by decide +kernel, rfl⟩
theorem dd_Reader_traitWordOf_71 : pj_d cX3_traitWordOf 71 (.ldc 118) 2 73 := ⟨by decide +kernel, rfl⟩
theorem dd_Reader_traitWordOf_73 : pj_d cX3_traitWordOf 73 (.iload_n 1) 1 74 := ⟨by decide +kernel, rfl⟩
theorem dd_Reader_traitWordOf_74 : pj_d cX3_traitWordOf 74 (.iload_n 2) 1 75 := ⟨by decide +kernel, rfl⟩
theorem dd_Reader_traitWordOf_75 : pj_d cX3_traitWordOf 75 (.invokevirtual 93) 3 78 := ⟨by decide +kernel, rfl⟩
theorem dd_Reader_traitWordOf_78 : pj_dj cX3_traitWordOf 78 (.ifCond .eq 6) 6 81 84 := ⟨by decide +kernel, rfl, by decide⟩
theorem dd_Reader_traitWordOf_81 : pj_d cX3_traitWordOf 81 (.bipush (-16)) 2 83 := ⟨by decide +kernel, rfl⟩
theorem dd_Reader_traitWordOf_83 : pj_d cX3_traitWordOf 83 (.ireturn) 1 84 := ⟨by decide +kernel, rfl⟩
theorem dd_Reader_traitWordOf_84 : pj_d cX3_traitWordOf 84 (.aload_n 0) 1 85 := ⟨by decide +kernel, rfl⟩
theorem dd_Reader_traitWordOf_85 : pj_d cX3_traitWordOf 85 (.ldc 120) 2 87 := ⟨by decide +kernel, rfl⟩
theorem dd_Reader_traitWordOf_87 : pj_d cX3_traitWordOf 87 (.iload_n 1) 1 88 := ⟨by decide +kernel, rfl⟩
theorem dd_Reader_traitWordOf_88 : pj_d cX3_traitWordOf 88 (.iload_n 2) 1 89 := ⟨by decide +kernel, rfl⟩
theorem dd_Reader_traitWordOf_89 : pj_d cX3_traitWordOf 89 (.invokevirtual 93) 3 92 := ⟨by decide +kernel, rfl⟩
theorem dd_Reader_traitWordOf_92 : pj_dj cX3_traitWordOf 92 (.ifCond .eq 8) 8 95 100 := ⟨by decide +kernel, rfl, by decide⟩
theorem dd_Reader_traitWordOf_95 : pj_d cX3_traitWordOf 95 (.bipush (-17)) 2 97 := ⟨by decide +kernel, rfl⟩
theorem dd_Reader_traitWordOf_97 : pj_dj cX3_traitWordOf 97 (.goto 4) 4 100 101 := ⟨by decide +kernel, rfl, by decide⟩
theorem dd_Reader_traitWordOf_100 : pj_d cX3_traitWordOf 100 (.iconst 2) 1 101 := ⟨by decide +kernel, rfl⟩
theorem dd_Reader_traitWordOf_101 : pj_d cX3_traitWordOf 101 (.ireturn) 1 102 := ⟨by decide +kernel, rfl⟩
set_option maxHeartbeats 4000000 in
set_option maxRecDepth 100000 in
theorem ct_Reader_traitWordOf {l : Launch} {B : pj_B} (hB : B.2.2.2.1 = pj_LC) {v1 : Int32} {v2 : Int32} {z : pj_S} {r0 : Int32} {z0 : pj_S} (h : Reader_traitWordOf v1 v2 z = some (r0, z0)) : pj_Mi l yX3_traitWordOf cX3_traitWordOf 3 (some .int) 8 [.ref (B.2.1 4), .int v1, .int v2] B z r0 z0 := by
  refine pj_meti (own := RX3) (by decide +kernel) rfl (Nat.le_of_ble_eq_true rfl) ?_
  intro A K hK C Q H lo ls P hl
  have hl : lv_has ls 3 [(0, .ref (B.2.1 4)), (1, .int v1), (2, .int v2)] := hl
  unfold Reader_traitWordOf at h
  refine pj_aload_n C dd_Reader_traitWordOf_0 rfl hl 0 rfl ?_
  refine pj_ldcS (tx := "kind") (i := 5) C (by decide +kernel) dd_Reader_traitWordOf_1 ?_
  refine pj_iload_n C dd_Reader_traitWordOf_3 rfl hl 1 rfl ?_
  refine pj_iload_n C dd_Reader_traitWordOf_4 rfl hl 2 rfl ?_
  obtain ⟨r3, z2, e1, h⟩ := pj_cE h
  refine pj_cVi (st := []) [.ref (B.2.2.2.2.2.1 5), .int v1, .int v2] C P 4 (LC4 hB) rfl (ct_Tape_spells hB e1) cl_Reader_93 rfl (by decide) (by decide) hl.1 (Nat.le_of_ble_eq_true rfl) dd_Reader_traitWordOf_5 (fun H lo P => ?_)
  refine pj_if_eq C h dd_Reader_traitWordOf_8 (fun h => ?_) (fun h => ?_)
  · refine pj_aload_n C dd_Reader_traitWordOf_14 rfl hl 0 rfl ?_
    refine pj_ldcS (tx := "row") (i := 6) C (by decide +kernel) dd_Reader_traitWordOf_15 ?_
    refine pj_iload_n C dd_Reader_traitWordOf_17 rfl hl 1 rfl ?_
    refine pj_iload_n C dd_Reader_traitWordOf_18 rfl hl 2 rfl ?_
    obtain ⟨r6, z5, e4, h⟩ := pj_cE h
    refine pj_cVi (st := []) [.ref (B.2.2.2.2.2.1 6), .int v1, .int v2] C P 4 (LC4 hB) rfl (ct_Tape_spells hB e4) cl_Reader_93 rfl (by decide) (by decide) hl.1 (Nat.le_of_ble_eq_true rfl) dd_Reader_traitWordOf_19 (fun H lo P => ?_)
    refine pj_if_eq C h dd_Reader_traitWordOf_22 (fun h => ?_) (fun h => ?_)
    · refine pj_aload_n C dd_Reader_traitWordOf_28 rfl hl 0 rfl ?_
      refine pj_ldcS (tx := "column") (i := 7) C (by decide +kernel) dd_Reader_traitWordOf_29 ?_
      refine pj_iload_n C dd_Reader_traitWordOf_31 rfl hl 1 rfl ?_
      refine pj_iload_n C dd_Reader_traitWordOf_32 rfl hl 2 rfl ?_
      obtain ⟨r9, z8, e7, h⟩ := pj_cE h
      refine pj_cVi (st := []) [.ref (B.2.2.2.2.2.1 7), .int v1, .int v2] C P 4 (LC4 hB) rfl (ct_Tape_spells hB e7) cl_Reader_93 rfl (by decide) (by decide) hl.1 (Nat.le_of_ble_eq_true rfl) dd_Reader_traitWordOf_33 (fun H lo P => ?_)
      refine pj_if_eq C h dd_Reader_traitWordOf_36 (fun h => ?_) (fun h => ?_)
      · refine pj_aload_n C dd_Reader_traitWordOf_42 rfl hl 0 rfl ?_
        refine pj_ldcS (tx := "beside") (i := 8) C (by decide +kernel) dd_Reader_traitWordOf_43 ?_
        refine pj_iload_n C dd_Reader_traitWordOf_45 rfl hl 1 rfl ?_
        refine pj_iload_n C dd_Reader_traitWordOf_46 rfl hl 2 rfl ?_
        obtain ⟨r12, z11, e10, h⟩ := pj_cE h
        refine pj_cVi (st := []) [.ref (B.2.2.2.2.2.1 8), .int v1, .int v2] C P 4 (LC4 hB) rfl (ct_Tape_spells hB e10) cl_Reader_93 rfl (by decide) (by decide) hl.1 (Nat.le_of_ble_eq_true rfl) dd_Reader_traitWordOf_47 (fun H lo P => ?_)
        refine pj_if_eq C h dd_Reader_traitWordOf_50 (fun h => ?_) (fun h => ?_)
        · refine pj_aload_n C dd_Reader_traitWordOf_56 rfl hl 0 rfl ?_
          refine pj_ldcS (tx := "below") (i := 9) C (by decide +kernel) dd_Reader_traitWordOf_57 ?_
          refine pj_iload_n C dd_Reader_traitWordOf_59 rfl hl 1 rfl ?_
          refine pj_iload_n C dd_Reader_traitWordOf_60 rfl hl 2 rfl ?_
          obtain ⟨r15, z14, e13, h⟩ := pj_cE h
          refine pj_cVi (st := []) [.ref (B.2.2.2.2.2.1 9), .int v1, .int v2] C P 4 (LC4 hB) rfl (ct_Tape_spells hB e13) cl_Reader_93 rfl (by decide) (by decide) hl.1 (Nat.le_of_ble_eq_true rfl) dd_Reader_traitWordOf_61 (fun H lo P => ?_)
          refine pj_if_eq C h dd_Reader_traitWordOf_64 (fun h => ?_) (fun h => ?_)
          · refine pj_aload_n C dd_Reader_traitWordOf_70 rfl hl 0 rfl ?_
            refine pj_ldcS (tx := "hour") (i := 10) C (by decide +kernel) dd_Reader_traitWordOf_71 ?_
            refine pj_iload_n C dd_Reader_traitWordOf_73 rfl hl 1 rfl ?_
            refine pj_iload_n C dd_Reader_traitWordOf_74 rfl hl 2 rfl ?_
            obtain ⟨r18, z17, e16, h⟩ := pj_cE h
            refine pj_cVi (st := []) [.ref (B.2.2.2.2.2.1 10), .int v1, .int v2] C P 4 (LC4 hB) rfl (ct_Tape_spells hB e16) cl_Reader_93 rfl (by decide) (by decide) hl.1 (Nat.le_of_ble_eq_true rfl) dd_Reader_traitWordOf_75 (fun H lo P => ?_)
            refine pj_if_eq C h dd_Reader_traitWordOf_78 (fun h => ?_) (fun h => ?_)
            · refine pj_aload_n C dd_Reader_traitWordOf_84 rfl hl 0 rfl ?_
              refine pj_ldcS (tx := "gone") (i := 11) C (by decide +kernel) dd_Reader_traitWordOf_85 ?_
              refine pj_iload_n C dd_Reader_traitWordOf_87 rfl hl 1 rfl ?_
              refine pj_iload_n C dd_Reader_traitWordOf_88 rfl hl 2 rfl ?_
              obtain ⟨r21, z20, e19, h⟩ := pj_cE h
              refine pj_cVi (st := []) [.ref (B.2.2.2.2.2.1 11), .int v1, .int v2] C P 4 (LC4 hB) rfl (ct_Tape_spells hB e19) cl_Reader_93 rfl (by decide) (by decide) hl.1 (Nat.le_of_ble_eq_true rfl) dd_Reader_traitWordOf_89 (fun H lo P => ?_)
              refine pj_if_eq C h dd_Reader_traitWordOf_92 (fun h => ?_) (fun h => ?_)
              · refine pj_iconst (v := (nI 2)) C dd_Reader_traitWordOf_100 rfl ?_
                exact pj_iret C Q P h dd_Reader_traitWordOf_101
              · refine pj_bipush (v := (-17 : Int32)) C dd_Reader_traitWordOf_95 rfl ?_
                refine pj_goto C dd_Reader_traitWordOf_97 ?_
                exact pj_iret C Q P h dd_Reader_traitWordOf_101
            · refine pj_bipush (v := (-16 : Int32)) C dd_Reader_traitWordOf_81 rfl ?_
              exact pj_iret C Q P h dd_Reader_traitWordOf_83
          · refine pj_bipush (v := (-15 : Int32)) C dd_Reader_traitWordOf_67 rfl ?_
            exact pj_iret C Q P h dd_Reader_traitWordOf_69
        · refine pj_bipush (v := (-14 : Int32)) C dd_Reader_traitWordOf_53 rfl ?_
          exact pj_iret C Q P h dd_Reader_traitWordOf_55
      · refine pj_bipush (v := (-13 : Int32)) C dd_Reader_traitWordOf_39 rfl ?_
        exact pj_iret C Q P h dd_Reader_traitWordOf_41
    · refine pj_bipush (v := (-12 : Int32)) C dd_Reader_traitWordOf_25 rfl ?_
      exact pj_iret C Q P h dd_Reader_traitWordOf_27
  · refine pj_bipush (v := (-11 : Int32)) C dd_Reader_traitWordOf_11 rfl ?_
    exact pj_iret C Q P h dd_Reader_traitWordOf_13
theorem dd_Reader_wordOf_0 : pj_d cX3_wordOf 0 (.aload_n 0) 1 1 := ⟨by decide +kernel, rfl⟩
theorem dd_Reader_wordOf_1 : pj_d cX3_wordOf 1 (.ldc 91) 2 3 := ⟨by decide +kernel, rfl⟩
theorem dd_Reader_wordOf_3 : pj_d cX3_wordOf 3 (.iload_n 1) 1 4 := ⟨by decide +kernel, rfl⟩
theorem dd_Reader_wordOf_4 : pj_d cX3_wordOf 4 (.iload_n 2) 1 5 := ⟨by decide +kernel, rfl⟩
theorem dd_Reader_wordOf_5 : pj_d cX3_wordOf 5 (.invokevirtual 93) 3 8 := ⟨by decide +kernel, rfl⟩
theorem dd_Reader_wordOf_8 : pj_dj cX3_wordOf 8 (.ifCond .eq 6) 6 11 14 := ⟨by decide +kernel, rfl, by decide⟩
theorem dd_Reader_wordOf_11 : pj_d cX3_wordOf 11 (.bipush (-18)) 2 13 := ⟨by decide +kernel, rfl⟩
theorem dd_Reader_wordOf_13 : pj_d cX3_wordOf 13 (.ireturn) 1 14 := ⟨by decide +kernel, rfl⟩
theorem dd_Reader_wordOf_14 : pj_d cX3_wordOf 14 (.aload_n 0) 1 15 := ⟨by decide +kernel, rfl⟩
theorem dd_Reader_wordOf_15 : pj_d cX3_wordOf 15 (.ldc 97) 2 17 := ⟨by decide +kernel, rfl⟩
theorem dd_Reader_wordOf_17 : pj_d cX3_wordOf 17 (.iload_n 1) 1 18 := ⟨by decide +kernel, rfl⟩
theorem dd_Reader_wordOf_18 : pj_d cX3_wordOf 18 (.iload_n 2) 1 19 := ⟨by decide +kernel, rfl⟩
theorem dd_Reader_wordOf_19 : pj_d cX3_wordOf 19 (.invokevirtual 93) 3 22 := ⟨by decide +kernel, rfl⟩
theorem dd_Reader_wordOf_22 : pj_dj cX3_wordOf 22 (.ifCond .eq 6) 6 25 28 := ⟨by decide +kernel, rfl, by decide⟩
theorem dd_Reader_wordOf_25 : pj_d cX3_wordOf 25 (.bipush (-19)) 2 27 := ⟨by decide +kernel, rfl⟩
theorem dd_Reader_wordOf_27 : pj_d cX3_wordOf 27 (.ireturn) 1 28 := ⟨by decide +kernel, rfl⟩
theorem dd_Reader_wordOf_28 : pj_d cX3_wordOf 28 (.aload_n 0) 1 29 := ⟨by decide +kernel, rfl⟩
theorem dd_Reader_wordOf_29 : pj_d cX3_wordOf 29 (.ldc 99) 2 31 := ⟨by decide +kernel, rfl⟩
theorem dd_Reader_wordOf_31 : pj_d cX3_wordOf 31 (.iload_n 1) 1 32 := ⟨by decide +kernel, rfl⟩
theorem dd_Reader_wordOf_32 : pj_d cX3_wordOf 32 (.iload_n 2) 1 33 := ⟨by decide +kernel, rfl⟩
theorem dd_Reader_wordOf_33 : pj_d cX3_wordOf 33 (.invokevirtual 93) 3 36 := ⟨by decide +kernel, rfl⟩
theorem dd_Reader_wordOf_36 : pj_dj cX3_wordOf 36 (.ifCond .eq 6) 6 39 42 := ⟨by decide +kernel, rfl, by decide⟩
theorem dd_Reader_wordOf_39 : pj_d cX3_wordOf 39 (.bipush (-9)) 2 41 := ⟨by decide +kernel, rfl⟩
theorem dd_Reader_wordOf_41 : pj_d cX3_wordOf 41 (.ireturn) 1 42 := ⟨by decide +kernel, rfl⟩
theorem dd_Reader_wordOf_42 : pj_d cX3_wordOf 42 (.aload_n 0) 1 43 := ⟨by decide +kernel, rfl⟩
theorem dd_Reader_wordOf_43 : pj_d cX3_wordOf 43 (.ldc 101) 2 45 := ⟨by decide +kernel, rfl⟩
theorem dd_Reader_wordOf_45 : pj_d cX3_wordOf 45 (.iload_n 1) 1 46 := ⟨by decide +kernel, rfl⟩
theorem dd_Reader_wordOf_46 : pj_d cX3_wordOf 46 (.iload_n 2) 1 47 := ⟨by decide +kernel, rfl⟩
theorem dd_Reader_wordOf_47 : pj_d cX3_wordOf 47 (.invokevirtual 93) 3 50 := ⟨by decide +kernel, rfl⟩
theorem dd_Reader_wordOf_50 : pj_dj cX3_wordOf 50 (.ifCond .eq 6) 6 53 56 := ⟨by decide +kernel, rfl, by decide⟩
theorem dd_Reader_wordOf_53 : pj_d cX3_wordOf 53 (.bipush (-8)) 2 55 := ⟨by decide +kernel, rfl⟩
theorem dd_Reader_wordOf_55 : pj_d cX3_wordOf 55 (.ireturn) 1 56 := ⟨by decide +kernel, rfl⟩
theorem dd_Reader_wordOf_56 : pj_d cX3_wordOf 56 (.aload_n 0) 1 57 := ⟨by decide +kernel, rfl⟩
theorem dd_Reader_wordOf_57 : pj_d cX3_wordOf 57 (.ldc 103) 2 59 := ⟨by decide +kernel, rfl⟩
theorem dd_Reader_wordOf_59 : pj_d cX3_wordOf 59 (.iload_n 1) 1 60 := ⟨by decide +kernel, rfl⟩
theorem dd_Reader_wordOf_60 : pj_d cX3_wordOf 60 (.iload_n 2) 1 61 := ⟨by decide +kernel, rfl⟩
theorem dd_Reader_wordOf_61 : pj_d cX3_wordOf 61 (.invokevirtual 93) 3 64 := ⟨by decide +kernel, rfl⟩
theorem dd_Reader_wordOf_64 : pj_dj cX3_wordOf 64 (.ifCond .eq 6) 6 67 70 := ⟨by decide +kernel, rfl, by decide⟩
theorem dd_Reader_wordOf_67 : pj_d cX3_wordOf 67 (.bipush (-10)) 2 69 := ⟨by decide +kernel, rfl⟩
theorem dd_Reader_wordOf_69 : pj_d cX3_wordOf 69 (.ireturn) 1 70 := ⟨by decide +kernel, rfl⟩
theorem dd_Reader_wordOf_70 : pj_d cX3_wordOf 70 (.aload_n 0) 1 71 := ⟨by decide +kernel, rfl⟩
theorem dd_Reader_wordOf_71 : pj_d cX3_wordOf 71 (.iload_n 1) 1 72 := ⟨by decide +kernel, rfl⟩
theorem dd_Reader_wordOf_72 : pj_d cX3_wordOf 72 (.iload_n 2) 1 73 := ⟨by decide +kernel, rfl⟩
theorem dd_Reader_wordOf_73 : pj_d cX3_wordOf 73 (.invokestatic 105) 3 76 := ⟨by decide +kernel, rfl⟩
theorem dd_Reader_wordOf_76 : pj_d cX3_wordOf 76 (.ireturn) 1 77 := ⟨by decide +kernel, rfl⟩
set_option maxHeartbeats 4000000 in
set_option maxRecDepth 100000 in
theorem ct_Reader_wordOf {l : Launch} {B : pj_B} (hB : B.2.2.2.1 = pj_LC) {v1 : Int32} {v2 : Int32} {z : pj_S} {r0 : Int32} {z0 : pj_S} (h : Reader_wordOf v1 v2 z = some (r0, z0)) : pj_Mi l yX3_wordOf cX3_wordOf 3 (some .int) 9 [.ref (B.2.1 4), .int v1, .int v2] B z r0 z0 := by
  refine pj_meti (own := RX3) (by decide +kernel) rfl (Nat.le_of_ble_eq_true rfl) ?_
  intro A K hK C Q H lo ls P hl
  have hl : lv_has ls 3 [(0, .ref (B.2.1 4)), (1, .int v1), (2, .int v2)] := hl
  unfold Reader_wordOf at h
  refine pj_aload_n C dd_Reader_wordOf_0 rfl hl 0 rfl ?_
  refine pj_ldcS (tx := "run") (i := 0) C (by decide +kernel) dd_Reader_wordOf_1 ?_
  refine pj_iload_n C dd_Reader_wordOf_3 rfl hl 1 rfl ?_
  refine pj_iload_n C dd_Reader_wordOf_4 rfl hl 2 rfl ?_
  obtain ⟨r3, z2, e1, h⟩ := pj_cE h
  refine pj_cVi (st := []) [.ref (B.2.2.2.2.2.1 0), .int v1, .int v2] C P 4 (LC4 hB) rfl (ct_Tape_spells hB e1) cl_Reader_93 rfl (by decide) (by decide) hl.1 (Nat.le_of_ble_eq_true rfl) dd_Reader_wordOf_5 (fun H lo P => ?_)
  refine pj_if_eq C h dd_Reader_wordOf_8 (fun h => ?_) (fun h => ?_)
  · refine pj_aload_n C dd_Reader_wordOf_14 rfl hl 0 rfl ?_
    refine pj_ldcS (tx := "when") (i := 1) C (by decide +kernel) dd_Reader_wordOf_15 ?_
    refine pj_iload_n C dd_Reader_wordOf_17 rfl hl 1 rfl ?_
    refine pj_iload_n C dd_Reader_wordOf_18 rfl hl 2 rfl ?_
    obtain ⟨r6, z5, e4, h⟩ := pj_cE h
    refine pj_cVi (st := []) [.ref (B.2.2.2.2.2.1 1), .int v1, .int v2] C P 4 (LC4 hB) rfl (ct_Tape_spells hB e4) cl_Reader_93 rfl (by decide) (by decide) hl.1 (Nat.le_of_ble_eq_true rfl) dd_Reader_wordOf_19 (fun H lo P => ?_)
    refine pj_if_eq C h dd_Reader_wordOf_22 (fun h => ?_) (fun h => ?_)
    · refine pj_aload_n C dd_Reader_wordOf_28 rfl hl 0 rfl ?_
      refine pj_ldcS (tx := "or") (i := 2) C (by decide +kernel) dd_Reader_wordOf_29 ?_
      refine pj_iload_n C dd_Reader_wordOf_31 rfl hl 1 rfl ?_
      refine pj_iload_n C dd_Reader_wordOf_32 rfl hl 2 rfl ?_
      obtain ⟨r9, z8, e7, h⟩ := pj_cE h
      refine pj_cVi (st := []) [.ref (B.2.2.2.2.2.1 2), .int v1, .int v2] C P 4 (LC4 hB) rfl (ct_Tape_spells hB e7) cl_Reader_93 rfl (by decide) (by decide) hl.1 (Nat.le_of_ble_eq_true rfl) dd_Reader_wordOf_33 (fun H lo P => ?_)
      refine pj_if_eq C h dd_Reader_wordOf_36 (fun h => ?_) (fun h => ?_)
      · refine pj_aload_n C dd_Reader_wordOf_42 rfl hl 0 rfl ?_
        refine pj_ldcS (tx := "and") (i := 3) C (by decide +kernel) dd_Reader_wordOf_43 ?_
        refine pj_iload_n C dd_Reader_wordOf_45 rfl hl 1 rfl ?_
        refine pj_iload_n C dd_Reader_wordOf_46 rfl hl 2 rfl ?_
        obtain ⟨r12, z11, e10, h⟩ := pj_cE h
        refine pj_cVi (st := []) [.ref (B.2.2.2.2.2.1 3), .int v1, .int v2] C P 4 (LC4 hB) rfl (ct_Tape_spells hB e10) cl_Reader_93 rfl (by decide) (by decide) hl.1 (Nat.le_of_ble_eq_true rfl) dd_Reader_wordOf_47 (fun H lo P => ?_)
        refine pj_if_eq C h dd_Reader_wordOf_50 (fun h => ?_) (fun h => ?_)
        · refine pj_aload_n C dd_Reader_wordOf_56 rfl hl 0 rfl ?_
          refine pj_ldcS (tx := "not") (i := 4) C (by decide +kernel) dd_Reader_wordOf_57 ?_
          refine pj_iload_n C dd_Reader_wordOf_59 rfl hl 1 rfl ?_
          refine pj_iload_n C dd_Reader_wordOf_60 rfl hl 2 rfl ?_
          obtain ⟨r15, z14, e13, h⟩ := pj_cE h
          refine pj_cVi (st := []) [.ref (B.2.2.2.2.2.1 4), .int v1, .int v2] C P 4 (LC4 hB) rfl (ct_Tape_spells hB e13) cl_Reader_93 rfl (by decide) (by decide) hl.1 (Nat.le_of_ble_eq_true rfl) dd_Reader_wordOf_61 (fun H lo P => ?_)
          refine pj_if_eq C h dd_Reader_wordOf_64 (fun h => ?_) (fun h => ?_)
          · refine pj_aload_n C dd_Reader_wordOf_70 rfl hl 0 rfl ?_
            refine pj_iload_n C dd_Reader_wordOf_71 rfl hl 1 rfl ?_
            refine pj_iload_n C dd_Reader_wordOf_72 rfl hl 2 rfl ?_
            obtain ⟨r18, z17, e16, h⟩ := pj_cE h
            refine pj_cSi (st := []) [.ref (B.2.1 4), .int v1, .int v2] C P (ct_Reader_traitWordOf hB e16) cl_Reader_105 rfl (by decide) (by decide) hl.1 (Nat.le_of_ble_eq_true rfl) dd_Reader_wordOf_73 (fun H lo P => ?_)
            exact pj_iret C Q P h dd_Reader_wordOf_76
          · refine pj_bipush (v := (-10 : Int32)) C dd_Reader_wordOf_67 rfl ?_
            exact pj_iret C Q P h dd_Reader_wordOf_69
        · refine pj_bipush (v := (-8 : Int32)) C dd_Reader_wordOf_53 rfl ?_
          exact pj_iret C Q P h dd_Reader_wordOf_55
      · refine pj_bipush (v := (-9 : Int32)) C dd_Reader_wordOf_39 rfl ?_
        exact pj_iret C Q P h dd_Reader_wordOf_41
    · refine pj_bipush (v := (-19 : Int32)) C dd_Reader_wordOf_25 rfl ?_
      exact pj_iret C Q P h dd_Reader_wordOf_27
  · refine pj_bipush (v := (-18 : Int32)) C dd_Reader_wordOf_11 rfl ?_
    exact pj_iret C Q P h dd_Reader_wordOf_13
theorem dd_Reader_tokenOf_0 : pj_d cX3_tokenOf 0 (.aload_n 0) 1 1 := ⟨by decide +kernel, rfl⟩
theorem dd_Reader_tokenOf_1 : pj_d cX3_tokenOf 1 (.iload_n 1) 1 2 := ⟨by decide +kernel, rfl⟩
theorem dd_Reader_tokenOf_2 : pj_d cX3_tokenOf 2 (.invokevirtual 78) 3 5 := ⟨by decide +kernel, rfl⟩
theorem dd_Reader_tokenOf_5 : pj_d cX3_tokenOf 5 (.istore_n 3) 1 6 := ⟨by decide +kernel, rfl⟩
theorem dd_Reader_tokenOf_6 : pj_d cX3_tokenOf 6 (.iload_n 3) 1 7 := ⟨by decide +kernel, rfl⟩
theorem dd_Reader_tokenOf_7 : pj_d cX3_tokenOf 7 (.iconst (-1)) 1 8 := ⟨by decide +kernel, rfl⟩
theorem dd_Reader_tokenOf_8 : pj_dj cX3_tokenOf 8 (.if_icmp .ne 5) 5 11 13 := ⟨by decide +kernel, rfl, by decide⟩
theorem dd_Reader_tokenOf_11 : pj_d cX3_tokenOf 11 (.iconst 0) 1 12 := ⟨by decide +kernel, rfl⟩
theorem dd_Reader_tokenOf_12 : pj_d cX3_tokenOf 12 (.ireturn) 1 13 := ⟨by decide +kernel, rfl⟩
theorem dd_Reader_tokenOf_13 : pj_d cX3_tokenOf 13 (.iload_n 3) 1 14 := ⟨by decide +kernel, rfl⟩
theorem dd_Reader_tokenOf_14 : pj_d cX3_tokenOf 14 (.invokestatic 81) 3 17 := ⟨by decide +kernel, rfl⟩
theorem dd_Reader_tokenOf_17 : pj_dj cX3_tokenOf 17 (.ifCond .eq 10) 10 20 27 := ⟨by decide +kernel, rfl, by decide⟩
theorem dd_Reader_tokenOf_20 : pj_d cX3_tokenOf 20 (.aload_n 0) 1 21 := ⟨by decide +kernel, rfl⟩
theorem dd_Reader_tokenOf_21 : pj_d cX3_tokenOf 21 (.iload_n 1) 1 22 := ⟨by decide +kernel, rfl⟩
theorem dd_Reader_tokenOf_22 : pj_d cX3_tokenOf 22 (.iload_n 2) 1 23 := ⟨by decide +kernel, rfl⟩
theorem dd_Reader_tokenOf_23 : pj_d cX3_tokenOf 23 (.invokestatic 85) 3 26 := ⟨by decide +kernel, rfl⟩
theorem dd_Reader_tokenOf_26 : pj_d cX3_tokenOf 26 (.ireturn) 1 27 := ⟨by decide +kernel, rfl⟩
theorem dd_Reader_tokenOf_27 : pj_d cX3_tokenOf 27 (.iload_n 3) 1 28 := ⟨by decide +kernel, rfl⟩
theorem dd_Reader_tokenOf_28 : pj_d cX3_tokenOf 28 (.invokestatic 88) 3 31 := ⟨by decide +kernel, rfl⟩
theorem dd_Reader_tokenOf_31 : pj_dj cX3_tokenOf 31 (.ifCond .eq 16) 16 34 47 := ⟨by decide +kernel, rfl, by decide⟩
theorem dd_Reader_tokenOf_34 : pj_d cX3_tokenOf 34 (.iload_n 2) 1 35 := ⟨by decide +kernel, rfl⟩
theorem dd_Reader_tokenOf_35 : pj_d cX3_tokenOf 35 (.iload_n 1) 1 36 := ⟨by decide +kernel, rfl⟩
theorem dd_Reader_tokenOf_36 : pj_d cX3_tokenOf 36 (.isub) 1 37 := ⟨by decide +kernel, rfl⟩
theorem dd_Reader_tokenOf_37 : pj_d cX3_tokenOf 37 (.iconst 4) 1 38 := ⟨by decide +kernel, rfl⟩
theorem dd_Reader_tokenOf_38 : pj_dj cX3_tokenOf 38 (.if_icmp .gt 7) 7 41 45 := ⟨by decide +kernel, rfl, by decide⟩
theorem dd_Reader_tokenOf_41 : pj_d cX3_tokenOf 41 (.iconst 1) 1 42 := ⟨by decide +kernel, rfl⟩
theorem dd_Reader_tokenOf_42 : pj_dj cX3_tokenOf 42 (.goto 4) 4 45 46 := ⟨by decide +kernel, rfl, by decide⟩
theorem dd_Reader_tokenOf_45 : pj_d cX3_tokenOf 45 (.iconst 2) 1 46 := ⟨by decide +kernel, rfl⟩
theorem dd_Reader_tokenOf_46 : pj_d cX3_tokenOf 46 (.ireturn) 1 47 := ⟨by decide +kernel, rfl⟩
theorem dd_Reader_tokenOf_47 : pj_d cX3_tokenOf 47 (.iload_n 3) 1 48 := ⟨by decide +kernel, rfl⟩
theorem dd_Reader_tokenOf_48 : pj_d cX3_tokenOf 48 (.tableswitch 110 40 62 #[108, 108, 108, 108, 110, 108, 110, 108, 110, 110, 110, 110, 110, 110, 110, 110, 110, 110, 110, 108, 108, 108, 108]) 108 156 := ⟨by decide +kernel, rfl⟩
theorem dd_Reader_tokenOf_156 : pj_d cX3_tokenOf 156 (.iload_n 3) 1 157 := ⟨by decide +kernel, rfl⟩
theorem dd_Reader_tokenOf_157 : pj_d cX3_tokenOf 157 (.ireturn) 1 158 := ⟨by decide +kernel, rfl⟩
theorem dd_Reader_tokenOf_158 : pj_d cX3_tokenOf 158 (.iconst 2) 1 159 := ⟨by decide +kernel, rfl⟩
theorem dd_Reader_tokenOf_159 : pj_d cX3_tokenOf 159 (.ireturn) 1 160 := ⟨by decide +kernel, rfl⟩
set_option maxHeartbeats 4000000 in
set_option maxRecDepth 100000 in
theorem ct_Reader_tokenOf {l : Launch} {B : pj_B} (hB : B.2.2.2.1 = pj_LC) {v1 : Int32} {v2 : Int32} {z : pj_S} {r0 : Int32} {z0 : pj_S} (h : Reader_tokenOf v1 v2 z = some (r0, z0)) : pj_Mi l yX3_tokenOf cX3_tokenOf 4 (some .int) 10 [.ref (B.2.1 4), .int v1, .int v2] B z r0 z0 := by
  refine pj_meti (own := RX3) (by decide +kernel) rfl (Nat.le_of_ble_eq_true rfl) ?_
  intro A K hK C Q H lo ls P hl
  have hl : lv_has ls 4 [(0, .ref (B.2.1 4)), (1, .int v1), (2, .int v2)] := hl
  unfold Reader_tokenOf at h
  refine pj_aload_n C dd_Reader_tokenOf_0 rfl hl 0 rfl ?_
  refine pj_iload_n C dd_Reader_tokenOf_1 rfl hl 1 rfl ?_
  obtain ⟨r3, z2, e1, h⟩ := pj_cE h
  refine pj_cVi (st := []) [.int v1] C P 4 (LC4 hB) rfl (ct_Tape_signAt hB e1) cl_Reader_78 rfl (by decide) (by decide) hl.1 (Nat.le_of_ble_eq_true rfl) dd_Reader_tokenOf_2 (fun H lo P => ?_)
  refine pj_istore_n [(3, .int r3), (0, .ref (B.2.1 4)), (1, .int v1), (2, .int v2)] C dd_Reader_tokenOf_5 rfl hl (by decide) rfl (fun ls hl => ?_)
  refine pj_iload_n C dd_Reader_tokenOf_6 rfl hl 0 rfl ?_
  refine pj_iconst (v := (-1 : Int32)) C dd_Reader_tokenOf_7 rfl ?_
  refine pj_ic_ne C h dd_Reader_tokenOf_8 (fun h => ?_) (fun h => ?_)
  · refine pj_iload_n C dd_Reader_tokenOf_13 rfl hl 0 rfl ?_
    obtain ⟨r6, z5, e4, h⟩ := pj_cE h
    refine pj_cSi (st := []) [.int r3] C P (ct_Tape_isLetter hB e4) cl_Reader_81 rfl (by decide) (by decide) hl.1 (Nat.le_of_ble_eq_true rfl) dd_Reader_tokenOf_14 (fun H lo P => ?_)
    refine pj_if_eq C h dd_Reader_tokenOf_17 (fun h => ?_) (fun h => ?_)
    · refine pj_iload_n C dd_Reader_tokenOf_27 rfl hl 0 rfl ?_
      obtain ⟨r9, z8, e7, h⟩ := pj_cE h
      refine pj_cSi (st := []) [.int r3] C P (ct_Tape_isDigit hB e7) cl_Reader_88 rfl (by decide) (by decide) hl.1 (Nat.le_of_ble_eq_true rfl) dd_Reader_tokenOf_28 (fun H lo P => ?_)
      refine pj_if_eq C h dd_Reader_tokenOf_31 (fun h => ?_) (fun h => ?_)
      · refine pj_iload_n C dd_Reader_tokenOf_47 rfl hl 0 rfl ?_
        refine pj_sw h (fun c0 h => ?_) (fun c0 h => ?_)
        · refine pj_swI (nI 40) (108) 156 C dd_Reader_tokenOf_48 c0 (by decide) ?_
          refine pj_iload_n C dd_Reader_tokenOf_156 rfl hl 0 rfl ?_
          exact pj_iret C Q P h dd_Reader_tokenOf_157
        refine pj_sw h (fun c1 h => ?_) (fun c1 h => ?_)
        · refine pj_swI (nI 41) (108) 156 C dd_Reader_tokenOf_48 c1 (by decide) ?_
          refine pj_iload_n C dd_Reader_tokenOf_156 rfl hl 0 rfl ?_
          exact pj_iret C Q P h dd_Reader_tokenOf_157
        refine pj_sw h (fun c2 h => ?_) (fun c2 h => ?_)
        · refine pj_swI (nI 42) (108) 156 C dd_Reader_tokenOf_48 c2 (by decide) ?_
          refine pj_iload_n C dd_Reader_tokenOf_156 rfl hl 0 rfl ?_
          exact pj_iret C Q P h dd_Reader_tokenOf_157
        refine pj_sw h (fun c3 h => ?_) (fun c3 h => ?_)
        · refine pj_swI (nI 43) (108) 156 C dd_Reader_tokenOf_48 c3 (by decide) ?_
          refine pj_iload_n C dd_Reader_tokenOf_156 rfl hl 0 rfl ?_
          exact pj_iret C Q P h dd_Reader_tokenOf_157
        refine pj_sw h (fun c4 h => ?_) (fun c4 h => ?_)
        · refine pj_swI (nI 44) (110) 158 C dd_Reader_tokenOf_48 c4 (by decide) ?_
          refine pj_iconst (v := (nI 2)) C dd_Reader_tokenOf_158 rfl ?_
          exact pj_iret C Q P h dd_Reader_tokenOf_159
        refine pj_sw h (fun c5 h => ?_) (fun c5 h => ?_)
        · refine pj_swI (nI 45) (108) 156 C dd_Reader_tokenOf_48 c5 (by decide) ?_
          refine pj_iload_n C dd_Reader_tokenOf_156 rfl hl 0 rfl ?_
          exact pj_iret C Q P h dd_Reader_tokenOf_157
        refine pj_sw h (fun c6 h => ?_) (fun c6 h => ?_)
        · refine pj_swI (nI 46) (110) 158 C dd_Reader_tokenOf_48 c6 (by decide) ?_
          refine pj_iconst (v := (nI 2)) C dd_Reader_tokenOf_158 rfl ?_
          exact pj_iret C Q P h dd_Reader_tokenOf_159
        refine pj_sw h (fun c7 h => ?_) (fun c7 h => ?_)
        · refine pj_swI (nI 47) (108) 156 C dd_Reader_tokenOf_48 c7 (by decide) ?_
          refine pj_iload_n C dd_Reader_tokenOf_156 rfl hl 0 rfl ?_
          exact pj_iret C Q P h dd_Reader_tokenOf_157
        refine pj_sw h (fun c8 h => ?_) (fun c8 h => ?_)
        · refine pj_swI (nI 48) (110) 158 C dd_Reader_tokenOf_48 c8 (by decide) ?_
          refine pj_iconst (v := (nI 2)) C dd_Reader_tokenOf_158 rfl ?_
          exact pj_iret C Q P h dd_Reader_tokenOf_159
        refine pj_sw h (fun c9 h => ?_) (fun c9 h => ?_)
        · refine pj_swI (nI 49) (110) 158 C dd_Reader_tokenOf_48 c9 (by decide) ?_
          refine pj_iconst (v := (nI 2)) C dd_Reader_tokenOf_158 rfl ?_
          exact pj_iret C Q P h dd_Reader_tokenOf_159
        refine pj_sw h (fun c10 h => ?_) (fun c10 h => ?_)
        · refine pj_swI (nI 50) (110) 158 C dd_Reader_tokenOf_48 c10 (by decide) ?_
          refine pj_iconst (v := (nI 2)) C dd_Reader_tokenOf_158 rfl ?_
          exact pj_iret C Q P h dd_Reader_tokenOf_159
        refine pj_sw h (fun c11 h => ?_) (fun c11 h => ?_)
        · refine pj_swI (nI 51) (110) 158 C dd_Reader_tokenOf_48 c11 (by decide) ?_
          refine pj_iconst (v := (nI 2)) C dd_Reader_tokenOf_158 rfl ?_
          exact pj_iret C Q P h dd_Reader_tokenOf_159
        refine pj_sw h (fun c12 h => ?_) (fun c12 h => ?_)
        · refine pj_swI (nI 52) (110) 158 C dd_Reader_tokenOf_48 c12 (by decide) ?_
          refine pj_iconst (v := (nI 2)) C dd_Reader_tokenOf_158 rfl ?_
          exact pj_iret C Q P h dd_Reader_tokenOf_159
        refine pj_sw h (fun c13 h => ?_) (fun c13 h => ?_)
        · refine pj_swI (nI 53) (110) 158 C dd_Reader_tokenOf_48 c13 (by decide) ?_
          refine pj_iconst (v := (nI 2)) C dd_Reader_tokenOf_158 rfl ?_
          exact pj_iret C Q P h dd_Reader_tokenOf_159
        refine pj_sw h (fun c14 h => ?_) (fun c14 h => ?_)
        · refine pj_swI (nI 54) (110) 158 C dd_Reader_tokenOf_48 c14 (by decide) ?_
          refine pj_iconst (v := (nI 2)) C dd_Reader_tokenOf_158 rfl ?_
          exact pj_iret C Q P h dd_Reader_tokenOf_159
        refine pj_sw h (fun c15 h => ?_) (fun c15 h => ?_)
        · refine pj_swI (nI 55) (110) 158 C dd_Reader_tokenOf_48 c15 (by decide) ?_
          refine pj_iconst (v := (nI 2)) C dd_Reader_tokenOf_158 rfl ?_
          exact pj_iret C Q P h dd_Reader_tokenOf_159
        refine pj_sw h (fun c16 h => ?_) (fun c16 h => ?_)
        · refine pj_swI (nI 56) (110) 158 C dd_Reader_tokenOf_48 c16 (by decide) ?_
          refine pj_iconst (v := (nI 2)) C dd_Reader_tokenOf_158 rfl ?_
          exact pj_iret C Q P h dd_Reader_tokenOf_159
        refine pj_sw h (fun c17 h => ?_) (fun c17 h => ?_)
        · refine pj_swI (nI 57) (110) 158 C dd_Reader_tokenOf_48 c17 (by decide) ?_
          refine pj_iconst (v := (nI 2)) C dd_Reader_tokenOf_158 rfl ?_
          exact pj_iret C Q P h dd_Reader_tokenOf_159
        refine pj_sw h (fun c18 h => ?_) (fun c18 h => ?_)
        · refine pj_swI (nI 58) (110) 158 C dd_Reader_tokenOf_48 c18 (by decide) ?_
          refine pj_iconst (v := (nI 2)) C dd_Reader_tokenOf_158 rfl ?_
          exact pj_iret C Q P h dd_Reader_tokenOf_159
        refine pj_sw h (fun c19 h => ?_) (fun c19 h => ?_)
        · refine pj_swI (nI 59) (108) 156 C dd_Reader_tokenOf_48 c19 (by decide) ?_
          refine pj_iload_n C dd_Reader_tokenOf_156 rfl hl 0 rfl ?_
          exact pj_iret C Q P h dd_Reader_tokenOf_157
        refine pj_sw h (fun c20 h => ?_) (fun c20 h => ?_)
        · refine pj_swI (nI 60) (108) 156 C dd_Reader_tokenOf_48 c20 (by decide) ?_
          refine pj_iload_n C dd_Reader_tokenOf_156 rfl hl 0 rfl ?_
          exact pj_iret C Q P h dd_Reader_tokenOf_157
        refine pj_sw h (fun c21 h => ?_) (fun c21 h => ?_)
        · refine pj_swI (nI 61) (108) 156 C dd_Reader_tokenOf_48 c21 (by decide) ?_
          refine pj_iload_n C dd_Reader_tokenOf_156 rfl hl 0 rfl ?_
          exact pj_iret C Q P h dd_Reader_tokenOf_157
        refine pj_sw h (fun c22 h => ?_) (fun c22 h => ?_)
        · refine pj_swI (nI 62) (108) 156 C dd_Reader_tokenOf_48 c22 (by decide) ?_
          refine pj_iload_n C dd_Reader_tokenOf_156 rfl hl 0 rfl ?_
          exact pj_iret C Q P h dd_Reader_tokenOf_157
        have u0 := pj_nI c0 (n := 40) (by decide)
        have u1 := pj_nI c1 (n := 41) (by decide)
        have u2 := pj_nI c2 (n := 42) (by decide)
        have u3 := pj_nI c3 (n := 43) (by decide)
        have u4 := pj_nI c4 (n := 44) (by decide)
        have u5 := pj_nI c5 (n := 45) (by decide)
        have u6 := pj_nI c6 (n := 46) (by decide)
        have u7 := pj_nI c7 (n := 47) (by decide)
        have u8 := pj_nI c8 (n := 48) (by decide)
        have u9 := pj_nI c9 (n := 49) (by decide)
        have u10 := pj_nI c10 (n := 50) (by decide)
        have u11 := pj_nI c11 (n := 51) (by decide)
        have u12 := pj_nI c12 (n := 52) (by decide)
        have u13 := pj_nI c13 (n := 53) (by decide)
        have u14 := pj_nI c14 (n := 54) (by decide)
        have u15 := pj_nI c15 (n := 55) (by decide)
        have u16 := pj_nI c16 (n := 56) (by decide)
        have u17 := pj_nI c17 (n := 57) (by decide)
        have u18 := pj_nI c18 (n := 58) (by decide)
        have u19 := pj_nI c19 (n := 59) (by decide)
        have u20 := pj_nI c20 (n := 60) (by decide)
        have u21 := pj_nI c21 (n := 61) (by decide)
        have u22 := pj_nI c22 (n := 62) (by decide)
        refine pj_swO 158 C dd_Reader_tokenOf_48 (by omega) (by decide) ?_
        refine pj_iconst (v := (nI 2)) C dd_Reader_tokenOf_158 rfl ?_
        exact pj_iret C Q P h dd_Reader_tokenOf_159
      · refine pj_iload_n C dd_Reader_tokenOf_34 rfl hl 3 rfl ?_
        refine pj_iload_n C dd_Reader_tokenOf_35 rfl hl 2 rfl ?_
        refine pj_isub C dd_Reader_tokenOf_36 ?_
        refine pj_iconst (v := (nI 4)) C dd_Reader_tokenOf_37 rfl ?_
        refine pj_ic_gt C h dd_Reader_tokenOf_38 (fun h => ?_) (fun h => ?_)
        · refine pj_iconst (v := (nI 2)) C dd_Reader_tokenOf_45 rfl ?_
          exact pj_iret C Q P h dd_Reader_tokenOf_46
        · refine pj_iconst (v := (nI 1)) C dd_Reader_tokenOf_41 rfl ?_
          refine pj_goto C dd_Reader_tokenOf_42 ?_
          exact pj_iret C Q P h dd_Reader_tokenOf_46
    · refine pj_aload_n C dd_Reader_tokenOf_20 rfl hl 1 rfl ?_
      refine pj_iload_n C dd_Reader_tokenOf_21 rfl hl 2 rfl ?_
      refine pj_iload_n C dd_Reader_tokenOf_22 rfl hl 3 rfl ?_
      obtain ⟨r12, z11, e10, h⟩ := pj_cE h
      refine pj_cSi (st := []) [.ref (B.2.1 4), .int v1, .int v2] C P (ct_Reader_wordOf hB e10) cl_Reader_85 rfl (by decide) (by decide) hl.1 (Nat.le_of_ble_eq_true rfl) dd_Reader_tokenOf_23 (fun H lo P => ?_)
      exact pj_iret C Q P h dd_Reader_tokenOf_26
  · refine pj_iconst (v := (nI 0)) C dd_Reader_tokenOf_11 rfl ?_
    exact pj_iret C Q P h dd_Reader_tokenOf_12
theorem dd_Tape_numberAt_0 : pj_d cX7_numberAt 0 (.iconst 0) 1 1 := ⟨by decide +kernel, rfl⟩
theorem dd_Tape_numberAt_1 : pj_d cX7_numberAt 1 (.istore_n 3) 1 2 := ⟨by decide +kernel, rfl⟩
theorem dd_Tape_numberAt_2 : pj_d cX7_numberAt 2 (.iload_n 1) 1 3 := ⟨by decide +kernel, rfl⟩
theorem dd_Tape_numberAt_3 : pj_d cX7_numberAt 3 (.istore 4) 2 5 := ⟨by decide +kernel, rfl⟩
theorem dd_Tape_numberAt_5 : pj_d cX7_numberAt 5 (.iload 4) 2 7 := ⟨by decide +kernel, rfl⟩
theorem dd_Tape_numberAt_7 : pj_d cX7_numberAt 7 (.iload_n 2) 1 8 := ⟨by decide +kernel, rfl⟩
theorem dd_Tape_numberAt_8 : pj_dj cX7_numberAt 8 (.if_icmp .ge 24) 24 11 32 := ⟨by decide +kernel, rfl, by decide⟩
theorem dd_Tape_numberAt_11 : pj_d cX7_numberAt 11 (.bipush 10) 2 13 := ⟨by decide +kernel, rfl⟩
theorem dd_Tape_numberAt_13 : pj_d cX7_numberAt 13 (.iload_n 3) 1 14 := ⟨by decide +kernel, rfl⟩
theorem dd_Tape_numberAt_14 : pj_d cX7_numberAt 14 (.imul) 1 15 := ⟨by decide +kernel, rfl⟩
theorem dd_Tape_numberAt_15 : pj_d cX7_numberAt 15 (.aload_n 0) 1 16 := ⟨by decide +kernel, rfl⟩
theorem dd_Tape_numberAt_16 : pj_d cX7_numberAt 16 (.iload 4) 2 18 := ⟨by decide +kernel, rfl⟩
theorem dd_Tape_numberAt_18 : pj_d cX7_numberAt 18 (.invokevirtual 19) 3 21 := ⟨by decide +kernel, rfl⟩
theorem dd_Tape_numberAt_21 : pj_d cX7_numberAt 21 (.iadd) 1 22 := ⟨by decide +kernel, rfl⟩
theorem dd_Tape_numberAt_22 : pj_d cX7_numberAt 22 (.bipush 48) 2 24 := ⟨by decide +kernel, rfl⟩
theorem dd_Tape_numberAt_24 : pj_d cX7_numberAt 24 (.isub) 1 25 := ⟨by decide +kernel, rfl⟩
theorem dd_Tape_numberAt_25 : pj_d cX7_numberAt 25 (.istore_n 3) 1 26 := ⟨by decide +kernel, rfl⟩
theorem dd_Tape_numberAt_26 : pj_d cX7_numberAt 26 (.iinc 4 1) 3 29 := ⟨by decide +kernel, rfl⟩
theorem dd_Tape_numberAt_29 : pj_dj cX7_numberAt 29 (.goto (-24)) (-24) 32 5 := ⟨by decide +kernel, rfl, by decide⟩
theorem dd_Tape_numberAt_32 : pj_d cX7_numberAt 32 (.iload_n 3) 1 33 := ⟨by decide +kernel, rfl⟩
theorem dd_Tape_numberAt_33 : pj_d cX7_numberAt 33 (.ireturn) 1 34 := ⟨by decide +kernel, rfl⟩
set_option maxHeartbeats 4000000 in
set_option maxRecDepth 100000 in
theorem bt_Tape_numberAt_5 {B : pj_B} {A : Nat → Prop} {K : pj_K} {r0 : Int32} {z0 : pj_S} (hB : B.2.2.2.1 = pj_LC) (C : pj_C B A K cX7_numberAt 5 RX7 2) (Q : pj_Qi B A K (some .int) r0 z0) (s5 : Int32 → Int32 → Int32 → pj_S → Option (Int32 × pj_S)) (k5 : ∀ (v2 : Int32) (v3 : Int32) (v4 : Int32) (z : pj_S) (H : Heap) (lo : List Loc) (ls : Array Slot), s5 v2 v3 v4 z = some (r0, z0) → pj_P B A K z H lo → lv_has ls 5 [(0, .ref (B.2.1 4)), (2, .int v2), (3, .int v3), (4, .int v4)] → pj_W K H lo 5 ls []) (v2 : Int32) (v3 : Int32) (v4 : Int32) (z : pj_S) (H : Heap) (lo : List Loc) (ls : Array Slot) (h : Tape_numberAt_5 s5 v2 v3 v4 z = some (r0, z0)) (P : pj_P B A K z H lo) (hl : lv_has ls 5 [(0, .ref (B.2.1 4)), (2, .int v2), (3, .int v3), (4, .int v4)]) : pj_W K H lo 5 ls [] := by
  unfold Tape_numberAt_5 at h
  refine pj_iload C dd_Tape_numberAt_5 hl 3 rfl ?_
  refine pj_iload_n C dd_Tape_numberAt_7 rfl hl 1 rfl ?_
  refine pj_ic_ge C h dd_Tape_numberAt_8 (fun h => ?_) (fun h => ?_)
  · refine pj_iload_n C dd_Tape_numberAt_32 rfl hl 2 rfl ?_
    exact pj_iret C Q P h dd_Tape_numberAt_33
  · refine pj_bipush (v := (nI 10)) C dd_Tape_numberAt_11 rfl ?_
    refine pj_iload_n C dd_Tape_numberAt_13 rfl hl 2 rfl ?_
    refine pj_imul C dd_Tape_numberAt_14 ?_
    refine pj_aload_n C dd_Tape_numberAt_15 rfl hl 0 rfl ?_
    refine pj_iload C dd_Tape_numberAt_16 hl 3 rfl ?_
    obtain ⟨r3, z2, e1, h⟩ := pj_cE h
    refine pj_cVi (st := [.int ((nI 10) * v3)]) [.int v4] C P 4 (LC4 hB) rfl (ct_Tape_signAt hB e1) cl_Tape_19 rfl (by decide) (by decide) hl.1 (Nat.le_of_ble_eq_true rfl) dd_Tape_numberAt_18 (fun H lo P => ?_)
    refine pj_iadd C dd_Tape_numberAt_21 ?_
    refine pj_bipush (v := (nI 48)) C dd_Tape_numberAt_22 rfl ?_
    refine pj_isub C dd_Tape_numberAt_24 ?_
    refine pj_istb_n [(0, .ref (B.2.1 4)), (2, .int v2), (4, .int v4)] C h dd_Tape_numberAt_25 rfl hl (by decide) rfl (fun x4 ls h hl => ?_)
    refine pj_iinc (v := (nI 1)) [(3, .int x4), (0, .ref (B.2.1 4)), (2, .int v2)] C h rfl dd_Tape_numberAt_26 hl 3 rfl (by decide) rfl (fun x5 ls h hl => ?_)
    refine pj_goto C dd_Tape_numberAt_29 ?_
    exact k5 _ _ _ _ _ _ _ h P (lv_sub hl [2, 3, 1, 0] rfl)
theorem lt_Tape_numberAt_5 {B : pj_B} {A : Nat → Prop} {K : pj_K} {r0 : Int32} {z0 : pj_S} (hB : B.2.2.2.1 = pj_LC) (C : pj_C B A K cX7_numberAt 5 RX7 2) (Q : pj_Qi B A K (some .int) r0 z0)  : ∀ (n : Nat) (v2 : Int32) (v3 : Int32) (v4 : Int32) (z : pj_S) (H : Heap) (lo : List Loc) (ls : Array Slot), pj_lp3 Tape_numberAt_5 n v2 v3 v4 z = some (r0, z0) → pj_P B A K z H lo → lv_has ls 5 [(0, .ref (B.2.1 4)), (2, .int v2), (3, .int v3), (4, .int v4)] → pj_W K H lo 5 ls [] := by
  intro n
  induction n with
  | zero => intro v2 v3 v4 z H lo ls h; rw [pj_lp3_0] at h; cases h
  | succ n ih =>
    intro v2 v3 v4 z H lo ls h P hl
    rw [pj_lp3_s] at h
    exact bt_Tape_numberAt_5 hB C Q   (pj_lp3 Tape_numberAt_5 n) ih v2 v3 v4 z H lo ls h P hl
set_option maxHeartbeats 4000000 in
set_option maxRecDepth 100000 in
theorem ct_Tape_numberAt {l : Launch} {B : pj_B} (hB : B.2.2.2.1 = pj_LC) {v1 : Int32} {v2 : Int32} {z : pj_S} {r0 : Int32} {z0 : pj_S} (h : Tape_numberAt v1 v2 z = some (r0, z0)) : pj_Mi l yX7_numberAt cX7_numberAt 5 (some .int) 2 [.ref (B.2.1 4), .int v1, .int v2] B z r0 z0 := by
  refine pj_meti (own := RX7) (by decide +kernel) rfl (Nat.le_of_ble_eq_true rfl) ?_
  intro A K hK C Q H lo ls P hl
  have hl : lv_has ls 5 [(0, .ref (B.2.1 4)), (1, .int v1), (2, .int v2)] := hl
  unfold Tape_numberAt at h
  refine pj_iconst (v := (nI 0)) C dd_Tape_numberAt_0 rfl ?_
  refine pj_istore_n [(3, .int (nI 0)), (0, .ref (B.2.1 4)), (1, .int v1), (2, .int v2)] C dd_Tape_numberAt_1 rfl hl (by decide) rfl (fun ls hl => ?_)
  refine pj_iload_n C dd_Tape_numberAt_2 rfl hl 2 rfl ?_
  refine pj_istore [(4, .int v1), (3, .int (nI 0)), (0, .ref (B.2.1 4)), (1, .int v1), (2, .int v2)] C dd_Tape_numberAt_3 hl (by decide) rfl (fun ls hl => ?_)
  exact lt_Tape_numberAt_5 hB C Q 4000 _ _ _ _ _ _ _ h P (lv_sub hl [2, 4, 1, 0] rfl)
theorem dd_Reader_scan_0 : pj_d cX3_scan 0 (.aload_n 0) 1 1 := ⟨by decide +kernel, rfl⟩
theorem dd_Reader_scan_1 : pj_d cX3_scan 1 (.iconst 0) 1 2 := ⟨by decide +kernel, rfl⟩
theorem dd_Reader_scan_2 : pj_d cX3_scan 2 (.putfield 58) 3 5 := ⟨by decide +kernel, rfl⟩
theorem dd_Reader_scan_5 : pj_d cX3_scan 5 (.iconst 0) 1 6 := ⟨by decide +kernel, rfl⟩
theorem dd_Reader_scan_6 : pj_d cX3_scan 6 (.istore_n 2) 1 7 := ⟨by decide +kernel, rfl⟩
theorem dd_Reader_scan_7 : pj_d cX3_scan 7 (.iconst 1) 1 8 := ⟨by decide +kernel, rfl⟩
theorem dd_Reader_scan_8 : pj_d cX3_scan 8 (.istore_n 3) 1 9 := ⟨by decide +kernel, rfl⟩
theorem dd_Reader_scan_9 : pj_d cX3_scan 9 (.iconst 0) 1 10 := ⟨by decide +kernel, rfl⟩
theorem dd_Reader_scan_10 : pj_d cX3_scan 10 (.istore 4) 2 12 := ⟨by decide +kernel, rfl⟩
theorem dd_Reader_scan_12 : pj_d cX3_scan 12 (.iload 4) 2 14 := ⟨by decide +kernel, rfl⟩
theorem dd_Reader_scan_14 : pj_d cX3_scan 14 (.sipush 400) 3 17 := ⟨by decide +kernel, rfl⟩
theorem dd_Reader_scan_17 : pj_dj cX3_scan 17 (.if_icmp .gt 109) 109 20 126 := ⟨by decide +kernel, rfl, by decide⟩
theorem dd_Reader_scan_20 : pj_d cX3_scan 20 (.iload_n 3) 1 21 := ⟨by decide +kernel, rfl⟩
theorem dd_Reader_scan_21 : pj_dj cX3_scan 21 (.ifCond .eq 105) 105 24 126 := ⟨by decide +kernel, rfl, by decide⟩
theorem dd_Reader_scan_24 : pj_d cX3_scan 24 (.iload_n 3) 1 25 := ⟨by decide +kernel, rfl⟩
theorem dd_Reader_scan_25 : pj_d cX3_scan 25 (.iconst 2) 1 26 := ⟨by decide +kernel, rfl⟩
theorem dd_Reader_scan_26 : pj_dj cX3_scan 26 (.if_icmp .eq 100) 100 29 126 := ⟨by decide +kernel, rfl, by decide⟩
theorem dd_Reader_scan_29 : pj_d cX3_scan 29 (.aload_n 1) 1 30 := ⟨by decide +kernel, rfl⟩
theorem dd_Reader_scan_30 : pj_d cX3_scan 30 (.iload_n 2) 1 31 := ⟨by decide +kernel, rfl⟩
theorem dd_Reader_scan_31 : pj_d cX3_scan 31 (.invokevirtual 61) 3 34 := ⟨by decide +kernel, rfl⟩
theorem dd_Reader_scan_34 : pj_d cX3_scan 34 (.istore_n 2) 1 35 := ⟨by decide +kernel, rfl⟩
theorem dd_Reader_scan_35 : pj_d cX3_scan 35 (.aload_n 1) 1 36 := ⟨by decide +kernel, rfl⟩
theorem dd_Reader_scan_36 : pj_d cX3_scan 36 (.iload_n 2) 1 37 := ⟨by decide +kernel, rfl⟩
theorem dd_Reader_scan_37 : pj_d cX3_scan 37 (.invokevirtual 67) 3 40 := ⟨by decide +kernel, rfl⟩
theorem dd_Reader_scan_40 : pj_d cX3_scan 40 (.istore 5) 2 42 := ⟨by decide +kernel, rfl⟩
theorem dd_Reader_scan_42 : pj_d cX3_scan 42 (.aload_n 1) 1 43 := ⟨by decide +kernel, rfl⟩
theorem dd_Reader_scan_43 : pj_d cX3_scan 43 (.iload_n 2) 1 44 := ⟨by decide +kernel, rfl⟩
theorem dd_Reader_scan_44 : pj_d cX3_scan 44 (.iload 5) 2 46 := ⟨by decide +kernel, rfl⟩
theorem dd_Reader_scan_46 : pj_d cX3_scan 46 (.invokestatic 70) 3 49 := ⟨by decide +kernel, rfl⟩
theorem dd_Reader_scan_49 : pj_d cX3_scan 49 (.istore_n 3) 1 50 := ⟨by decide +kernel, rfl⟩
theorem dd_Reader_scan_50 : pj_d cX3_scan 50 (.aload_n 0) 1 51 := ⟨by decide +kernel, rfl⟩
theorem dd_Reader_scan_51 : pj_d cX3_scan 51 (.getfield 58) 3 54 := ⟨by decide +kernel, rfl⟩
theorem dd_Reader_scan_54 : pj_d cX3_scan 54 (.aload_n 0) 1 55 := ⟨by decide +kernel, rfl⟩
theorem dd_Reader_scan_55 : pj_d cX3_scan 55 (.getfield 9) 3 58 := ⟨by decide +kernel, rfl⟩
theorem dd_Reader_scan_58 : pj_d cX3_scan 58 (.arraylength) 1 59 := ⟨by decide +kernel, rfl⟩
theorem dd_Reader_scan_59 : pj_dj cX3_scan 59 (.if_icmp .ge 58) 58 62 117 := ⟨by decide +kernel, rfl, by decide⟩
theorem dd_Reader_scan_62 : pj_d cX3_scan 62 (.aload_n 0) 1 63 := ⟨by decide +kernel, rfl⟩
theorem dd_Reader_scan_63 : pj_d cX3_scan 63 (.getfield 9) 3 66 := ⟨by decide +kernel, rfl⟩
theorem dd_Reader_scan_66 : pj_d cX3_scan 66 (.aload_n 0) 1 67 := ⟨by decide +kernel, rfl⟩
theorem dd_Reader_scan_67 : pj_d cX3_scan 67 (.getfield 58) 3 70 := ⟨by decide +kernel, rfl⟩
theorem dd_Reader_scan_70 : pj_d cX3_scan 70 (.iload_n 3) 1 71 := ⟨by decide +kernel, rfl⟩
theorem dd_Reader_scan_71 : pj_d cX3_scan 71 (.iastore) 1 72 := ⟨by decide +kernel, rfl⟩
theorem dd_Reader_scan_72 : pj_d cX3_scan 72 (.aload_n 0) 1 73 := ⟨by decide +kernel, rfl⟩
theorem dd_Reader_scan_73 : pj_d cX3_scan 73 (.getfield 15) 3 76 := ⟨by decide +kernel, rfl⟩
theorem dd_Reader_scan_76 : pj_d cX3_scan 76 (.aload_n 0) 1 77 := ⟨by decide +kernel, rfl⟩
theorem dd_Reader_scan_77 : pj_d cX3_scan 77 (.getfield 58) 3 80 := ⟨by decide +kernel, rfl⟩
theorem dd_Reader_scan_80 : pj_d cX3_scan 80 (.iload_n 2) 1 81 := ⟨by decide +kernel, rfl⟩
theorem dd_Reader_scan_81 : pj_d cX3_scan 81 (.iastore) 1 82 := ⟨by decide +kernel, rfl⟩
theorem dd_Reader_scan_82 : pj_d cX3_scan 82 (.aload_n 0) 1 83 := ⟨by decide +kernel, rfl⟩
theorem dd_Reader_scan_83 : pj_d cX3_scan 83 (.getfield 18) 3 86 := ⟨by decide +kernel, rfl⟩
theorem dd_Reader_scan_86 : pj_d cX3_scan 86 (.aload_n 0) 1 87 := ⟨by decide +kernel, rfl⟩
theorem dd_Reader_scan_87 : pj_d cX3_scan 87 (.getfield 58) 3 90 := ⟨by decide +kernel, rfl⟩
theorem dd_Reader_scan_90 : pj_d cX3_scan 90 (.iload_n 3) 1 91 := ⟨by decide +kernel, rfl⟩
theorem dd_Reader_scan_91 : pj_d cX3_scan 91 (.iconst 1) 1 92 := ⟨by decide +kernel, rfl⟩
theorem dd_Reader_scan_92 : pj_dj cX3_scan 92 (.if_icmp .ne 13) 13 95 105 := ⟨by decide +kernel, rfl, by decide⟩
theorem dd_Reader_scan_95 : pj_d cX3_scan 95 (.aload_n 1) 1 96 := ⟨by decide +kernel, rfl⟩
theorem dd_Reader_scan_96 : pj_d cX3_scan 96 (.iload_n 2) 1 97 := ⟨by decide +kernel, rfl⟩
theorem dd_Reader_scan_97 : pj_d cX3_scan 97 (.iload 5) 2 99 := ⟨by decide +kernel, rfl⟩
theorem dd_Reader_scan_99 : pj_d cX3_scan 99 (.invokevirtual 74) 3 102 := ⟨by decide +kernel, rfl⟩
theorem dd_Reader_scan_102 : pj_dj cX3_scan 102 (.goto 4) 4 105 106 := ⟨by decide +kernel, rfl, by decide⟩
theorem dd_Reader_scan_105 : pj_d cX3_scan 105 (.iconst 0) 1 106 := ⟨by decide +kernel, rfl⟩
theorem dd_Reader_scan_106 : pj_d cX3_scan 106 (.iastore) 1 107 := ⟨by decide +kernel, rfl⟩
theorem dd_Reader_scan_107 : pj_d cX3_scan 107 (.aload_n 0) 1 108 := ⟨by decide +kernel, rfl⟩
theorem dd_Reader_scan_108 : pj_d cX3_scan 108 (.dup) 1 109 := ⟨by decide +kernel, rfl⟩
theorem dd_Reader_scan_109 : pj_d cX3_scan 109 (.getfield 58) 3 112 := ⟨by decide +kernel, rfl⟩
theorem dd_Reader_scan_112 : pj_d cX3_scan 112 (.iconst 1) 1 113 := ⟨by decide +kernel, rfl⟩
theorem dd_Reader_scan_113 : pj_d cX3_scan 113 (.iadd) 1 114 := ⟨by decide +kernel, rfl⟩
theorem dd_Reader_scan_114 : pj_d cX3_scan 114 (.putfield 58) 3 117 := ⟨by decide +kernel, rfl⟩
theorem dd_Reader_scan_117 : pj_d cX3_scan 117 (.iload 5) 2 119 := ⟨by decide +kernel, rfl⟩
theorem dd_Reader_scan_119 : pj_d cX3_scan 119 (.istore_n 2) 1 120 := ⟨by decide +kernel, rfl⟩
theorem dd_Reader_scan_120 : pj_d cX3_scan 120 (.iinc 4 1) 3 123 := ⟨by decide +kernel, rfl⟩
theorem dd_Reader_scan_123 : pj_dj cX3_scan 123 (.goto (-111)) (-111) 126 12 := ⟨by decide +kernel, rfl, by decide⟩
theorem dd_Reader_scan_126 : pj_d cX3_scan 126 (.return_) 1 127 := ⟨by decide +kernel, rfl⟩
set_option maxHeartbeats 4000000 in
set_option maxRecDepth 100000 in
theorem bt_Reader_scan_117 {B : pj_B} {A : Nat → Prop} {K : pj_K} {r0 : Unit} {z0 : pj_S} (hB : B.2.2.2.1 = pj_LC) (C : pj_C B A K cX3_scan 6 RX3 11) (Q : pj_Qv B A K none r0 z0) (s12 : Int32 → Int32 → Int32 → pj_S → Option (Unit × pj_S)) (k12 : ∀ (v2 : Int32) (v3 : Int32) (v4 : Int32) (z : pj_S) (H : Heap) (lo : List Loc) (ls : Array Slot), s12 v2 v3 v4 z = some (r0, z0) → pj_P B A K z H lo → lv_has ls 6 [(0, .ref (B.2.1 5)), (1, .ref (B.2.1 4)), (2, .int v2), (3, .int v3), (4, .int v4)] → pj_W K H lo 12 ls []) (v3 : Int32) (v4 : Int32) (v5 : Int32) (z : pj_S) (H : Heap) (lo : List Loc) (ls : Array Slot) (h : Reader_scan_117 s12 v3 v4 v5 z = some (r0, z0)) (P : pj_P B A K z H lo) (hl : lv_has ls 6 [(0, .ref (B.2.1 5)), (1, .ref (B.2.1 4)), (3, .int v3), (4, .int v4), (5, .int v5)]) : pj_W K H lo 117 ls [] := by
  unfold Reader_scan_117 at h
  refine pj_iload C dd_Reader_scan_117 hl 4 rfl ?_
  refine pj_istore_n [(2, .int v5), (0, .ref (B.2.1 5)), (1, .ref (B.2.1 4)), (3, .int v3), (4, .int v4), (5, .int v5)] C dd_Reader_scan_119 rfl hl (by decide) rfl (fun ls hl => ?_)
  refine pj_iinc (v := (nI 1)) [(2, .int v5), (0, .ref (B.2.1 5)), (1, .ref (B.2.1 4)), (3, .int v3), (5, .int v5)] C h rfl dd_Reader_scan_120 hl 4 rfl (by decide) rfl (fun x1 ls h hl => ?_)
  refine pj_goto C dd_Reader_scan_123 ?_
  exact k12 _ _ _ _ _ _ _ h P (lv_sub hl [2, 3, 1, 4, 0] rfl)
set_option maxHeartbeats 4000000 in
set_option maxRecDepth 100000 in
theorem bt_Reader_scan_106 {B : pj_B} {A : Nat → Prop} {K : pj_K} {r0 : Unit} {z0 : pj_S} (hB : B.2.2.2.1 = pj_LC) (C : pj_C B A K cX3_scan 6 RX3 11) (Q : pj_Qv B A K none r0 z0) (s12 : Int32 → Int32 → Int32 → pj_S → Option (Unit × pj_S)) (k12 : ∀ (v2 : Int32) (v3 : Int32) (v4 : Int32) (z : pj_S) (H : Heap) (lo : List Loc) (ls : Array Slot), s12 v2 v3 v4 z = some (r0, z0) → pj_P B A K z H lo → lv_has ls 6 [(0, .ref (B.2.1 5)), (1, .ref (B.2.1 4)), (2, .int v2), (3, .int v3), (4, .int v4)] → pj_W K H lo 12 ls []) (v3 : Int32) (v4 : Int32) (v5 : Int32) (t0 : Int32) (t1 : Int32) (z : pj_S) (H : Heap) (lo : List Loc) (ls : Array Slot) (h : Reader_scan_106 s12 v3 v4 v5 t0 t1 z = some (r0, z0)) (P : pj_P B A K z H lo) (hl : lv_has ls 6 [(0, .ref (B.2.1 5)), (1, .ref (B.2.1 4)), (3, .int v3), (4, .int v4), (5, .int v5)]) : pj_W K H lo 106 ls [.int t0, .int t1, .ref (B.2.1 26)] := by
  unfold Reader_scan_106 at h
  refine pj_iast C P 26 (LC26 hB) h dd_Reader_scan_106 (fun H lo z1 h P => ?_)
  refine pj_aload_n C dd_Reader_scan_107 rfl hl 0 rfl ?_
  refine pj_dup C dd_Reader_scan_108 rfl ?_
  refine pj_getI C P 5 (LC5 hB) rfl fl_Reader_58 dd_Reader_scan_109 ?_
  refine pj_iconst (v := (nI 1)) C dd_Reader_scan_112 rfl ?_
  refine pj_iadd C dd_Reader_scan_113 ?_
  refine pj_putI C P 5 (LC5 hB) rfl fl_Reader_58 rfl fy_3_4 h dd_Reader_scan_114 (fun H lo z2 h P => ?_)
  exact bt_Reader_scan_117 hB C Q s12 k12 _ _ _ _ _ _ _ h P (lv_sub hl [0, 1, 2, 3, 4] rfl)
set_option maxHeartbeats 4000000 in
set_option maxRecDepth 100000 in
theorem bt_Reader_scan_12 {B : pj_B} {A : Nat → Prop} {K : pj_K} {r0 : Unit} {z0 : pj_S} (hB : B.2.2.2.1 = pj_LC) (C : pj_C B A K cX3_scan 6 RX3 11) (Q : pj_Qv B A K none r0 z0) (s12 : Int32 → Int32 → Int32 → pj_S → Option (Unit × pj_S)) (k12 : ∀ (v2 : Int32) (v3 : Int32) (v4 : Int32) (z : pj_S) (H : Heap) (lo : List Loc) (ls : Array Slot), s12 v2 v3 v4 z = some (r0, z0) → pj_P B A K z H lo → lv_has ls 6 [(0, .ref (B.2.1 5)), (1, .ref (B.2.1 4)), (2, .int v2), (3, .int v3), (4, .int v4)] → pj_W K H lo 12 ls []) (v2 : Int32) (v3 : Int32) (v4 : Int32) (z : pj_S) (H : Heap) (lo : List Loc) (ls : Array Slot) (h : Reader_scan_12 s12 v2 v3 v4 z = some (r0, z0)) (P : pj_P B A K z H lo) (hl : lv_has ls 6 [(0, .ref (B.2.1 5)), (1, .ref (B.2.1 4)), (2, .int v2), (3, .int v3), (4, .int v4)]) : pj_W K H lo 12 ls [] := by
  unfold Reader_scan_12 at h
  refine pj_iload C dd_Reader_scan_12 hl 4 rfl ?_
  refine pj_sipush (v := (nI 400)) C dd_Reader_scan_14 rfl ?_
  refine pj_ic_gt C h dd_Reader_scan_17 (fun h => ?_) (fun h => ?_)
  · exact pj_vret C Q P h dd_Reader_scan_126
  · refine pj_iload_n C dd_Reader_scan_20 rfl hl 3 rfl ?_
    refine pj_if_eq C h dd_Reader_scan_21 (fun h => ?_) (fun h => ?_)
    · exact pj_vret C Q P h dd_Reader_scan_126
    · refine pj_iload_n C dd_Reader_scan_24 rfl hl 3 rfl ?_
      refine pj_iconst (v := (nI 2)) C dd_Reader_scan_25 rfl ?_
      refine pj_ic_eq C h dd_Reader_scan_26 (fun h => ?_) (fun h => ?_)
      · exact pj_vret C Q P h dd_Reader_scan_126
      · refine pj_aload_n C dd_Reader_scan_29 rfl hl 1 rfl ?_
        refine pj_iload_n C dd_Reader_scan_30 rfl hl 2 rfl ?_
        obtain ⟨r3, z2, e1, h⟩ := pj_cE h
        refine pj_cVi (st := []) [.int v2] C P 4 (LC4 hB) rfl (ct_Tape_behindBlanks hB e1) cl_Reader_61 rfl (by decide) (by decide) hl.1 (Nat.le_of_ble_eq_true rfl) dd_Reader_scan_31 (fun H lo P => ?_)
        refine pj_istore_n [(2, .int r3), (0, .ref (B.2.1 5)), (1, .ref (B.2.1 4)), (3, .int v3), (4, .int v4)] C dd_Reader_scan_34 rfl hl (by decide) rfl (fun ls hl => ?_)
        refine pj_aload_n C dd_Reader_scan_35 rfl hl 2 rfl ?_
        refine pj_iload_n C dd_Reader_scan_36 rfl hl 0 rfl ?_
        obtain ⟨r6, z5, e4, h⟩ := pj_cE h
        refine pj_cVi (st := []) [.int r3] C P 4 (LC4 hB) rfl (ct_Tape_behindToken hB e4) cl_Reader_67 rfl (by decide) (by decide) hl.1 (Nat.le_of_ble_eq_true rfl) dd_Reader_scan_37 (fun H lo P => ?_)
        refine pj_istore [(5, .int r6), (2, .int r3), (0, .ref (B.2.1 5)), (1, .ref (B.2.1 4)), (3, .int v3), (4, .int v4)] C dd_Reader_scan_40 hl (by decide) rfl (fun ls hl => ?_)
        refine pj_aload_n C dd_Reader_scan_42 rfl hl 3 rfl ?_
        refine pj_iload_n C dd_Reader_scan_43 rfl hl 1 rfl ?_
        refine pj_iload C dd_Reader_scan_44 hl 0 rfl ?_
        obtain ⟨r9, z8, e7, h⟩ := pj_cE h
        refine pj_cSi (st := []) [.ref (B.2.1 4), .int r3, .int r6] C P (ct_Reader_tokenOf hB e7) cl_Reader_70 rfl (by decide) (by decide) hl.1 (Nat.le_of_ble_eq_true rfl) dd_Reader_scan_46 (fun H lo P => ?_)
        refine pj_istore_n [(3, .int r9), (5, .int r6), (2, .int r3), (0, .ref (B.2.1 5)), (1, .ref (B.2.1 4)), (4, .int v4)] C dd_Reader_scan_49 rfl hl (by decide) rfl (fun ls hl => ?_)
        refine pj_aload_n C dd_Reader_scan_50 rfl hl 3 rfl ?_
        refine pj_getI C P 5 (LC5 hB) rfl fl_Reader_58 dd_Reader_scan_51 ?_
        refine pj_aload_n C dd_Reader_scan_54 rfl hl 3 rfl ?_
        refine pj_getR C P 5 (LC5 hB) rfl fl_Reader_9 dd_Reader_scan_55 ?_
        refine pj_alen (nI 401) C P 24 (LC24 hB) (by decide) (by decide) dd_Reader_scan_58 ?_
        refine pj_ic_ge C h dd_Reader_scan_59 (fun h => ?_) (fun h => ?_)
        · exact bt_Reader_scan_117 hB C Q s12 k12 _ _ _ _ _ _ _ h P (lv_sub hl [3, 4, 0, 5, 1] rfl)
        · refine pj_aload_n C dd_Reader_scan_62 rfl hl 3 rfl ?_
          refine pj_getR C P 5 (LC5 hB) rfl fl_Reader_9 dd_Reader_scan_63 ?_
          refine pj_aload_n C dd_Reader_scan_66 rfl hl 3 rfl ?_
          refine pj_getI C P 5 (LC5 hB) rfl fl_Reader_58 dd_Reader_scan_67 ?_
          refine pj_iload_n C dd_Reader_scan_70 rfl hl 0 rfl ?_
          refine pj_iast C P 24 (LC24 hB) h dd_Reader_scan_71 (fun H lo z10 h P => ?_)
          refine pj_aload_n C dd_Reader_scan_72 rfl hl 3 rfl ?_
          refine pj_getR C P 5 (LC5 hB) rfl fl_Reader_15 dd_Reader_scan_73 ?_
          refine pj_aload_n C dd_Reader_scan_76 rfl hl 3 rfl ?_
          refine pj_getI C P 5 (LC5 hB) rfl fl_Reader_58 dd_Reader_scan_77 ?_
          refine pj_iload_n C dd_Reader_scan_80 rfl hl 2 rfl ?_
          refine pj_iast C P 25 (LC25 hB) h dd_Reader_scan_81 (fun H lo z11 h P => ?_)
          refine pj_aload_n C dd_Reader_scan_82 rfl hl 3 rfl ?_
          refine pj_getR C P 5 (LC5 hB) rfl fl_Reader_18 dd_Reader_scan_83 ?_
          refine pj_aload_n C dd_Reader_scan_86 rfl hl 3 rfl ?_
          refine pj_getI C P 5 (LC5 hB) rfl fl_Reader_58 dd_Reader_scan_87 ?_
          refine pj_iload_n C dd_Reader_scan_90 rfl hl 0 rfl ?_
          refine pj_iconst (v := (nI 1)) C dd_Reader_scan_91 rfl ?_
          refine pj_ic_ne C h dd_Reader_scan_92 (fun h => ?_) (fun h => ?_)
          · refine pj_iconst (v := (nI 0)) C dd_Reader_scan_105 rfl ?_
            exact bt_Reader_scan_106 hB C Q s12 k12 _ _ _ _ _ _ _ _ _ h P (lv_sub hl [3, 4, 0, 5, 1] rfl)
          · refine pj_aload_n C dd_Reader_scan_95 rfl hl 4 rfl ?_
            refine pj_iload_n C dd_Reader_scan_96 rfl hl 2 rfl ?_
            refine pj_iload C dd_Reader_scan_97 hl 1 rfl ?_
            obtain ⟨r14, z13, e12, h⟩ := pj_cE h
            refine pj_cVi (st := [.int (z11.1 5 4), .ref (B.2.1 26)]) [.int r3, .int r6] C P 4 (LC4 hB) rfl (ct_Tape_numberAt hB e12) cl_Reader_74 rfl (by decide) (by decide) hl.1 (Nat.le_of_ble_eq_true rfl) dd_Reader_scan_99 (fun H lo P => ?_)
            refine pj_goto C dd_Reader_scan_102 ?_
            exact bt_Reader_scan_106 hB C Q s12 k12 _ _ _ _ _ _ _ _ _ h P (lv_sub hl [3, 4, 0, 5, 1] rfl)
theorem lt_Reader_scan_12 {B : pj_B} {A : Nat → Prop} {K : pj_K} {r0 : Unit} {z0 : pj_S} (hB : B.2.2.2.1 = pj_LC) (C : pj_C B A K cX3_scan 6 RX3 11) (Q : pj_Qv B A K none r0 z0)  : ∀ (n : Nat) (v2 : Int32) (v3 : Int32) (v4 : Int32) (z : pj_S) (H : Heap) (lo : List Loc) (ls : Array Slot), pj_lp3 Reader_scan_12 n v2 v3 v4 z = some (r0, z0) → pj_P B A K z H lo → lv_has ls 6 [(0, .ref (B.2.1 5)), (1, .ref (B.2.1 4)), (2, .int v2), (3, .int v3), (4, .int v4)] → pj_W K H lo 12 ls [] := by
  intro n
  induction n with
  | zero => intro v2 v3 v4 z H lo ls h; rw [pj_lp3_0] at h; cases h
  | succ n ih =>
    intro v2 v3 v4 z H lo ls h P hl
    rw [pj_lp3_s] at h
    exact bt_Reader_scan_12 hB C Q   (pj_lp3 Reader_scan_12 n) ih v2 v3 v4 z H lo ls h P hl
set_option maxHeartbeats 4000000 in
set_option maxRecDepth 100000 in
theorem ct_Reader_scan {l : Launch} {B : pj_B} (hB : B.2.2.2.1 = pj_LC)  {z : pj_S} {r0 : Unit} {z0 : pj_S} (h : Reader_scan z = some (r0, z0)) : pj_Mv l yX3_scan cX3_scan 6 none 11 [.ref (B.2.1 5), .ref (B.2.1 4)] B z r0 z0 := by
  refine pj_metv (own := RX3) (by decide +kernel) rfl (Nat.le_of_ble_eq_true rfl) ?_
  intro A K hK C Q H lo ls P hl
  have hl : lv_has ls 6 [(0, .ref (B.2.1 5)), (1, .ref (B.2.1 4))] := hl
  unfold Reader_scan at h
  refine pj_aload_n C dd_Reader_scan_0 rfl hl 0 rfl ?_
  refine pj_iconst (v := (nI 0)) C dd_Reader_scan_1 rfl ?_
  refine pj_putI C P 5 (LC5 hB) rfl fl_Reader_58 rfl fy_3_4 h dd_Reader_scan_2 (fun H lo z1 h P => ?_)
  refine pj_iconst (v := (nI 0)) C dd_Reader_scan_5 rfl ?_
  refine pj_istore_n [(2, .int (nI 0)), (0, .ref (B.2.1 5)), (1, .ref (B.2.1 4))] C dd_Reader_scan_6 rfl hl (by decide) rfl (fun ls hl => ?_)
  refine pj_iconst (v := (nI 1)) C dd_Reader_scan_7 rfl ?_
  refine pj_istore_n [(3, .int (nI 1)), (2, .int (nI 0)), (0, .ref (B.2.1 5)), (1, .ref (B.2.1 4))] C dd_Reader_scan_8 rfl hl (by decide) rfl (fun ls hl => ?_)
  refine pj_iconst (v := (nI 0)) C dd_Reader_scan_9 rfl ?_
  refine pj_istore [(4, .int (nI 0)), (3, .int (nI 1)), (2, .int (nI 0)), (0, .ref (B.2.1 5)), (1, .ref (B.2.1 4))] C dd_Reader_scan_10 hl (by decide) rfl (fun ls hl => ?_)
  exact lt_Reader_scan_12 hB C Q 4000 _ _ _ _ _ _ _ h P (lv_sub hl [3, 4, 2, 1, 0] rfl)
