theorem dd_Fabric_hasThreadBetween_0 : pj_d cX1_hasThreadBetween 0 (.iload_n 1) 1 1 := ⟨by decide +kernel, rfl⟩
theorem dd_Fabric_hasThreadBetween_1 : pj_dj cX1_hasThreadBetween 1 (.ifCond .lt 42) 42 4 43 := ⟨by decide +kernel, rfl, by decide⟩
theorem dd_Fabric_hasThreadBetween_4 : pj_d cX1_hasThreadBetween 4 (.iload_n 2) 1 5 := ⟨by decide +kernel, rfl⟩
theorem dd_Fabric_hasThreadBetween_5 : pj_dj cX1_hasThreadBetween 5 (.ifCond .lt 38) 38 8 43 := ⟨by decide +kernel, rfl, by decide⟩
theorem dd_Fabric_hasThreadBetween_8 : pj_d cX1_hasThreadBetween 8 (.iload_n 1) 1 9 := ⟨by decide +kernel, rfl⟩
theorem dd_Fabric_hasThreadBetween_9 : pj_d cX1_hasThreadBetween 9 (.aload_n 0) 1 10 := ⟨by decide +kernel, rfl⟩
theorem dd_Fabric_hasThreadBetween_10 : pj_d cX1_hasThreadBetween 10 (.invokevirtual 73) 3 13 := ⟨by decide +kernel, rfl⟩
theorem dd_Fabric_hasThreadBetween_13 : pj_dj cX1_hasThreadBetween 13 (.if_icmp .ge 30) 30 16 43 := ⟨by decide +kernel, rfl, by decide⟩
theorem dd_Fabric_hasThreadBetween_16 : pj_d cX1_hasThreadBetween 16 (.iload_n 2) 1 17 := ⟨by decide +kernel, rfl⟩
theorem dd_Fabric_hasThreadBetween_17 : pj_d cX1_hasThreadBetween 17 (.aload_n 0) 1 18 := ⟨by decide +kernel, rfl⟩
theorem dd_Fabric_hasThreadBetween_18 : pj_d cX1_hasThreadBetween 18 (.invokevirtual 73) 3 21 := ⟨by decide +kernel, rfl⟩
theorem dd_Fabric_hasThreadBetween_21 : pj_dj cX1_hasThreadBetween 21 (.if_icmp .ge 22) 22 24 43 := ⟨by decide +kernel, rfl, by decide⟩
theorem dd_Fabric_hasThreadBetween_24 : pj_d cX1_hasThreadBetween 24 (.aload_n 0) 1 25 := ⟨by decide +kernel, rfl⟩
theorem dd_Fabric_hasThreadBetween_25 : pj_d cX1_hasThreadBetween 25 (.getfield 45) 3 28 := ⟨by decide +kernel, rfl⟩
theorem dd_Fabric_hasThreadBetween_28 : pj_d cX1_hasThreadBetween 28 (.iload_n 1) 1 29 := ⟨by decide +kernel, rfl⟩
theorem dd_Fabric_hasThreadBetween_29 : pj_d cX1_hasThreadBetween 29 (.iload_n 2) 1 30 := ⟨by decide +kernel, rfl⟩
theorem dd_Fabric_hasThreadBetween_30 : pj_d cX1_hasThreadBetween 30 (.invokestatic 77) 3 33 := ⟨by decide +kernel, rfl⟩
theorem dd_Fabric_hasThreadBetween_33 : pj_d cX1_hasThreadBetween 33 (.invokestatic 48) 3 36 := ⟨by decide +kernel, rfl⟩
theorem dd_Fabric_hasThreadBetween_36 : pj_dj cX1_hasThreadBetween 36 (.ifCond .ne 7) 7 39 43 := ⟨by decide +kernel, rfl, by decide⟩
theorem dd_Fabric_hasThreadBetween_39 : pj_d cX1_hasThreadBetween 39 (.iconst 1) 1 40 := ⟨by decide +kernel, rfl⟩
theorem dd_Fabric_hasThreadBetween_40 : pj_dj cX1_hasThreadBetween 40 (.goto 4) 4 43 44 := ⟨by decide +kernel, rfl, by decide⟩
theorem dd_Fabric_hasThreadBetween_43 : pj_d cX1_hasThreadBetween 43 (.iconst 0) 1 44 := ⟨by decide +kernel, rfl⟩
theorem dd_Fabric_hasThreadBetween_44 : pj_d cX1_hasThreadBetween 44 (.ireturn) 1 45 := ⟨by decide +kernel, rfl⟩
set_option maxHeartbeats 4000000 in
set_option maxRecDepth 100000 in
theorem ct_Fabric_hasThreadBetween {l : Launch} {B : pj_B} (hB : B.2.2.2.1 = pj_LC) {v1 : Int32} {v2 : Int32} {z : pj_S} {r0 : Int32} {z0 : pj_S} (h : Fabric_hasThreadBetween v1 v2 z = some (r0, z0)) : pj_Mi l yX1_hasThreadBetween cX1_hasThreadBetween 3 (some .boolean) 2 [.ref (B.2.1 8), .int v1, .int v2] B z r0 z0 := by
  refine pj_meti (own := RX1) (by decide +kernel) rfl (Nat.le_of_ble_eq_true rfl) ?_
  intro A K hK C Q H lo ls P hl
  have hl : lv_has ls 3 [(0, .ref (B.2.1 8)), (1, .int v1), (2, .int v2)] := hl
  unfold Fabric_hasThreadBetween at h
  refine pj_iload_n C dd_Fabric_hasThreadBetween_0 rfl hl 1 rfl ?_
  refine pj_if_lt C h dd_Fabric_hasThreadBetween_1 (fun h => ?_) (fun h => ?_)
  · refine pj_iconst (v := (nI 0)) C dd_Fabric_hasThreadBetween_43 rfl ?_
    exact pj_zret C Q P h dd_Fabric_hasThreadBetween_44
  · refine pj_iload_n C dd_Fabric_hasThreadBetween_4 rfl hl 2 rfl ?_
    refine pj_if_lt C h dd_Fabric_hasThreadBetween_5 (fun h => ?_) (fun h => ?_)
    · refine pj_iconst (v := (nI 0)) C dd_Fabric_hasThreadBetween_43 rfl ?_
      exact pj_zret C Q P h dd_Fabric_hasThreadBetween_44
    · refine pj_iload_n C dd_Fabric_hasThreadBetween_8 rfl hl 1 rfl ?_
      refine pj_aload_n C dd_Fabric_hasThreadBetween_9 rfl hl 0 rfl ?_
      obtain ⟨r3, z2, e1, h⟩ := pj_cE h
      refine pj_cVi (st := [.int v1]) [] C P 8 (LC8 hB) rfl (ct_Fabric_places hB e1) cl_Fabric_73 rfl (by decide) (by decide) hl.1 (Nat.le_of_ble_eq_true rfl) dd_Fabric_hasThreadBetween_10 (fun H lo P => ?_)
      refine pj_ic_ge C h dd_Fabric_hasThreadBetween_13 (fun h => ?_) (fun h => ?_)
      · refine pj_iconst (v := (nI 0)) C dd_Fabric_hasThreadBetween_43 rfl ?_
        exact pj_zret C Q P h dd_Fabric_hasThreadBetween_44
      · refine pj_iload_n C dd_Fabric_hasThreadBetween_16 rfl hl 2 rfl ?_
        refine pj_aload_n C dd_Fabric_hasThreadBetween_17 rfl hl 0 rfl ?_
        obtain ⟨r6, z5, e4, h⟩ := pj_cE h
        refine pj_cVi (st := [.int v2]) [] C P 8 (LC8 hB) rfl (ct_Fabric_places hB e4) cl_Fabric_73 rfl (by decide) (by decide) hl.1 (Nat.le_of_ble_eq_true rfl) dd_Fabric_hasThreadBetween_18 (fun H lo P => ?_)
        refine pj_ic_ge C h dd_Fabric_hasThreadBetween_21 (fun h => ?_) (fun h => ?_)
        · refine pj_iconst (v := (nI 0)) C dd_Fabric_hasThreadBetween_43 rfl ?_
          exact pj_zret C Q P h dd_Fabric_hasThreadBetween_44
        · refine pj_aload_n C dd_Fabric_hasThreadBetween_24 rfl hl 0 rfl ?_
          refine pj_getJ C P 8 (LC8 hB) rfl fl_Fabric_45 dd_Fabric_hasThreadBetween_25 ?_
          refine pj_iload_n C dd_Fabric_hasThreadBetween_28 rfl hl 1 rfl ?_
          refine pj_iload_n C dd_Fabric_hasThreadBetween_29 rfl hl 2 rfl ?_
          refine pj_mmin C cl_Fabric_77 (by decide) hl.1 (Nat.le_of_ble_eq_true rfl) dd_Fabric_hasThreadBetween_30 ?_
          obtain ⟨r9, z8, e7, h⟩ := pj_cE h
          refine pj_cNi (st := []) [.long (z5.2 8 9), .int (pj_min v1 v2)] C P (ct_PJ_bitOf hB e7) cl_Fabric_48 rfl (by decide) (by decide) hl.1 (Nat.le_of_ble_eq_true rfl) dd_Fabric_hasThreadBetween_33 (fun H lo P => ?_)
          refine pj_if_ne C h dd_Fabric_hasThreadBetween_36 (fun h => ?_) (fun h => ?_)
          · refine pj_iconst (v := (nI 0)) C dd_Fabric_hasThreadBetween_43 rfl ?_
            exact pj_zret C Q P h dd_Fabric_hasThreadBetween_44
          · refine pj_iconst (v := (nI 1)) C dd_Fabric_hasThreadBetween_39 rfl ?_
            refine pj_goto C dd_Fabric_hasThreadBetween_40 ?_
            exact pj_zret C Q P h dd_Fabric_hasThreadBetween_44
theorem dd_Fabric_stitchAt_0 : pj_d cX1_stitchAt 0 (.iload_n 1) 1 1 := ⟨by decide +kernel, rfl⟩
theorem dd_Fabric_stitchAt_1 : pj_dj cX1_stitchAt 1 (.ifCond .lt 19) 19 4 20 := ⟨by decide +kernel, rfl, by decide⟩
theorem dd_Fabric_stitchAt_4 : pj_d cX1_stitchAt 4 (.iload_n 1) 1 5 := ⟨by decide +kernel, rfl⟩
theorem dd_Fabric_stitchAt_5 : pj_d cX1_stitchAt 5 (.aload_n 0) 1 6 := ⟨by decide +kernel, rfl⟩
theorem dd_Fabric_stitchAt_6 : pj_d cX1_stitchAt 6 (.invokevirtual 73) 3 9 := ⟨by decide +kernel, rfl⟩
theorem dd_Fabric_stitchAt_9 : pj_dj cX1_stitchAt 9 (.if_icmp .ge 11) 11 12 20 := ⟨by decide +kernel, rfl, by decide⟩
theorem dd_Fabric_stitchAt_12 : pj_d cX1_stitchAt 12 (.aload_n 0) 1 13 := ⟨by decide +kernel, rfl⟩
theorem dd_Fabric_stitchAt_13 : pj_d cX1_stitchAt 13 (.getfield 9) 3 16 := ⟨by decide +kernel, rfl⟩
theorem dd_Fabric_stitchAt_16 : pj_d cX1_stitchAt 16 (.iconst 2) 1 17 := ⟨by decide +kernel, rfl⟩
theorem dd_Fabric_stitchAt_17 : pj_dj cX1_stitchAt 17 (.if_icmp .ge 5) 5 20 22 := ⟨by decide +kernel, rfl, by decide⟩
theorem dd_Fabric_stitchAt_20 : pj_d cX1_stitchAt 20 (.iconst (-1)) 1 21 := ⟨by decide +kernel, rfl⟩
theorem dd_Fabric_stitchAt_21 : pj_d cX1_stitchAt 21 (.ireturn) 1 22 := ⟨by decide +kernel, rfl⟩
theorem dd_Fabric_stitchAt_22 : pj_d cX1_stitchAt 22 (.iload_n 1) 1 23 := ⟨by decide +kernel, rfl⟩
theorem dd_Fabric_stitchAt_23 : pj_d cX1_stitchAt 23 (.aload_n 0) 1 24 := ⟨by decide +kernel, rfl⟩
theorem dd_Fabric_stitchAt_24 : pj_d cX1_stitchAt 24 (.getfield 9) 3 27 := ⟨by decide +kernel, rfl⟩
theorem dd_Fabric_stitchAt_27 : pj_d cX1_stitchAt 27 (.idiv) 1 28 := ⟨by decide +kernel, rfl⟩
theorem dd_Fabric_stitchAt_28 : pj_d cX1_stitchAt 28 (.istore_n 2) 1 29 := ⟨by decide +kernel, rfl⟩
theorem dd_Fabric_stitchAt_29 : pj_d cX1_stitchAt 29 (.iload_n 1) 1 30 := ⟨by decide +kernel, rfl⟩
theorem dd_Fabric_stitchAt_30 : pj_d cX1_stitchAt 30 (.iload_n 2) 1 31 := ⟨by decide +kernel, rfl⟩
theorem dd_Fabric_stitchAt_31 : pj_d cX1_stitchAt 31 (.aload_n 0) 1 32 := ⟨by decide +kernel, rfl⟩
theorem dd_Fabric_stitchAt_32 : pj_d cX1_stitchAt 32 (.getfield 9) 3 35 := ⟨by decide +kernel, rfl⟩
theorem dd_Fabric_stitchAt_35 : pj_d cX1_stitchAt 35 (.imul) 1 36 := ⟨by decide +kernel, rfl⟩
theorem dd_Fabric_stitchAt_36 : pj_d cX1_stitchAt 36 (.isub) 1 37 := ⟨by decide +kernel, rfl⟩
theorem dd_Fabric_stitchAt_37 : pj_d cX1_stitchAt 37 (.istore_n 3) 1 38 := ⟨by decide +kernel, rfl⟩
theorem dd_Fabric_stitchAt_38 : pj_d cX1_stitchAt 38 (.bipush 8) 2 40 := ⟨by decide +kernel, rfl⟩
theorem dd_Fabric_stitchAt_40 : pj_d cX1_stitchAt 40 (.iload_n 2) 1 41 := ⟨by decide +kernel, rfl⟩
theorem dd_Fabric_stitchAt_41 : pj_d cX1_stitchAt 41 (.imul) 1 42 := ⟨by decide +kernel, rfl⟩
theorem dd_Fabric_stitchAt_42 : pj_d cX1_stitchAt 42 (.iload_n 2) 1 43 := ⟨by decide +kernel, rfl⟩
theorem dd_Fabric_stitchAt_43 : pj_d cX1_stitchAt 43 (.iconst 1) 1 44 := ⟨by decide +kernel, rfl⟩
theorem dd_Fabric_stitchAt_44 : pj_d cX1_stitchAt 44 (.iand) 1 45 := ⟨by decide +kernel, rfl⟩
theorem dd_Fabric_stitchAt_45 : pj_dj cX1_stitchAt 45 (.ifCond .ne 7) 7 48 52 := ⟨by decide +kernel, rfl, by decide⟩
theorem dd_Fabric_stitchAt_48 : pj_d cX1_stitchAt 48 (.iload_n 3) 1 49 := ⟨by decide +kernel, rfl⟩
theorem dd_Fabric_stitchAt_49 : pj_dj cX1_stitchAt 49 (.goto 11) 11 52 60 := ⟨by decide +kernel, rfl, by decide⟩
theorem dd_Fabric_stitchAt_52 : pj_d cX1_stitchAt 52 (.aload_n 0) 1 53 := ⟨by decide +kernel, rfl⟩
theorem dd_Fabric_stitchAt_53 : pj_d cX1_stitchAt 53 (.getfield 9) 3 56 := ⟨by decide +kernel, rfl⟩
theorem dd_Fabric_stitchAt_56 : pj_d cX1_stitchAt 56 (.iconst 1) 1 57 := ⟨by decide +kernel, rfl⟩
theorem dd_Fabric_stitchAt_57 : pj_d cX1_stitchAt 57 (.isub) 1 58 := ⟨by decide +kernel, rfl⟩
theorem dd_Fabric_stitchAt_58 : pj_d cX1_stitchAt 58 (.iload_n 3) 1 59 := ⟨by decide +kernel, rfl⟩
theorem dd_Fabric_stitchAt_59 : pj_d cX1_stitchAt 59 (.isub) 1 60 := ⟨by decide +kernel, rfl⟩
theorem dd_Fabric_stitchAt_60 : pj_d cX1_stitchAt 60 (.iadd) 1 61 := ⟨by decide +kernel, rfl⟩
theorem dd_Fabric_stitchAt_61 : pj_d cX1_stitchAt 61 (.ireturn) 1 62 := ⟨by decide +kernel, rfl⟩
set_option maxHeartbeats 4000000 in
set_option maxRecDepth 100000 in
theorem bt_Fabric_stitchAt_60 {B : pj_B} {A : Nat → Prop} {K : pj_K} {r0 : Int32} {z0 : pj_S} (hB : B.2.2.2.1 = pj_LC) (C : pj_C B A K cX1_stitchAt 4 RX1 2) (Q : pj_Qi B A K (some .int) r0 z0)  (t0 : Int32) (t1 : Int32) (z : pj_S) (H : Heap) (lo : List Loc) (ls : Array Slot) (h : Fabric_stitchAt_60 t0 t1 z = some (r0, z0)) (P : pj_P B A K z H lo) (hl : lv_has ls 4 []) : pj_W K H lo 60 ls [.int t0, .int t1] := by
  unfold Fabric_stitchAt_60 at h
  refine pj_iadd C dd_Fabric_stitchAt_60 ?_
  exact pj_iret C Q P h dd_Fabric_stitchAt_61
set_option maxHeartbeats 4000000 in
set_option maxRecDepth 100000 in
theorem ct_Fabric_stitchAt {l : Launch} {B : pj_B} (hB : B.2.2.2.1 = pj_LC) {v1 : Int32} {z : pj_S} {r0 : Int32} {z0 : pj_S} (h : Fabric_stitchAt v1 z = some (r0, z0)) : pj_Mi l yX1_stitchAt cX1_stitchAt 4 (some .int) 2 [.ref (B.2.1 8), .int v1] B z r0 z0 := by
  refine pj_meti (own := RX1) (by decide +kernel) rfl (Nat.le_of_ble_eq_true rfl) ?_
  intro A K hK C Q H lo ls P hl
  have hl : lv_has ls 4 [(0, .ref (B.2.1 8)), (1, .int v1)] := hl
  unfold Fabric_stitchAt at h
  refine pj_iload_n C dd_Fabric_stitchAt_0 rfl hl 1 rfl ?_
  refine pj_if_lt C h dd_Fabric_stitchAt_1 (fun h => ?_) (fun h => ?_)
  · refine pj_iconst (v := (-1 : Int32)) C dd_Fabric_stitchAt_20 rfl ?_
    exact pj_iret C Q P h dd_Fabric_stitchAt_21
  · refine pj_iload_n C dd_Fabric_stitchAt_4 rfl hl 1 rfl ?_
    refine pj_aload_n C dd_Fabric_stitchAt_5 rfl hl 0 rfl ?_
    obtain ⟨r3, z2, e1, h⟩ := pj_cE h
    refine pj_cVi (st := [.int v1]) [] C P 8 (LC8 hB) rfl (ct_Fabric_places hB e1) cl_Fabric_73 rfl (by decide) (by decide) hl.1 (Nat.le_of_ble_eq_true rfl) dd_Fabric_stitchAt_6 (fun H lo P => ?_)
    refine pj_ic_ge C h dd_Fabric_stitchAt_9 (fun h => ?_) (fun h => ?_)
    · refine pj_iconst (v := (-1 : Int32)) C dd_Fabric_stitchAt_20 rfl ?_
      exact pj_iret C Q P h dd_Fabric_stitchAt_21
    · refine pj_aload_n C dd_Fabric_stitchAt_12 rfl hl 0 rfl ?_
      refine pj_getI C P 8 (LC8 hB) rfl fl_Fabric_9 dd_Fabric_stitchAt_13 ?_
      refine pj_iconst (v := (nI 2)) C dd_Fabric_stitchAt_16 rfl ?_
      refine pj_ic_ge C h dd_Fabric_stitchAt_17 (fun h => ?_) (fun h => ?_)
      · refine pj_iload_n C dd_Fabric_stitchAt_22 rfl hl 1 rfl ?_
        refine pj_aload_n C dd_Fabric_stitchAt_23 rfl hl 0 rfl ?_
        refine pj_getI C P 8 (LC8 hB) rfl fl_Fabric_9 dd_Fabric_stitchAt_24 ?_
        refine pj_idiv C h dd_Fabric_stitchAt_27 (fun h => ?_)
        refine pj_istb_n [(0, .ref (B.2.1 8)), (1, .int v1)] C h dd_Fabric_stitchAt_28 rfl hl (by decide) rfl (fun x4 ls h hl => ?_)
        refine pj_iload_n C dd_Fabric_stitchAt_29 rfl hl 2 rfl ?_
        refine pj_iload_n C dd_Fabric_stitchAt_30 rfl hl 0 rfl ?_
        refine pj_aload_n C dd_Fabric_stitchAt_31 rfl hl 1 rfl ?_
        refine pj_getI C P 8 (LC8 hB) rfl fl_Fabric_9 dd_Fabric_stitchAt_32 ?_
        refine pj_imul C dd_Fabric_stitchAt_35 ?_
        refine pj_isub C dd_Fabric_stitchAt_36 ?_
        refine pj_istb_n [(2, .int x4), (0, .ref (B.2.1 8)), (1, .int v1)] C h dd_Fabric_stitchAt_37 rfl hl (by decide) rfl (fun x5 ls h hl => ?_)
        refine pj_bipush (v := (nI 8)) C dd_Fabric_stitchAt_38 rfl ?_
        refine pj_iload_n C dd_Fabric_stitchAt_40 rfl hl 1 rfl ?_
        refine pj_imul C dd_Fabric_stitchAt_41 ?_
        refine pj_iload_n C dd_Fabric_stitchAt_42 rfl hl 1 rfl ?_
        refine pj_iconst (v := (nI 1)) C dd_Fabric_stitchAt_43 rfl ?_
        refine pj_iand C dd_Fabric_stitchAt_44 ?_
        refine pj_if_ne C h dd_Fabric_stitchAt_45 (fun h => ?_) (fun h => ?_)
        · refine pj_aload_n C dd_Fabric_stitchAt_52 rfl hl 2 rfl ?_
          refine pj_getI C P 8 (LC8 hB) rfl fl_Fabric_9 dd_Fabric_stitchAt_53 ?_
          refine pj_iconst (v := (nI 1)) C dd_Fabric_stitchAt_56 rfl ?_
          refine pj_isub C dd_Fabric_stitchAt_57 ?_
          refine pj_iload_n C dd_Fabric_stitchAt_58 rfl hl 0 rfl ?_
          refine pj_isub C dd_Fabric_stitchAt_59 ?_
          exact bt_Fabric_stitchAt_60 hB C Q _ _ _ _ _ _ h P (lv_sub hl [] rfl)
        · refine pj_iload_n C dd_Fabric_stitchAt_48 rfl hl 0 rfl ?_
          refine pj_goto C dd_Fabric_stitchAt_49 ?_
          exact bt_Fabric_stitchAt_60 hB C Q _ _ _ _ _ _ h P (lv_sub hl [] rfl)
      · refine pj_iconst (v := (-1 : Int32)) C dd_Fabric_stitchAt_20 rfl ?_
        exact pj_iret C Q P h dd_Fabric_stitchAt_21
theorem dd_Fabric_loopsUnder_0 : pj_d cX1_loopsUnder 0 (.aload_n 0) 1 1 := ⟨by decide +kernel, rfl⟩
theorem dd_Fabric_loopsUnder_1 : pj_d cX1_loopsUnder 1 (.getfield 26) 3 4 := ⟨by decide +kernel, rfl⟩
theorem dd_Fabric_loopsUnder_4 : pj_d cX1_loopsUnder 4 (.aload_n 0) 1 5 := ⟨by decide +kernel, rfl⟩
theorem dd_Fabric_loopsUnder_5 : pj_d cX1_loopsUnder 5 (.getfield 26) 3 8 := ⟨by decide +kernel, rfl⟩
theorem dd_Fabric_loopsUnder_8 : pj_d cX1_loopsUnder 8 (.iconst 1) 1 9 := ⟨by decide +kernel, rfl⟩
theorem dd_Fabric_loopsUnder_9 : pj_d cX1_loopsUnder 9 (.lushr) 1 10 := ⟨by decide +kernel, rfl⟩
theorem dd_Fabric_loopsUnder_10 : pj_d cX1_loopsUnder 10 (.land) 1 11 := ⟨by decide +kernel, rfl⟩
theorem dd_Fabric_loopsUnder_11 : pj_d cX1_loopsUnder 11 (.lstore_n 3) 1 12 := ⟨by decide +kernel, rfl⟩
theorem dd_Fabric_loopsUnder_12 : pj_d cX1_loopsUnder 12 (.lload_n 1) 1 13 := ⟨by decide +kernel, rfl⟩
theorem dd_Fabric_loopsUnder_13 : pj_d cX1_loopsUnder 13 (.aload_n 0) 1 14 := ⟨by decide +kernel, rfl⟩
theorem dd_Fabric_loopsUnder_14 : pj_d cX1_loopsUnder 14 (.getfield 30) 3 17 := ⟨by decide +kernel, rfl⟩
theorem dd_Fabric_loopsUnder_17 : pj_d cX1_loopsUnder 17 (.land) 1 18 := ⟨by decide +kernel, rfl⟩
theorem dd_Fabric_loopsUnder_18 : pj_d cX1_loopsUnder 18 (.aload_n 0) 1 19 := ⟨by decide +kernel, rfl⟩
theorem dd_Fabric_loopsUnder_19 : pj_d cX1_loopsUnder 19 (.getfield 33) 3 22 := ⟨by decide +kernel, rfl⟩
theorem dd_Fabric_loopsUnder_22 : pj_d cX1_loopsUnder 22 (.land) 1 23 := ⟨by decide +kernel, rfl⟩
theorem dd_Fabric_loopsUnder_23 : pj_d cX1_loopsUnder 23 (.lstore 5) 2 25 := ⟨by decide +kernel, rfl⟩
theorem dd_Fabric_loopsUnder_25 : pj_d cX1_loopsUnder 25 (.lload_n 1) 1 26 := ⟨by decide +kernel, rfl⟩
theorem dd_Fabric_loopsUnder_26 : pj_d cX1_loopsUnder 26 (.aload_n 0) 1 27 := ⟨by decide +kernel, rfl⟩
theorem dd_Fabric_loopsUnder_27 : pj_d cX1_loopsUnder 27 (.getfield 30) 3 30 := ⟨by decide +kernel, rfl⟩
theorem dd_Fabric_loopsUnder_30 : pj_d cX1_loopsUnder 30 (.land) 1 31 := ⟨by decide +kernel, rfl⟩
theorem dd_Fabric_loopsUnder_31 : pj_d cX1_loopsUnder 31 (.aload_n 0) 1 32 := ⟨by decide +kernel, rfl⟩
theorem dd_Fabric_loopsUnder_32 : pj_d cX1_loopsUnder 32 (.getfield 33) 3 35 := ⟨by decide +kernel, rfl⟩
theorem dd_Fabric_loopsUnder_35 : pj_d cX1_loopsUnder 35 (.ldc2_w 56) 3 38 := ⟨by decide +kernel, rfl⟩
theorem dd_Fabric_loopsUnder_38 : pj_d cX1_loopsUnder 38 (.lxor) 1 39 := ⟨by decide +kernel, rfl⟩
theorem dd_Fabric_loopsUnder_39 : pj_d cX1_loopsUnder 39 (.land) 1 40 := ⟨by decide +kernel, rfl⟩
theorem dd_Fabric_loopsUnder_40 : pj_d cX1_loopsUnder 40 (.lstore 7) 2 42 := ⟨by decide +kernel, rfl⟩
theorem dd_Fabric_loopsUnder_42 : pj_d cX1_loopsUnder 42 (.lload_n 1) 1 43 := ⟨by decide +kernel, rfl⟩
theorem dd_Fabric_loopsUnder_43 : pj_d cX1_loopsUnder 43 (.aload_n 0) 1 44 := ⟨by decide +kernel, rfl⟩
theorem dd_Fabric_loopsUnder_44 : pj_d cX1_loopsUnder 44 (.getfield 30) 3 47 := ⟨by decide +kernel, rfl⟩
theorem dd_Fabric_loopsUnder_47 : pj_d cX1_loopsUnder 47 (.ldc2_w 56) 3 50 := ⟨by decide +kernel, rfl⟩
theorem dd_Fabric_loopsUnder_50 : pj_d cX1_loopsUnder 50 (.lxor) 1 51 := ⟨by decide +kernel, rfl⟩
theorem dd_Fabric_loopsUnder_51 : pj_d cX1_loopsUnder 51 (.land) 1 52 := ⟨by decide +kernel, rfl⟩
theorem dd_Fabric_loopsUnder_52 : pj_d cX1_loopsUnder 52 (.aload_n 0) 1 53 := ⟨by decide +kernel, rfl⟩
theorem dd_Fabric_loopsUnder_53 : pj_d cX1_loopsUnder 53 (.getfield 33) 3 56 := ⟨by decide +kernel, rfl⟩
theorem dd_Fabric_loopsUnder_56 : pj_d cX1_loopsUnder 56 (.ldc2_w 56) 3 59 := ⟨by decide +kernel, rfl⟩
theorem dd_Fabric_loopsUnder_59 : pj_d cX1_loopsUnder 59 (.lxor) 1 60 := ⟨by decide +kernel, rfl⟩
theorem dd_Fabric_loopsUnder_60 : pj_d cX1_loopsUnder 60 (.land) 1 61 := ⟨by decide +kernel, rfl⟩
theorem dd_Fabric_loopsUnder_61 : pj_d cX1_loopsUnder 61 (.lstore 9) 2 63 := ⟨by decide +kernel, rfl⟩
theorem dd_Fabric_loopsUnder_63 : pj_d cX1_loopsUnder 63 (.lload 7) 2 65 := ⟨by decide +kernel, rfl⟩
theorem dd_Fabric_loopsUnder_65 : pj_d cX1_loopsUnder 65 (.ldc2_w 58) 3 68 := ⟨by decide +kernel, rfl⟩
theorem dd_Fabric_loopsUnder_68 : pj_d cX1_loopsUnder 68 (.land) 1 69 := ⟨by decide +kernel, rfl⟩
theorem dd_Fabric_loopsUnder_69 : pj_d cX1_loopsUnder 69 (.lload_n 3) 1 70 := ⟨by decide +kernel, rfl⟩
theorem dd_Fabric_loopsUnder_70 : pj_d cX1_loopsUnder 70 (.land) 1 71 := ⟨by decide +kernel, rfl⟩
theorem dd_Fabric_loopsUnder_71 : pj_d cX1_loopsUnder 71 (.lstore 11) 2 73 := ⟨by decide +kernel, rfl⟩
theorem dd_Fabric_loopsUnder_73 : pj_d cX1_loopsUnder 73 (.lload 7) 2 75 := ⟨by decide +kernel, rfl⟩
theorem dd_Fabric_loopsUnder_75 : pj_d cX1_loopsUnder 75 (.ldc2_w 60) 3 78 := ⟨by decide +kernel, rfl⟩
theorem dd_Fabric_loopsUnder_78 : pj_d cX1_loopsUnder 78 (.land) 1 79 := ⟨by decide +kernel, rfl⟩
theorem dd_Fabric_loopsUnder_79 : pj_d cX1_loopsUnder 79 (.lstore 13) 2 81 := ⟨by decide +kernel, rfl⟩
theorem dd_Fabric_loopsUnder_81 : pj_d cX1_loopsUnder 81 (.lload 9) 2 83 := ⟨by decide +kernel, rfl⟩
theorem dd_Fabric_loopsUnder_83 : pj_d cX1_loopsUnder 83 (.lload 5) 2 85 := ⟨by decide +kernel, rfl⟩
theorem dd_Fabric_loopsUnder_85 : pj_d cX1_loopsUnder 85 (.lor) 1 86 := ⟨by decide +kernel, rfl⟩
theorem dd_Fabric_loopsUnder_86 : pj_d cX1_loopsUnder 86 (.lload 7) 2 88 := ⟨by decide +kernel, rfl⟩
theorem dd_Fabric_loopsUnder_88 : pj_d cX1_loopsUnder 88 (.lload 11) 2 90 := ⟨by decide +kernel, rfl⟩
theorem dd_Fabric_loopsUnder_90 : pj_d cX1_loopsUnder 90 (.ldc2_w 56) 3 93 := ⟨by decide +kernel, rfl⟩
theorem dd_Fabric_loopsUnder_93 : pj_d cX1_loopsUnder 93 (.lxor) 1 94 := ⟨by decide +kernel, rfl⟩
theorem dd_Fabric_loopsUnder_94 : pj_d cX1_loopsUnder 94 (.land) 1 95 := ⟨by decide +kernel, rfl⟩
theorem dd_Fabric_loopsUnder_95 : pj_d cX1_loopsUnder 95 (.lload 13) 2 97 := ⟨by decide +kernel, rfl⟩
theorem dd_Fabric_loopsUnder_97 : pj_d cX1_loopsUnder 97 (.ldc2_w 56) 3 100 := ⟨by decide +kernel, rfl⟩
theorem dd_Fabric_loopsUnder_100 : pj_d cX1_loopsUnder 100 (.lxor) 1 101 := ⟨by decide +kernel, rfl⟩
theorem dd_Fabric_loopsUnder_101 : pj_d cX1_loopsUnder 101 (.land) 1 102 := ⟨by decide +kernel, rfl⟩
theorem dd_Fabric_loopsUnder_102 : pj_d cX1_loopsUnder 102 (.lor) 1 103 := ⟨by decide +kernel, rfl⟩
theorem dd_Fabric_loopsUnder_103 : pj_d cX1_loopsUnder 103 (.lstore 15) 2 105 := ⟨by decide +kernel, rfl⟩
theorem dd_Fabric_loopsUnder_105 : pj_d cX1_loopsUnder 105 (.lload 11) 2 107 := ⟨by decide +kernel, rfl⟩
theorem dd_Fabric_loopsUnder_107 : pj_d cX1_loopsUnder 107 (.lload 5) 2 109 := ⟨by decide +kernel, rfl⟩
theorem dd_Fabric_loopsUnder_109 : pj_d cX1_loopsUnder 109 (.lload_n 3) 1 110 := ⟨by decide +kernel, rfl⟩
theorem dd_Fabric_loopsUnder_110 : pj_d cX1_loopsUnder 110 (.land) 1 111 := ⟨by decide +kernel, rfl⟩
theorem dd_Fabric_loopsUnder_111 : pj_d cX1_loopsUnder 111 (.lor) 1 112 := ⟨by decide +kernel, rfl⟩
theorem dd_Fabric_loopsUnder_112 : pj_d cX1_loopsUnder 112 (.lstore 17) 2 114 := ⟨by decide +kernel, rfl⟩
theorem dd_Fabric_loopsUnder_114 : pj_d cX1_loopsUnder 114 (.lload 15) 2 116 := ⟨by decide +kernel, rfl⟩
theorem dd_Fabric_loopsUnder_116 : pj_d cX1_loopsUnder 116 (.bipush 8) 2 118 := ⟨by decide +kernel, rfl⟩
theorem dd_Fabric_loopsUnder_118 : pj_d cX1_loopsUnder 118 (.lushr) 1 119 := ⟨by decide +kernel, rfl⟩
theorem dd_Fabric_loopsUnder_119 : pj_d cX1_loopsUnder 119 (.lload 17) 2 121 := ⟨by decide +kernel, rfl⟩
theorem dd_Fabric_loopsUnder_121 : pj_d cX1_loopsUnder 121 (.bipush 7) 2 123 := ⟨by decide +kernel, rfl⟩
theorem dd_Fabric_loopsUnder_123 : pj_d cX1_loopsUnder 123 (.lushr) 1 124 := ⟨by decide +kernel, rfl⟩
theorem dd_Fabric_loopsUnder_124 : pj_d cX1_loopsUnder 124 (.lor) 1 125 := ⟨by decide +kernel, rfl⟩
theorem dd_Fabric_loopsUnder_125 : pj_d cX1_loopsUnder 125 (.lload 13) 2 127 := ⟨by decide +kernel, rfl⟩
theorem dd_Fabric_loopsUnder_127 : pj_d cX1_loopsUnder 127 (.bipush 9) 2 129 := ⟨by decide +kernel, rfl⟩
theorem dd_Fabric_loopsUnder_129 : pj_d cX1_loopsUnder 129 (.lushr) 1 130 := ⟨by decide +kernel, rfl⟩
theorem dd_Fabric_loopsUnder_130 : pj_d cX1_loopsUnder 130 (.lor) 1 131 := ⟨by decide +kernel, rfl⟩
theorem dd_Fabric_loopsUnder_131 : pj_d cX1_loopsUnder 131 (.lreturn) 1 132 := ⟨by decide +kernel, rfl⟩
set_option maxHeartbeats 4000000 in
set_option maxRecDepth 100000 in
theorem ct_Fabric_loopsUnder {l : Launch} {B : pj_B} (hB : B.2.2.2.1 = pj_LC) {v1 : Int64} {z : pj_S} {r0 : Int64} {z0 : pj_S} (h : Fabric_loopsUnder v1 z = some (r0, z0)) : pj_Ml l yX1_loopsUnder cX1_loopsUnder 19 (some .long) 1 [.ref (B.2.1 8), .long v1] B z r0 z0 := by
  refine pj_metl (own := RX1) (by decide +kernel) rfl (Nat.le_of_ble_eq_true rfl) ?_
  intro A K hK C Q H lo ls P hl
  have hl : lv_has ls 19 [(0, .ref (B.2.1 8)), (1, .long v1)] := hl
  unfold Fabric_loopsUnder at h
  refine pj_aload_n C dd_Fabric_loopsUnder_0 rfl hl 0 rfl ?_
  refine pj_getJ C P 8 (LC8 hB) rfl fl_Fabric_26 dd_Fabric_loopsUnder_1 ?_
  refine pj_aload_n C dd_Fabric_loopsUnder_4 rfl hl 0 rfl ?_
  refine pj_getJ C P 8 (LC8 hB) rfl fl_Fabric_26 dd_Fabric_loopsUnder_5 ?_
  refine pj_iconst (v := (nI 1)) C dd_Fabric_loopsUnder_8 rfl ?_
  refine pj_lushr C dd_Fabric_loopsUnder_9 ?_
  refine pj_land C dd_Fabric_loopsUnder_10 ?_
  refine pj_lstb_n [(0, .ref (B.2.1 8)), (1, .long v1)] C h dd_Fabric_loopsUnder_11 rfl hl (by decide) rfl (fun x1 ls h hl => ?_)
  refine pj_lload_n C dd_Fabric_loopsUnder_12 rfl hl 2 rfl ?_
  refine pj_aload_n C dd_Fabric_loopsUnder_13 rfl hl 1 rfl ?_
  refine pj_getJ C P 8 (LC8 hB) rfl fl_Fabric_30 dd_Fabric_loopsUnder_14 ?_
  refine pj_land C dd_Fabric_loopsUnder_17 ?_
  refine pj_aload_n C dd_Fabric_loopsUnder_18 rfl hl 1 rfl ?_
  refine pj_getJ C P 8 (LC8 hB) rfl fl_Fabric_33 dd_Fabric_loopsUnder_19 ?_
  refine pj_land C dd_Fabric_loopsUnder_22 ?_
  refine pj_lstb [(3, .long x1), (0, .ref (B.2.1 8)), (1, .long v1)] C h dd_Fabric_loopsUnder_23 hl (by decide) rfl (fun x2 ls h hl => ?_)
  refine pj_lload_n C dd_Fabric_loopsUnder_25 rfl hl 3 rfl ?_
  refine pj_aload_n C dd_Fabric_loopsUnder_26 rfl hl 2 rfl ?_
  refine pj_getJ C P 8 (LC8 hB) rfl fl_Fabric_30 dd_Fabric_loopsUnder_27 ?_
  refine pj_land C dd_Fabric_loopsUnder_30 ?_
  refine pj_aload_n C dd_Fabric_loopsUnder_31 rfl hl 2 rfl ?_
  refine pj_getJ C P 8 (LC8 hB) rfl fl_Fabric_33 dd_Fabric_loopsUnder_32 ?_
  refine pj_ldc2 (v := (-1 : Int64)) C co_Fabric_56 dd_Fabric_loopsUnder_35 ?_
  refine pj_lxor C dd_Fabric_loopsUnder_38 ?_
  refine pj_land C dd_Fabric_loopsUnder_39 ?_
  refine pj_lstb [(5, .long x2), (3, .long x1), (0, .ref (B.2.1 8)), (1, .long v1)] C h dd_Fabric_loopsUnder_40 hl (by decide) rfl (fun x3 ls h hl => ?_)
  refine pj_lload_n C dd_Fabric_loopsUnder_42 rfl hl 4 rfl ?_
  refine pj_aload_n C dd_Fabric_loopsUnder_43 rfl hl 3 rfl ?_
  refine pj_getJ C P 8 (LC8 hB) rfl fl_Fabric_30 dd_Fabric_loopsUnder_44 ?_
  refine pj_ldc2 (v := (-1 : Int64)) C co_Fabric_56 dd_Fabric_loopsUnder_47 ?_
  refine pj_lxor C dd_Fabric_loopsUnder_50 ?_
  refine pj_land C dd_Fabric_loopsUnder_51 ?_
  refine pj_aload_n C dd_Fabric_loopsUnder_52 rfl hl 3 rfl ?_
  refine pj_getJ C P 8 (LC8 hB) rfl fl_Fabric_33 dd_Fabric_loopsUnder_53 ?_
  refine pj_ldc2 (v := (-1 : Int64)) C co_Fabric_56 dd_Fabric_loopsUnder_56 ?_
  refine pj_lxor C dd_Fabric_loopsUnder_59 ?_
  refine pj_land C dd_Fabric_loopsUnder_60 ?_
  refine pj_lstb [(7, .long x3), (5, .long x2), (3, .long x1), (0, .ref (B.2.1 8)), (1, .long v1)] C h dd_Fabric_loopsUnder_61 hl (by decide) rfl (fun x4 ls h hl => ?_)
  refine pj_lload C dd_Fabric_loopsUnder_63 hl 1 rfl ?_
  refine pj_ldc2 (v := (6148914691236517205 : Int64)) C co_Fabric_58 dd_Fabric_loopsUnder_65 ?_
  refine pj_land C dd_Fabric_loopsUnder_68 ?_
  refine pj_lload_n C dd_Fabric_loopsUnder_69 rfl hl 3 rfl ?_
  refine pj_land C dd_Fabric_loopsUnder_70 ?_
  refine pj_lstb [(9, .long x4), (7, .long x3), (5, .long x2), (3, .long x1), (0, .ref (B.2.1 8)), (1, .long v1)] C h dd_Fabric_loopsUnder_71 hl (by decide) rfl (fun x5 ls h hl => ?_)
  refine pj_lload C dd_Fabric_loopsUnder_73 hl 2 rfl ?_
  refine pj_ldc2 (v := (-6148914691236517206 : Int64)) C co_Fabric_60 dd_Fabric_loopsUnder_75 ?_
  refine pj_land C dd_Fabric_loopsUnder_78 ?_
  refine pj_lstb [(11, .long x5), (9, .long x4), (7, .long x3), (5, .long x2), (3, .long x1), (0, .ref (B.2.1 8)), (1, .long v1)] C h dd_Fabric_loopsUnder_79 hl (by decide) rfl (fun x6 ls h hl => ?_)
  refine pj_lload C dd_Fabric_loopsUnder_81 hl 2 rfl ?_
  refine pj_lload C dd_Fabric_loopsUnder_83 hl 4 rfl ?_
  refine pj_lor C dd_Fabric_loopsUnder_85 ?_
  refine pj_lload C dd_Fabric_loopsUnder_86 hl 3 rfl ?_
  refine pj_lload C dd_Fabric_loopsUnder_88 hl 1 rfl ?_
  refine pj_ldc2 (v := (-1 : Int64)) C co_Fabric_56 dd_Fabric_loopsUnder_90 ?_
  refine pj_lxor C dd_Fabric_loopsUnder_93 ?_
  refine pj_land C dd_Fabric_loopsUnder_94 ?_
  refine pj_lload C dd_Fabric_loopsUnder_95 hl 0 rfl ?_
  refine pj_ldc2 (v := (-1 : Int64)) C co_Fabric_56 dd_Fabric_loopsUnder_97 ?_
  refine pj_lxor C dd_Fabric_loopsUnder_100 ?_
  refine pj_land C dd_Fabric_loopsUnder_101 ?_
  refine pj_lor C dd_Fabric_loopsUnder_102 ?_
  refine pj_lstb [(13, .long x6), (11, .long x5), (9, .long x4), (7, .long x3), (5, .long x2), (3, .long x1), (0, .ref (B.2.1 8)), (1, .long v1)] C h dd_Fabric_loopsUnder_103 hl (by decide) rfl (fun x7 ls h hl => ?_)
  refine pj_lload C dd_Fabric_loopsUnder_105 hl 2 rfl ?_
  refine pj_lload C dd_Fabric_loopsUnder_107 hl 5 rfl ?_
  refine pj_lload_n C dd_Fabric_loopsUnder_109 rfl hl 6 rfl ?_
  refine pj_land C dd_Fabric_loopsUnder_110 ?_
  refine pj_lor C dd_Fabric_loopsUnder_111 ?_
  refine pj_lstb [(15, .long x7), (13, .long x6), (11, .long x5), (9, .long x4), (7, .long x3), (5, .long x2), (3, .long x1), (0, .ref (B.2.1 8)), (1, .long v1)] C h dd_Fabric_loopsUnder_112 hl (by decide) rfl (fun x8 ls h hl => ?_)
  refine pj_lload C dd_Fabric_loopsUnder_114 hl 1 rfl ?_
  refine pj_bipush (v := (nI 8)) C dd_Fabric_loopsUnder_116 rfl ?_
  refine pj_lushr C dd_Fabric_loopsUnder_118 ?_
  refine pj_lload C dd_Fabric_loopsUnder_119 hl 0 rfl ?_
  refine pj_bipush (v := (nI 7)) C dd_Fabric_loopsUnder_121 rfl ?_
  refine pj_lushr C dd_Fabric_loopsUnder_123 ?_
  refine pj_lor C dd_Fabric_loopsUnder_124 ?_
  refine pj_lload C dd_Fabric_loopsUnder_125 hl 2 rfl ?_
  refine pj_bipush (v := (nI 9)) C dd_Fabric_loopsUnder_127 rfl ?_
  refine pj_lushr C dd_Fabric_loopsUnder_129 ?_
  refine pj_lor C dd_Fabric_loopsUnder_130 ?_
  exact pj_lret C Q P h dd_Fabric_loopsUnder_131
theorem dd_Fabric_heldOf_0 : pj_d cX1_heldOf 0 (.aload_n 0) 1 1 := ⟨by decide +kernel, rfl⟩
theorem dd_Fabric_heldOf_1 : pj_d cX1_heldOf 1 (.getfield 18) 3 4 := ⟨by decide +kernel, rfl⟩
theorem dd_Fabric_heldOf_4 : pj_dj cX1_heldOf 4 (.ifCond .eq 22) 22 7 26 := ⟨by decide +kernel, rfl, by decide⟩
theorem dd_Fabric_heldOf_7 : pj_d cX1_heldOf 7 (.aload_n 0) 1 8 := ⟨by decide +kernel, rfl⟩
theorem dd_Fabric_heldOf_8 : pj_d cX1_heldOf 8 (.getfield 26) 3 11 := ⟨by decide +kernel, rfl⟩
theorem dd_Fabric_heldOf_11 : pj_d cX1_heldOf 11 (.aload_n 0) 1 12 := ⟨by decide +kernel, rfl⟩
theorem dd_Fabric_heldOf_12 : pj_d cX1_heldOf 12 (.getfield 26) 3 15 := ⟨by decide +kernel, rfl⟩
theorem dd_Fabric_heldOf_15 : pj_d cX1_heldOf 15 (.bipush 8) 2 17 := ⟨by decide +kernel, rfl⟩
theorem dd_Fabric_heldOf_17 : pj_d cX1_heldOf 17 (.lushr) 1 18 := ⟨by decide +kernel, rfl⟩
theorem dd_Fabric_heldOf_18 : pj_d cX1_heldOf 18 (.ldc2_w 56) 3 21 := ⟨by decide +kernel, rfl⟩
theorem dd_Fabric_heldOf_21 : pj_d cX1_heldOf 21 (.lxor) 1 22 := ⟨by decide +kernel, rfl⟩
theorem dd_Fabric_heldOf_22 : pj_d cX1_heldOf 22 (.land) 1 23 := ⟨by decide +kernel, rfl⟩
theorem dd_Fabric_heldOf_23 : pj_dj cX1_heldOf 23 (.goto 4) 4 26 27 := ⟨by decide +kernel, rfl, by decide⟩
theorem dd_Fabric_heldOf_26 : pj_d cX1_heldOf 26 (.lconst 0) 1 27 := ⟨by decide +kernel, rfl⟩
theorem dd_Fabric_heldOf_27 : pj_d cX1_heldOf 27 (.lstore 5) 2 29 := ⟨by decide +kernel, rfl⟩
theorem dd_Fabric_heldOf_29 : pj_d cX1_heldOf 29 (.lload_n 1) 1 30 := ⟨by decide +kernel, rfl⟩
theorem dd_Fabric_heldOf_30 : pj_d cX1_heldOf 30 (.lload_n 3) 1 31 := ⟨by decide +kernel, rfl⟩
theorem dd_Fabric_heldOf_31 : pj_d cX1_heldOf 31 (.lload 5) 2 33 := ⟨by decide +kernel, rfl⟩
theorem dd_Fabric_heldOf_33 : pj_d cX1_heldOf 33 (.lor) 1 34 := ⟨by decide +kernel, rfl⟩
theorem dd_Fabric_heldOf_34 : pj_d cX1_heldOf 34 (.aload_n 0) 1 35 := ⟨by decide +kernel, rfl⟩
theorem dd_Fabric_heldOf_35 : pj_d cX1_heldOf 35 (.lload_n 1) 1 36 := ⟨by decide +kernel, rfl⟩
theorem dd_Fabric_heldOf_36 : pj_d cX1_heldOf 36 (.invokevirtual 62) 3 39 := ⟨by decide +kernel, rfl⟩
theorem dd_Fabric_heldOf_39 : pj_d cX1_heldOf 39 (.lor) 1 40 := ⟨by decide +kernel, rfl⟩
theorem dd_Fabric_heldOf_40 : pj_d cX1_heldOf 40 (.land) 1 41 := ⟨by decide +kernel, rfl⟩
theorem dd_Fabric_heldOf_41 : pj_d cX1_heldOf 41 (.lreturn) 1 42 := ⟨by decide +kernel, rfl⟩
set_option maxHeartbeats 4000000 in
set_option maxRecDepth 100000 in
theorem bt_Fabric_heldOf_27 {B : pj_B} {A : Nat → Prop} {K : pj_K} {r0 : Int64} {z0 : pj_S} (hB : B.2.2.2.1 = pj_LC) (C : pj_C B A K cX1_heldOf 7 RX1 2) (Q : pj_Ql B A K (some .long) r0 z0)  (v1 : Int64) (v3 : Int64) (t0 : Int64) (z : pj_S) (H : Heap) (lo : List Loc) (ls : Array Slot) (h : Fabric_heldOf_27 v1 v3 t0 z = some (r0, z0)) (P : pj_P B A K z H lo) (hl : lv_has ls 7 [(0, .ref (B.2.1 8)), (1, .long v1), (3, .long v3)]) : pj_W K H lo 27 ls [.long t0] := by
  unfold Fabric_heldOf_27 at h
  refine pj_lstore [(5, .long t0), (0, .ref (B.2.1 8)), (1, .long v1), (3, .long v3)] C dd_Fabric_heldOf_27 hl (by decide) rfl (fun ls hl => ?_)
  refine pj_lload_n C dd_Fabric_heldOf_29 rfl hl 2 rfl ?_
  refine pj_lload_n C dd_Fabric_heldOf_30 rfl hl 3 rfl ?_
  refine pj_lload C dd_Fabric_heldOf_31 hl 0 rfl ?_
  refine pj_lor C dd_Fabric_heldOf_33 ?_
  refine pj_aload_n C dd_Fabric_heldOf_34 rfl hl 1 rfl ?_
  refine pj_lload_n C dd_Fabric_heldOf_35 rfl hl 2 rfl ?_
  obtain ⟨r3, z2, e1, h⟩ := pj_cE h
  refine pj_cVl (st := [.long (v3 ||| t0), .long v1]) [.long v1] C P 8 (LC8 hB) rfl (ct_Fabric_loopsUnder hB e1) cl_Fabric_62 rfl (by decide) (by decide) hl.1 (Nat.le_of_ble_eq_true rfl) dd_Fabric_heldOf_36 (fun H lo P => ?_)
  refine pj_lor C dd_Fabric_heldOf_39 ?_
  refine pj_land C dd_Fabric_heldOf_40 ?_
  exact pj_lret C Q P h dd_Fabric_heldOf_41
set_option maxHeartbeats 4000000 in
set_option maxRecDepth 100000 in
theorem ct_Fabric_heldOf {l : Launch} {B : pj_B} (hB : B.2.2.2.1 = pj_LC) {v1 : Int64} {v3 : Int64} {z : pj_S} {r0 : Int64} {z0 : pj_S} (h : Fabric_heldOf v1 v3 z = some (r0, z0)) : pj_Ml l yX1_heldOf cX1_heldOf 7 (some .long) 2 [.ref (B.2.1 8), .long v1, .long v3] B z r0 z0 := by
  refine pj_metl (own := RX1) (by decide +kernel) rfl (Nat.le_of_ble_eq_true rfl) ?_
  intro A K hK C Q H lo ls P hl
  have hl : lv_has ls 7 [(0, .ref (B.2.1 8)), (1, .long v1), (3, .long v3)] := hl
  unfold Fabric_heldOf at h
  refine pj_aload_n C dd_Fabric_heldOf_0 rfl hl 0 rfl ?_
  refine pj_getI C P 8 (LC8 hB) rfl fl_Fabric_18 dd_Fabric_heldOf_1 ?_
  refine pj_if_eq C h dd_Fabric_heldOf_4 (fun h => ?_) (fun h => ?_)
  · refine pj_lconst (v := (0 : Int64)) C dd_Fabric_heldOf_26 rfl ?_
    exact bt_Fabric_heldOf_27 hB C Q _ _ _ _ _ _ _ h P (lv_sub hl [0, 1, 2] rfl)
  · refine pj_aload_n C dd_Fabric_heldOf_7 rfl hl 0 rfl ?_
    refine pj_getJ C P 8 (LC8 hB) rfl fl_Fabric_26 dd_Fabric_heldOf_8 ?_
    refine pj_aload_n C dd_Fabric_heldOf_11 rfl hl 0 rfl ?_
    refine pj_getJ C P 8 (LC8 hB) rfl fl_Fabric_26 dd_Fabric_heldOf_12 ?_
    refine pj_bipush (v := (nI 8)) C dd_Fabric_heldOf_15 rfl ?_
    refine pj_lushr C dd_Fabric_heldOf_17 ?_
    refine pj_ldc2 (v := (-1 : Int64)) C co_Fabric_56 dd_Fabric_heldOf_18 ?_
    refine pj_lxor C dd_Fabric_heldOf_21 ?_
    refine pj_land C dd_Fabric_heldOf_22 ?_
    refine pj_goto C dd_Fabric_heldOf_23 ?_
    exact bt_Fabric_heldOf_27 hB C Q _ _ _ _ _ _ _ h P (lv_sub hl [0, 1, 2] rfl)
theorem dd_Puller_comesUndone_0 : pj_d cX5_comesUndone 0 (.aload_n 0) 1 1 := ⟨by decide +kernel, rfl⟩
theorem dd_Puller_comesUndone_1 : pj_d cX5_comesUndone 1 (.getfield 28) 3 4 := ⟨by decide +kernel, rfl⟩
theorem dd_Puller_comesUndone_4 : pj_d cX5_comesUndone 4 (.iload_n 2) 1 5 := ⟨by decide +kernel, rfl⟩
theorem dd_Puller_comesUndone_5 : pj_d cX5_comesUndone 5 (.invokestatic 44) 3 8 := ⟨by decide +kernel, rfl⟩
theorem dd_Puller_comesUndone_8 : pj_dj cX5_comesUndone 8 (.ifCond .ne 5) 5 11 13 := ⟨by decide +kernel, rfl, by decide⟩
theorem dd_Puller_comesUndone_11 : pj_d cX5_comesUndone 11 (.iconst 1) 1 12 := ⟨by decide +kernel, rfl⟩
theorem dd_Puller_comesUndone_12 : pj_d cX5_comesUndone 12 (.ireturn) 1 13 := ⟨by decide +kernel, rfl⟩
theorem dd_Puller_comesUndone_13 : pj_d cX5_comesUndone 13 (.aload_n 1) 1 14 := ⟨by decide +kernel, rfl⟩
theorem dd_Puller_comesUndone_14 : pj_d cX5_comesUndone 14 (.aload_n 0) 1 15 := ⟨by decide +kernel, rfl⟩
theorem dd_Puller_comesUndone_15 : pj_d cX5_comesUndone 15 (.getfield 28) 3 18 := ⟨by decide +kernel, rfl⟩
theorem dd_Puller_comesUndone_18 : pj_d cX5_comesUndone 18 (.aload_n 1) 1 19 := ⟨by decide +kernel, rfl⟩
theorem dd_Puller_comesUndone_19 : pj_d cX5_comesUndone 19 (.getfield 48) 3 22 := ⟨by decide +kernel, rfl⟩
theorem dd_Puller_comesUndone_22 : pj_d cX5_comesUndone 22 (.invokevirtual 51) 3 25 := ⟨by decide +kernel, rfl⟩
theorem dd_Puller_comesUndone_25 : pj_d cX5_comesUndone 25 (.iload_n 2) 1 26 := ⟨by decide +kernel, rfl⟩
theorem dd_Puller_comesUndone_26 : pj_d cX5_comesUndone 26 (.invokestatic 44) 3 29 := ⟨by decide +kernel, rfl⟩
theorem dd_Puller_comesUndone_29 : pj_d cX5_comesUndone 29 (.iconst 1) 1 30 := ⟨by decide +kernel, rfl⟩
theorem dd_Puller_comesUndone_30 : pj_dj cX5_comesUndone 30 (.if_icmp .eq 15) 15 33 45 := ⟨by decide +kernel, rfl, by decide⟩
theorem dd_Puller_comesUndone_33 : pj_d cX5_comesUndone 33 (.aload_n 0) 1 34 := ⟨by decide +kernel, rfl⟩
theorem dd_Puller_comesUndone_34 : pj_d cX5_comesUndone 34 (.getfield 15) 3 37 := ⟨by decide +kernel, rfl⟩
theorem dd_Puller_comesUndone_37 : pj_d cX5_comesUndone 37 (.aload_n 0) 1 38 := ⟨by decide +kernel, rfl⟩
theorem dd_Puller_comesUndone_38 : pj_d cX5_comesUndone 38 (.getfield 9) 3 41 := ⟨by decide +kernel, rfl⟩
theorem dd_Puller_comesUndone_41 : pj_d cX5_comesUndone 41 (.arraylength) 1 42 := ⟨by decide +kernel, rfl⟩
theorem dd_Puller_comesUndone_42 : pj_dj cX5_comesUndone 42 (.if_icmp .lt 5) 5 45 47 := ⟨by decide +kernel, rfl, by decide⟩
theorem dd_Puller_comesUndone_45 : pj_d cX5_comesUndone 45 (.iconst 0) 1 46 := ⟨by decide +kernel, rfl⟩
theorem dd_Puller_comesUndone_46 : pj_d cX5_comesUndone 46 (.ireturn) 1 47 := ⟨by decide +kernel, rfl⟩
theorem dd_Puller_comesUndone_47 : pj_d cX5_comesUndone 47 (.aload_n 0) 1 48 := ⟨by decide +kernel, rfl⟩
theorem dd_Puller_comesUndone_48 : pj_d cX5_comesUndone 48 (.dup) 1 49 := ⟨by decide +kernel, rfl⟩
theorem dd_Puller_comesUndone_49 : pj_d cX5_comesUndone 49 (.getfield 28) 3 52 := ⟨by decide +kernel, rfl⟩
theorem dd_Puller_comesUndone_52 : pj_d cX5_comesUndone 52 (.lconst 1) 1 53 := ⟨by decide +kernel, rfl⟩
theorem dd_Puller_comesUndone_53 : pj_d cX5_comesUndone 53 (.iload_n 2) 1 54 := ⟨by decide +kernel, rfl⟩
theorem dd_Puller_comesUndone_54 : pj_d cX5_comesUndone 54 (.lshl) 1 55 := ⟨by decide +kernel, rfl⟩
theorem dd_Puller_comesUndone_55 : pj_d cX5_comesUndone 55 (.ldc2_w 55) 3 58 := ⟨by decide +kernel, rfl⟩
theorem dd_Puller_comesUndone_58 : pj_d cX5_comesUndone 58 (.lxor) 1 59 := ⟨by decide +kernel, rfl⟩
theorem dd_Puller_comesUndone_59 : pj_d cX5_comesUndone 59 (.land) 1 60 := ⟨by decide +kernel, rfl⟩
theorem dd_Puller_comesUndone_60 : pj_d cX5_comesUndone 60 (.putfield 28) 3 63 := ⟨by decide +kernel, rfl⟩
theorem dd_Puller_comesUndone_63 : pj_d cX5_comesUndone 63 (.aload_n 0) 1 64 := ⟨by decide +kernel, rfl⟩
theorem dd_Puller_comesUndone_64 : pj_d cX5_comesUndone 64 (.getfield 9) 3 67 := ⟨by decide +kernel, rfl⟩
theorem dd_Puller_comesUndone_67 : pj_d cX5_comesUndone 67 (.aload_n 0) 1 68 := ⟨by decide +kernel, rfl⟩
theorem dd_Puller_comesUndone_68 : pj_d cX5_comesUndone 68 (.getfield 15) 3 71 := ⟨by decide +kernel, rfl⟩
theorem dd_Puller_comesUndone_71 : pj_d cX5_comesUndone 71 (.iload_n 2) 1 72 := ⟨by decide +kernel, rfl⟩
theorem dd_Puller_comesUndone_72 : pj_d cX5_comesUndone 72 (.iastore) 1 73 := ⟨by decide +kernel, rfl⟩
theorem dd_Puller_comesUndone_73 : pj_d cX5_comesUndone 73 (.aload_n 0) 1 74 := ⟨by decide +kernel, rfl⟩
theorem dd_Puller_comesUndone_74 : pj_d cX5_comesUndone 74 (.dup) 1 75 := ⟨by decide +kernel, rfl⟩
theorem dd_Puller_comesUndone_75 : pj_d cX5_comesUndone 75 (.getfield 15) 3 78 := ⟨by decide +kernel, rfl⟩
theorem dd_Puller_comesUndone_78 : pj_d cX5_comesUndone 78 (.iconst 1) 1 79 := ⟨by decide +kernel, rfl⟩
theorem dd_Puller_comesUndone_79 : pj_d cX5_comesUndone 79 (.iadd) 1 80 := ⟨by decide +kernel, rfl⟩
theorem dd_Puller_comesUndone_80 : pj_d cX5_comesUndone 80 (.putfield 15) 3 83 := ⟨by decide +kernel, rfl⟩
theorem dd_Puller_comesUndone_83 : pj_d cX5_comesUndone 83 (.iconst 1) 1 84 := ⟨by decide +kernel, rfl⟩
theorem dd_Puller_comesUndone_84 : pj_d cX5_comesUndone 84 (.ireturn) 1 85 := ⟨by decide +kernel, rfl⟩
set_option maxHeartbeats 4000000 in
set_option maxRecDepth 100000 in
theorem ct_Puller_comesUndone {l : Launch} {B : pj_B} (hB : B.2.2.2.1 = pj_LC) {v2 : Int32} {z : pj_S} {r0 : Int32} {z0 : pj_S} (h : Puller_comesUndone v2 z = some (r0, z0)) : pj_Mi l yX5_comesUndone cX5_comesUndone 3 (some .boolean) 3 [.ref (B.2.1 6), .ref (B.2.1 8), .int v2] B z r0 z0 := by
  refine pj_meti (own := RX5) (by decide +kernel) rfl (Nat.le_of_ble_eq_true rfl) ?_
  intro A K hK C Q H lo ls P hl
  have hl : lv_has ls 3 [(0, .ref (B.2.1 6)), (1, .ref (B.2.1 8)), (2, .int v2)] := hl
  unfold Puller_comesUndone at h
  refine pj_aload_n C dd_Puller_comesUndone_0 rfl hl 0 rfl ?_
  refine pj_getJ C P 6 (LC6 hB) rfl fl_Puller_28 dd_Puller_comesUndone_1 ?_
  refine pj_iload_n C dd_Puller_comesUndone_4 rfl hl 2 rfl ?_
  obtain ⟨r3, z2, e1, h⟩ := pj_cE h
  refine pj_cNi (st := []) [.long (z.2 6 3), .int v2] C P (ct_PJ_bitOf hB e1) cl_Puller_44 rfl (by decide) (by decide) hl.1 (Nat.le_of_ble_eq_true rfl) dd_Puller_comesUndone_5 (fun H lo P => ?_)
  refine pj_if_ne C h dd_Puller_comesUndone_8 (fun h => ?_) (fun h => ?_)
  · refine pj_aload_n C dd_Puller_comesUndone_13 rfl hl 1 rfl ?_
    refine pj_aload_n C dd_Puller_comesUndone_14 rfl hl 0 rfl ?_
    refine pj_getJ C P 6 (LC6 hB) rfl fl_Puller_28 dd_Puller_comesUndone_15 ?_
    refine pj_aload_n C dd_Puller_comesUndone_18 rfl hl 1 rfl ?_
    refine pj_getJ C P 8 (LC8 hB) rfl fl_Puller_48 dd_Puller_comesUndone_19 ?_
    obtain ⟨r6, z5, e4, h⟩ := pj_cE h
    refine pj_cVl (st := []) [.long (z2.2 6 3), .long (z2.2 8 7)] C P 8 (LC8 hB) rfl (ct_Fabric_heldOf hB e4) cl_Puller_51 rfl (by decide) (by decide) hl.1 (Nat.le_of_ble_eq_true rfl) dd_Puller_comesUndone_22 (fun H lo P => ?_)
    refine pj_iload_n C dd_Puller_comesUndone_25 rfl hl 2 rfl ?_
    obtain ⟨r9, z8, e7, h⟩ := pj_cE h
    refine pj_cNi (st := []) [.long r6, .int v2] C P (ct_PJ_bitOf hB e7) cl_Puller_44 rfl (by decide) (by decide) hl.1 (Nat.le_of_ble_eq_true rfl) dd_Puller_comesUndone_26 (fun H lo P => ?_)
    refine pj_iconst (v := (nI 1)) C dd_Puller_comesUndone_29 rfl ?_
    refine pj_ic_eq C h dd_Puller_comesUndone_30 (fun h => ?_) (fun h => ?_)
    · refine pj_iconst (v := (nI 0)) C dd_Puller_comesUndone_45 rfl ?_
      exact pj_zret C Q P h dd_Puller_comesUndone_46
    · refine pj_aload_n C dd_Puller_comesUndone_33 rfl hl 0 rfl ?_
      refine pj_getI C P 6 (LC6 hB) rfl fl_Puller_15 dd_Puller_comesUndone_34 ?_
      refine pj_aload_n C dd_Puller_comesUndone_37 rfl hl 0 rfl ?_
      refine pj_getR C P 6 (LC6 hB) rfl fl_Puller_9 dd_Puller_comesUndone_38 ?_
      refine pj_alen (nI 36) C P 28 (LC28 hB) (by decide) (by decide) dd_Puller_comesUndone_41 ?_
      refine pj_ic_lt C h dd_Puller_comesUndone_42 (fun h => ?_) (fun h => ?_)
      · refine pj_aload_n C dd_Puller_comesUndone_47 rfl hl 0 rfl ?_
        refine pj_dup C dd_Puller_comesUndone_48 rfl ?_
        refine pj_getJ C P 6 (LC6 hB) rfl fl_Puller_28 dd_Puller_comesUndone_49 ?_
        refine pj_lconst (v := (1 : Int64)) C dd_Puller_comesUndone_52 rfl ?_
        refine pj_iload_n C dd_Puller_comesUndone_53 rfl hl 2 rfl ?_
        refine pj_lshl C dd_Puller_comesUndone_54 ?_
        refine pj_ldc2 (v := (-1 : Int64)) C co_Puller_55 dd_Puller_comesUndone_55 ?_
        refine pj_lxor C dd_Puller_comesUndone_58 ?_
        refine pj_land C dd_Puller_comesUndone_59 ?_
        refine pj_putJ C P 6 (LC6 hB) rfl fl_Puller_28 rfl fy_5_3 h dd_Puller_comesUndone_60 (fun H lo z10 h P => ?_)
        refine pj_aload_n C dd_Puller_comesUndone_63 rfl hl 0 rfl ?_
        refine pj_getR C P 6 (LC6 hB) rfl fl_Puller_9 dd_Puller_comesUndone_64 ?_
        refine pj_aload_n C dd_Puller_comesUndone_67 rfl hl 0 rfl ?_
        refine pj_getI C P 6 (LC6 hB) rfl fl_Puller_15 dd_Puller_comesUndone_68 ?_
        refine pj_iload_n C dd_Puller_comesUndone_71 rfl hl 2 rfl ?_
        refine pj_iast C P 28 (LC28 hB) h dd_Puller_comesUndone_72 (fun H lo z11 h P => ?_)
        refine pj_aload_n C dd_Puller_comesUndone_73 rfl hl 0 rfl ?_
        refine pj_dup C dd_Puller_comesUndone_74 rfl ?_
        refine pj_getI C P 6 (LC6 hB) rfl fl_Puller_15 dd_Puller_comesUndone_75 ?_
        refine pj_iconst (v := (nI 1)) C dd_Puller_comesUndone_78 rfl ?_
        refine pj_iadd C dd_Puller_comesUndone_79 ?_
        refine pj_putI C P 6 (LC6 hB) rfl fl_Puller_15 rfl fy_5_1 h dd_Puller_comesUndone_80 (fun H lo z12 h P => ?_)
        refine pj_iconst (v := (nI 1)) C dd_Puller_comesUndone_83 rfl ?_
        exact pj_zret C Q P h dd_Puller_comesUndone_84
      · refine pj_iconst (v := (nI 0)) C dd_Puller_comesUndone_45 rfl ?_
        exact pj_zret C Q P h dd_Puller_comesUndone_46
  · refine pj_iconst (v := (nI 1)) C dd_Puller_comesUndone_11 rfl ?_
    exact pj_zret C Q P h dd_Puller_comesUndone_12
theorem dd_Puller_walk_0 : pj_d cX5_walk 0 (.aload_n 0) 1 1 := ⟨by decide +kernel, rfl⟩
theorem dd_Puller_walk_1 : pj_d cX5_walk 1 (.iconst 0) 1 2 := ⟨by decide +kernel, rfl⟩
theorem dd_Puller_walk_2 : pj_d cX5_walk 2 (.putfield 15) 3 5 := ⟨by decide +kernel, rfl⟩
theorem dd_Puller_walk_5 : pj_d cX5_walk 5 (.aload_n 0) 1 6 := ⟨by decide +kernel, rfl⟩
theorem dd_Puller_walk_6 : pj_d cX5_walk 6 (.iconst (-1)) 1 7 := ⟨by decide +kernel, rfl⟩
theorem dd_Puller_walk_7 : pj_d cX5_walk 7 (.putfield 19) 3 10 := ⟨by decide +kernel, rfl⟩
theorem dd_Puller_walk_10 : pj_d cX5_walk 10 (.aload_n 0) 1 11 := ⟨by decide +kernel, rfl⟩
theorem dd_Puller_walk_11 : pj_d cX5_walk 11 (.aload_n 1) 1 12 := ⟨by decide +kernel, rfl⟩
theorem dd_Puller_walk_12 : pj_d cX5_walk 12 (.getfield 22) 3 15 := ⟨by decide +kernel, rfl⟩
theorem dd_Puller_walk_15 : pj_d cX5_walk 15 (.putfield 28) 3 18 := ⟨by decide +kernel, rfl⟩
theorem dd_Puller_walk_18 : pj_d cX5_walk 18 (.aload_n 0) 1 19 := ⟨by decide +kernel, rfl⟩
theorem dd_Puller_walk_19 : pj_d cX5_walk 19 (.lconst 0) 1 20 := ⟨by decide +kernel, rfl⟩
theorem dd_Puller_walk_20 : pj_d cX5_walk 20 (.putfield 29) 3 23 := ⟨by decide +kernel, rfl⟩
theorem dd_Puller_walk_23 : pj_d cX5_walk 23 (.iload_n 2) 1 24 := ⟨by decide +kernel, rfl⟩
theorem dd_Puller_walk_24 : pj_d cX5_walk 24 (.istore 5) 2 26 := ⟨by decide +kernel, rfl⟩
theorem dd_Puller_walk_26 : pj_d cX5_walk 26 (.iconst 0) 1 27 := ⟨by decide +kernel, rfl⟩
theorem dd_Puller_walk_27 : pj_d cX5_walk 27 (.istore 6) 2 29 := ⟨by decide +kernel, rfl⟩
theorem dd_Puller_walk_29 : pj_d cX5_walk 29 (.iload 6) 2 31 := ⟨by decide +kernel, rfl⟩
theorem dd_Puller_walk_31 : pj_d cX5_walk 31 (.bipush 36) 2 33 := ⟨by decide +kernel, rfl⟩
theorem dd_Puller_walk_33 : pj_dj cX5_walk 33 (.if_icmp .ge 90) 90 36 123 := ⟨by decide +kernel, rfl, by decide⟩
theorem dd_Puller_walk_36 : pj_d cX5_walk 36 (.aload_n 0) 1 37 := ⟨by decide +kernel, rfl⟩
theorem dd_Puller_walk_37 : pj_d cX5_walk 37 (.getfield 15) 3 40 := ⟨by decide +kernel, rfl⟩
theorem dd_Puller_walk_40 : pj_d cX5_walk 40 (.iload 4) 2 42 := ⟨by decide +kernel, rfl⟩
theorem dd_Puller_walk_42 : pj_dj cX5_walk 42 (.if_icmp .ge 81) 81 45 123 := ⟨by decide +kernel, rfl, by decide⟩
theorem dd_Puller_walk_45 : pj_d cX5_walk 45 (.aload_n 1) 1 46 := ⟨by decide +kernel, rfl⟩
theorem dd_Puller_walk_46 : pj_d cX5_walk 46 (.iload 5) 2 48 := ⟨by decide +kernel, rfl⟩
theorem dd_Puller_walk_48 : pj_d cX5_walk 48 (.invokevirtual 32) 3 51 := ⟨by decide +kernel, rfl⟩
theorem dd_Puller_walk_51 : pj_d cX5_walk 51 (.istore 7) 2 53 := ⟨by decide +kernel, rfl⟩
theorem dd_Puller_walk_53 : pj_d cX5_walk 53 (.aload_n 0) 1 54 := ⟨by decide +kernel, rfl⟩
theorem dd_Puller_walk_54 : pj_d cX5_walk 54 (.aload_n 1) 1 55 := ⟨by decide +kernel, rfl⟩
theorem dd_Puller_walk_55 : pj_d cX5_walk 55 (.iload 7) 2 57 := ⟨by decide +kernel, rfl⟩
theorem dd_Puller_walk_57 : pj_d cX5_walk 57 (.invokevirtual 36) 3 60 := ⟨by decide +kernel, rfl⟩
theorem dd_Puller_walk_60 : pj_dj cX5_walk 60 (.ifCond .ne 10) 10 63 70 := ⟨by decide +kernel, rfl, by decide⟩
theorem dd_Puller_walk_63 : pj_d cX5_walk 63 (.aload_n 0) 1 64 := ⟨by decide +kernel, rfl⟩
theorem dd_Puller_walk_64 : pj_d cX5_walk 64 (.iload 5) 2 66 := ⟨by decide +kernel, rfl⟩
theorem dd_Puller_walk_66 : pj_d cX5_walk 66 (.putfield 19) 3 69 := ⟨by decide +kernel, rfl⟩
theorem dd_Puller_walk_69 : pj_d cX5_walk 69 (.return_) 1 70 := ⟨by decide +kernel, rfl⟩
theorem dd_Puller_walk_70 : pj_d cX5_walk 70 (.aload_n 0) 1 71 := ⟨by decide +kernel, rfl⟩
theorem dd_Puller_walk_71 : pj_d cX5_walk 71 (.dup) 1 72 := ⟨by decide +kernel, rfl⟩
theorem dd_Puller_walk_72 : pj_d cX5_walk 72 (.getfield 29) 3 75 := ⟨by decide +kernel, rfl⟩
theorem dd_Puller_walk_75 : pj_d cX5_walk 75 (.lconst 1) 1 76 := ⟨by decide +kernel, rfl⟩
theorem dd_Puller_walk_76 : pj_d cX5_walk 76 (.iload 7) 2 78 := ⟨by decide +kernel, rfl⟩
theorem dd_Puller_walk_78 : pj_d cX5_walk 78 (.lshl) 1 79 := ⟨by decide +kernel, rfl⟩
theorem dd_Puller_walk_79 : pj_d cX5_walk 79 (.lor) 1 80 := ⟨by decide +kernel, rfl⟩
theorem dd_Puller_walk_80 : pj_d cX5_walk 80 (.putfield 29) 3 83 := ⟨by decide +kernel, rfl⟩
theorem dd_Puller_walk_83 : pj_d cX5_walk 83 (.iload_n 3) 1 84 := ⟨by decide +kernel, rfl⟩
theorem dd_Puller_walk_84 : pj_d cX5_walk 84 (.iconst 1) 1 85 := ⟨by decide +kernel, rfl⟩
theorem dd_Puller_walk_85 : pj_dj cX5_walk 85 (.if_icmp .ne 10) 10 88 95 := ⟨by decide +kernel, rfl, by decide⟩
theorem dd_Puller_walk_88 : pj_d cX5_walk 88 (.iload 5) 2 90 := ⟨by decide +kernel, rfl⟩
theorem dd_Puller_walk_90 : pj_d cX5_walk 90 (.iconst 1) 1 91 := ⟨by decide +kernel, rfl⟩
theorem dd_Puller_walk_91 : pj_d cX5_walk 91 (.iadd) 1 92 := ⟨by decide +kernel, rfl⟩
theorem dd_Puller_walk_92 : pj_dj cX5_walk 92 (.goto 7) 7 95 99 := ⟨by decide +kernel, rfl, by decide⟩
theorem dd_Puller_walk_95 : pj_d cX5_walk 95 (.iload 5) 2 97 := ⟨by decide +kernel, rfl⟩
theorem dd_Puller_walk_97 : pj_d cX5_walk 97 (.iconst 1) 1 98 := ⟨by decide +kernel, rfl⟩
theorem dd_Puller_walk_98 : pj_d cX5_walk 98 (.isub) 1 99 := ⟨by decide +kernel, rfl⟩
theorem dd_Puller_walk_99 : pj_d cX5_walk 99 (.istore 8) 2 101 := ⟨by decide +kernel, rfl⟩
theorem dd_Puller_walk_101 : pj_d cX5_walk 101 (.aload_n 1) 1 102 := ⟨by decide +kernel, rfl⟩
theorem dd_Puller_walk_102 : pj_d cX5_walk 102 (.iload 5) 2 104 := ⟨by decide +kernel, rfl⟩
theorem dd_Puller_walk_104 : pj_d cX5_walk 104 (.iload 8) 2 106 := ⟨by decide +kernel, rfl⟩
theorem dd_Puller_walk_106 : pj_d cX5_walk 106 (.invokevirtual 40) 3 109 := ⟨by decide +kernel, rfl⟩
theorem dd_Puller_walk_109 : pj_dj cX5_walk 109 (.ifCond .ne 4) 4 112 113 := ⟨by decide +kernel, rfl, by decide⟩
theorem dd_Puller_walk_112 : pj_d cX5_walk 112 (.return_) 1 113 := ⟨by decide +kernel, rfl⟩
theorem dd_Puller_walk_113 : pj_d cX5_walk 113 (.iload 8) 2 115 := ⟨by decide +kernel, rfl⟩
theorem dd_Puller_walk_115 : pj_d cX5_walk 115 (.istore 5) 2 117 := ⟨by decide +kernel, rfl⟩
theorem dd_Puller_walk_117 : pj_d cX5_walk 117 (.iinc 6 1) 3 120 := ⟨by decide +kernel, rfl⟩
theorem dd_Puller_walk_120 : pj_dj cX5_walk 120 (.goto (-91)) (-91) 123 29 := ⟨by decide +kernel, rfl, by decide⟩
theorem dd_Puller_walk_123 : pj_d cX5_walk 123 (.return_) 1 124 := ⟨by decide +kernel, rfl⟩
set_option maxHeartbeats 4000000 in
set_option maxRecDepth 100000 in
theorem bt_Puller_walk_99 {B : pj_B} {A : Nat → Prop} {K : pj_K} {r0 : Unit} {z0 : pj_S} (hB : B.2.2.2.1 = pj_LC) (C : pj_C B A K cX5_walk 9 RX5 4) (Q : pj_Qv B A K none r0 z0) (s29 : Int32 → Int32 → Int32 → Int32 → pj_S → Option (Unit × pj_S)) (k29 : ∀ (v3 : Int32) (v4 : Int32) (v5 : Int32) (v6 : Int32) (z : pj_S) (H : Heap) (lo : List Loc) (ls : Array Slot), s29 v3 v4 v5 v6 z = some (r0, z0) → pj_P B A K z H lo → lv_has ls 9 [(0, .ref (B.2.1 6)), (1, .ref (B.2.1 8)), (3, .int v3), (4, .int v4), (5, .int v5), (6, .int v6)] → pj_W K H lo 29 ls []) (v3 : Int32) (v4 : Int32) (v5 : Int32) (v6 : Int32) (t0 : Int32) (z : pj_S) (H : Heap) (lo : List Loc) (ls : Array Slot) (h : Puller_walk_99 s29 v3 v4 v5 v6 t0 z = some (r0, z0)) (P : pj_P B A K z H lo) (hl : lv_has ls 9 [(0, .ref (B.2.1 6)), (1, .ref (B.2.1 8)), (3, .int v3), (4, .int v4), (5, .int v5), (6, .int v6)]) : pj_W K H lo 99 ls [.int t0] := by
  unfold Puller_walk_99 at h
  refine pj_istore [(8, .int t0), (0, .ref (B.2.1 6)), (1, .ref (B.2.1 8)), (3, .int v3), (4, .int v4), (5, .int v5), (6, .int v6)] C dd_Puller_walk_99 hl (by decide) rfl (fun ls hl => ?_)
  refine pj_aload_n C dd_Puller_walk_101 rfl hl 2 rfl ?_
  refine pj_iload C dd_Puller_walk_102 hl 5 rfl ?_
  refine pj_iload C dd_Puller_walk_104 hl 0 rfl ?_
  obtain ⟨r3, z2, e1, h⟩ := pj_cE h
  refine pj_cVi (st := []) [.int v5, .int t0] C P 8 (LC8 hB) rfl (ct_Fabric_hasThreadBetween hB e1) cl_Puller_40 rfl (by decide) (by decide) hl.1 (Nat.le_of_ble_eq_true rfl) dd_Puller_walk_106 (fun H lo P => ?_)
  refine pj_if_ne C h dd_Puller_walk_109 (fun h => ?_) (fun h => ?_)
  · refine pj_iload C dd_Puller_walk_113 hl 0 rfl ?_
    refine pj_istore [(5, .int t0), (8, .int t0), (0, .ref (B.2.1 6)), (1, .ref (B.2.1 8)), (3, .int v3), (4, .int v4), (6, .int v6)] C dd_Puller_walk_115 hl (by decide) rfl (fun ls hl => ?_)
    refine pj_iinc (v := (nI 1)) [(5, .int t0), (8, .int t0), (0, .ref (B.2.1 6)), (1, .ref (B.2.1 8)), (3, .int v3), (4, .int v4)] C h rfl dd_Puller_walk_117 hl 6 rfl (by decide) rfl (fun x4 ls h hl => ?_)
    refine pj_goto C dd_Puller_walk_120 ?_
    exact k29 _ _ _ _ _ _ _ _ h P (lv_sub hl [3, 4, 5, 6, 1, 0] rfl)
  · exact pj_vret C Q P h dd_Puller_walk_112
set_option maxHeartbeats 4000000 in
set_option maxRecDepth 100000 in
theorem bt_Puller_walk_63 {B : pj_B} {A : Nat → Prop} {K : pj_K} {r0 : Unit} {z0 : pj_S} (hB : B.2.2.2.1 = pj_LC) (C : pj_C B A K cX5_walk 9 RX5 4) (Q : pj_Qv B A K none r0 z0)  (v5 : Int32) (z : pj_S) (H : Heap) (lo : List Loc) (ls : Array Slot) (h : Puller_walk_63 v5 z = some (r0, z0)) (P : pj_P B A K z H lo) (hl : lv_has ls 9 [(0, .ref (B.2.1 6)), (5, .int v5)]) : pj_W K H lo 63 ls [] := by
  unfold Puller_walk_63 at h
  refine pj_aload_n C dd_Puller_walk_63 rfl hl 0 rfl ?_
  refine pj_iload C dd_Puller_walk_64 hl 1 rfl ?_
  refine pj_putI C P 6 (LC6 hB) rfl fl_Puller_19 rfl fy_5_2 h dd_Puller_walk_66 (fun H lo z1 h P => ?_)
  exact pj_vret C Q P h dd_Puller_walk_69
set_option maxHeartbeats 4000000 in
set_option maxRecDepth 100000 in
theorem bt_Puller_walk_29 {B : pj_B} {A : Nat → Prop} {K : pj_K} {r0 : Unit} {z0 : pj_S} (hB : B.2.2.2.1 = pj_LC) (C : pj_C B A K cX5_walk 9 RX5 4) (Q : pj_Qv B A K none r0 z0) (s29 : Int32 → Int32 → Int32 → Int32 → pj_S → Option (Unit × pj_S)) (k29 : ∀ (v3 : Int32) (v4 : Int32) (v5 : Int32) (v6 : Int32) (z : pj_S) (H : Heap) (lo : List Loc) (ls : Array Slot), s29 v3 v4 v5 v6 z = some (r0, z0) → pj_P B A K z H lo → lv_has ls 9 [(0, .ref (B.2.1 6)), (1, .ref (B.2.1 8)), (3, .int v3), (4, .int v4), (5, .int v5), (6, .int v6)] → pj_W K H lo 29 ls []) (v3 : Int32) (v4 : Int32) (v5 : Int32) (v6 : Int32) (z : pj_S) (H : Heap) (lo : List Loc) (ls : Array Slot) (h : Puller_walk_29 s29 v3 v4 v5 v6 z = some (r0, z0)) (P : pj_P B A K z H lo) (hl : lv_has ls 9 [(0, .ref (B.2.1 6)), (1, .ref (B.2.1 8)), (3, .int v3), (4, .int v4), (5, .int v5), (6, .int v6)]) : pj_W K H lo 29 ls [] := by
  unfold Puller_walk_29 at h
  refine pj_iload C dd_Puller_walk_29 hl 5 rfl ?_
  refine pj_bipush (v := (nI 36)) C dd_Puller_walk_31 rfl ?_
  refine pj_ic_ge C h dd_Puller_walk_33 (fun h => ?_) (fun h => ?_)
  · exact pj_vret C Q P h dd_Puller_walk_123
  · refine pj_aload_n C dd_Puller_walk_36 rfl hl 0 rfl ?_
    refine pj_getI C P 6 (LC6 hB) rfl fl_Puller_15 dd_Puller_walk_37 ?_
    refine pj_iload C dd_Puller_walk_40 hl 3 rfl ?_
    refine pj_ic_ge C h dd_Puller_walk_42 (fun h => ?_) (fun h => ?_)
    · exact pj_vret C Q P h dd_Puller_walk_123
    · refine pj_aload_n C dd_Puller_walk_45 rfl hl 1 rfl ?_
      refine pj_iload C dd_Puller_walk_46 hl 4 rfl ?_
      obtain ⟨r3, z2, e1, h⟩ := pj_cE h
      refine pj_cVi (st := []) [.int v5] C P 8 (LC8 hB) rfl (ct_Fabric_stitchAt hB e1) cl_Puller_32 rfl (by decide) (by decide) hl.1 (Nat.le_of_ble_eq_true rfl) dd_Puller_walk_48 (fun H lo P => ?_)
      refine pj_istore [(7, .int r3), (0, .ref (B.2.1 6)), (1, .ref (B.2.1 8)), (3, .int v3), (4, .int v4), (5, .int v5), (6, .int v6)] C dd_Puller_walk_51 hl (by decide) rfl (fun ls hl => ?_)
      refine pj_aload_n C dd_Puller_walk_53 rfl hl 1 rfl ?_
      refine pj_aload_n C dd_Puller_walk_54 rfl hl 2 rfl ?_
      refine pj_iload C dd_Puller_walk_55 hl 0 rfl ?_
      obtain ⟨r6, z5, e4, h⟩ := pj_cE h
      refine pj_cVi (st := []) [.ref (B.2.1 8), .int r3] C P 6 (LC6 hB) rfl (ct_Puller_comesUndone hB e4) cl_Puller_36 rfl (by decide) (by decide) hl.1 (Nat.le_of_ble_eq_true rfl) dd_Puller_walk_57 (fun H lo P => ?_)
      refine pj_if_ne C h dd_Puller_walk_60 (fun h => ?_) (fun h => ?_)
      · refine pj_aload_n C dd_Puller_walk_70 rfl hl 1 rfl ?_
        refine pj_dup C dd_Puller_walk_71 rfl ?_
        refine pj_getJ C P 6 (LC6 hB) rfl fl_Puller_29 dd_Puller_walk_72 ?_
        refine pj_lconst (v := (1 : Int64)) C dd_Puller_walk_75 rfl ?_
        refine pj_iload C dd_Puller_walk_76 hl 0 rfl ?_
        refine pj_lshl C dd_Puller_walk_78 ?_
        refine pj_lor C dd_Puller_walk_79 ?_
        refine pj_putJ C P 6 (LC6 hB) rfl fl_Puller_29 rfl fy_5_4 h dd_Puller_walk_80 (fun H lo z7 h P => ?_)
        refine pj_iload_n C dd_Puller_walk_83 rfl hl 3 rfl ?_
        refine pj_iconst (v := (nI 1)) C dd_Puller_walk_84 rfl ?_
        refine pj_ic_ne C h dd_Puller_walk_85 (fun h => ?_) (fun h => ?_)
        · refine pj_iload C dd_Puller_walk_95 hl 5 rfl ?_
          refine pj_iconst (v := (nI 1)) C dd_Puller_walk_97 rfl ?_
          refine pj_isub C dd_Puller_walk_98 ?_
          exact bt_Puller_walk_99 hB C Q s29 k29 _ _ _ _ _ _ _ _ _ h P (lv_sub hl [1, 2, 3, 4, 5, 6] rfl)
        · refine pj_iload C dd_Puller_walk_88 hl 5 rfl ?_
          refine pj_iconst (v := (nI 1)) C dd_Puller_walk_90 rfl ?_
          refine pj_iadd C dd_Puller_walk_91 ?_
          refine pj_goto C dd_Puller_walk_92 ?_
          exact bt_Puller_walk_99 hB C Q s29 k29 _ _ _ _ _ _ _ _ _ h P (lv_sub hl [1, 2, 3, 4, 5, 6] rfl)
      · exact bt_Puller_walk_63 hB C Q _ _ _ _ _ h P (lv_sub hl [1, 5] rfl)
theorem lt_Puller_walk_29 {B : pj_B} {A : Nat → Prop} {K : pj_K} {r0 : Unit} {z0 : pj_S} (hB : B.2.2.2.1 = pj_LC) (C : pj_C B A K cX5_walk 9 RX5 4) (Q : pj_Qv B A K none r0 z0)  : ∀ (n : Nat) (v3 : Int32) (v4 : Int32) (v5 : Int32) (v6 : Int32) (z : pj_S) (H : Heap) (lo : List Loc) (ls : Array Slot), pj_lp4 Puller_walk_29 n v3 v4 v5 v6 z = some (r0, z0) → pj_P B A K z H lo → lv_has ls 9 [(0, .ref (B.2.1 6)), (1, .ref (B.2.1 8)), (3, .int v3), (4, .int v4), (5, .int v5), (6, .int v6)] → pj_W K H lo 29 ls [] := by
  intro n
  induction n with
  | zero => intro v3 v4 v5 v6 z H lo ls h; rw [pj_lp4_0] at h; cases h
  | succ n ih =>
    intro v3 v4 v5 v6 z H lo ls h P hl
    rw [pj_lp4_s] at h
    exact bt_Puller_walk_29 hB C Q   (pj_lp4 Puller_walk_29 n) ih v3 v4 v5 v6 z H lo ls h P hl
set_option maxHeartbeats 4000000 in
set_option maxRecDepth 100000 in
theorem ct_Puller_walk {l : Launch} {B : pj_B} (hB : B.2.2.2.1 = pj_LC) {v2 : Int32} {v3 : Int32} {v4 : Int32} {z : pj_S} {r0 : Unit} {z0 : pj_S} (h : Puller_walk v2 v3 v4 z = some (r0, z0)) : pj_Mv l yX5_walk cX5_walk 9 none 4 [.ref (B.2.1 6), .ref (B.2.1 8), .int v2, .int v3, .int v4] B z r0 z0 := by
  refine pj_metv (own := RX5) (by decide +kernel) rfl (Nat.le_of_ble_eq_true rfl) ?_
  intro A K hK C Q H lo ls P hl
  have hl : lv_has ls 9 [(0, .ref (B.2.1 6)), (1, .ref (B.2.1 8)), (2, .int v2), (3, .int v3), (4, .int v4)] := hl
  unfold Puller_walk at h
  refine pj_aload_n C dd_Puller_walk_0 rfl hl 0 rfl ?_
  refine pj_iconst (v := (nI 0)) C dd_Puller_walk_1 rfl ?_
  refine pj_putI C P 6 (LC6 hB) rfl fl_Puller_15 rfl fy_5_1 h dd_Puller_walk_2 (fun H lo z1 h P => ?_)
  refine pj_aload_n C dd_Puller_walk_5 rfl hl 0 rfl ?_
  refine pj_iconst (v := (-1 : Int32)) C dd_Puller_walk_6 rfl ?_
  refine pj_putI C P 6 (LC6 hB) rfl fl_Puller_19 rfl fy_5_2 h dd_Puller_walk_7 (fun H lo z2 h P => ?_)
  refine pj_aload_n C dd_Puller_walk_10 rfl hl 0 rfl ?_
  refine pj_aload_n C dd_Puller_walk_11 rfl hl 1 rfl ?_
  refine pj_getJ C P 8 (LC8 hB) rfl fl_Puller_22 dd_Puller_walk_12 ?_
  refine pj_putJ C P 6 (LC6 hB) rfl fl_Puller_28 rfl fy_5_3 h dd_Puller_walk_15 (fun H lo z3 h P => ?_)
  refine pj_aload_n C dd_Puller_walk_18 rfl hl 0 rfl ?_
  refine pj_lconst (v := (0 : Int64)) C dd_Puller_walk_19 rfl ?_
  refine pj_putJ C P 6 (LC6 hB) rfl fl_Puller_29 rfl fy_5_4 h dd_Puller_walk_20 (fun H lo z4 h P => ?_)
  refine pj_iload_n C dd_Puller_walk_23 rfl hl 2 rfl ?_
  refine pj_istore [(5, .int v2), (0, .ref (B.2.1 6)), (1, .ref (B.2.1 8)), (2, .int v2), (3, .int v3), (4, .int v4)] C dd_Puller_walk_24 hl (by decide) rfl (fun ls hl => ?_)
  refine pj_iconst (v := (nI 0)) C dd_Puller_walk_26 rfl ?_
  refine pj_istore [(6, .int (nI 0)), (5, .int v2), (0, .ref (B.2.1 6)), (1, .ref (B.2.1 8)), (2, .int v2), (3, .int v3), (4, .int v4)] C dd_Puller_walk_27 hl (by decide) rfl (fun ls hl => ?_)
  exact lt_Puller_walk_29 hB C Q 4000 _ _ _ _ _ _ _ _ h P (lv_sub hl [2, 3, 5, 6, 1, 0] rfl)
theorem dd_Fabric_kindOf_0 : pj_d cX1_kindOf 0 (.aload_n 0) 1 1 := ⟨by decide +kernel, rfl⟩
theorem dd_Fabric_kindOf_1 : pj_d cX1_kindOf 1 (.getfield 30) 3 4 := ⟨by decide +kernel, rfl⟩
theorem dd_Fabric_kindOf_4 : pj_d cX1_kindOf 4 (.iload_n 1) 1 5 := ⟨by decide +kernel, rfl⟩
theorem dd_Fabric_kindOf_5 : pj_d cX1_kindOf 5 (.invokestatic 48) 3 8 := ⟨by decide +kernel, rfl⟩
theorem dd_Fabric_kindOf_8 : pj_d cX1_kindOf 8 (.iconst 2) 1 9 := ⟨by decide +kernel, rfl⟩
theorem dd_Fabric_kindOf_9 : pj_d cX1_kindOf 9 (.aload_n 0) 1 10 := ⟨by decide +kernel, rfl⟩
theorem dd_Fabric_kindOf_10 : pj_d cX1_kindOf 10 (.getfield 33) 3 13 := ⟨by decide +kernel, rfl⟩
theorem dd_Fabric_kindOf_13 : pj_d cX1_kindOf 13 (.iload_n 1) 1 14 := ⟨by decide +kernel, rfl⟩
theorem dd_Fabric_kindOf_14 : pj_d cX1_kindOf 14 (.invokestatic 48) 3 17 := ⟨by decide +kernel, rfl⟩
theorem dd_Fabric_kindOf_17 : pj_d cX1_kindOf 17 (.imul) 1 18 := ⟨by decide +kernel, rfl⟩
theorem dd_Fabric_kindOf_18 : pj_d cX1_kindOf 18 (.iadd) 1 19 := ⟨by decide +kernel, rfl⟩
theorem dd_Fabric_kindOf_19 : pj_d cX1_kindOf 19 (.ireturn) 1 20 := ⟨by decide +kernel, rfl⟩
set_option maxHeartbeats 4000000 in
set_option maxRecDepth 100000 in
theorem ct_Fabric_kindOf {l : Launch} {B : pj_B} (hB : B.2.2.2.1 = pj_LC) {v1 : Int32} {z : pj_S} {r0 : Int32} {z0 : pj_S} (h : Fabric_kindOf v1 z = some (r0, z0)) : pj_Mi l yX1_kindOf cX1_kindOf 2 (some .int) 2 [.ref (B.2.1 8), .int v1] B z r0 z0 := by
  refine pj_meti (own := RX1) (by decide +kernel) rfl (Nat.le_of_ble_eq_true rfl) ?_
  intro A K hK C Q H lo ls P hl
  have hl : lv_has ls 2 [(0, .ref (B.2.1 8)), (1, .int v1)] := hl
  unfold Fabric_kindOf at h
  refine pj_aload_n C dd_Fabric_kindOf_0 rfl hl 0 rfl ?_
  refine pj_getJ C P 8 (LC8 hB) rfl fl_Fabric_30 dd_Fabric_kindOf_1 ?_
  refine pj_iload_n C dd_Fabric_kindOf_4 rfl hl 1 rfl ?_
  obtain ⟨r3, z2, e1, h⟩ := pj_cE h
  refine pj_cNi (st := []) [.long (z.2 8 4), .int v1] C P (ct_PJ_bitOf hB e1) cl_Fabric_48 rfl (by decide) (by decide) hl.1 (Nat.le_of_ble_eq_true rfl) dd_Fabric_kindOf_5 (fun H lo P => ?_)
  refine pj_iconst (v := (nI 2)) C dd_Fabric_kindOf_8 rfl ?_
  refine pj_aload_n C dd_Fabric_kindOf_9 rfl hl 0 rfl ?_
  refine pj_getJ C P 8 (LC8 hB) rfl fl_Fabric_33 dd_Fabric_kindOf_10 ?_
  refine pj_iload_n C dd_Fabric_kindOf_13 rfl hl 1 rfl ?_
  obtain ⟨r6, z5, e4, h⟩ := pj_cE h
  refine pj_cNi (st := [.int (nI 2), .int r3]) [.long (z2.2 8 5), .int v1] C P (ct_PJ_bitOf hB e4) cl_Fabric_48 rfl (by decide) (by decide) hl.1 (Nat.le_of_ble_eq_true rfl) dd_Fabric_kindOf_14 (fun H lo P => ?_)
  refine pj_imul C dd_Fabric_kindOf_17 ?_
  refine pj_iadd C dd_Fabric_kindOf_18 ?_
  exact pj_iret C Q P h dd_Fabric_kindOf_19
theorem dd_Fabric_wind_0 : pj_d cX1_wind 0 (.iconst 0) 1 1 := ⟨by decide +kernel, rfl⟩
theorem dd_Fabric_wind_1 : pj_d cX1_wind 1 (.istore_n 3) 1 2 := ⟨by decide +kernel, rfl⟩
theorem dd_Fabric_wind_2 : pj_d cX1_wind 2 (.iconst 0) 1 3 := ⟨by decide +kernel, rfl⟩
theorem dd_Fabric_wind_3 : pj_d cX1_wind 3 (.istore 4) 2 5 := ⟨by decide +kernel, rfl⟩
theorem dd_Fabric_wind_5 : pj_d cX1_wind 5 (.iload 4) 2 7 := ⟨by decide +kernel, rfl⟩
theorem dd_Fabric_wind_7 : pj_d cX1_wind 7 (.bipush 48) 2 9 := ⟨by decide +kernel, rfl⟩
theorem dd_Fabric_wind_9 : pj_dj cX1_wind 9 (.if_icmp .ge 43) 43 12 52 := ⟨by decide +kernel, rfl, by decide⟩
theorem dd_Fabric_wind_12 : pj_d cX1_wind 12 (.lload_n 1) 1 13 := ⟨by decide +kernel, rfl⟩
theorem dd_Fabric_wind_13 : pj_d cX1_wind 13 (.aload_n 0) 1 14 := ⟨by decide +kernel, rfl⟩
theorem dd_Fabric_wind_14 : pj_d cX1_wind 14 (.getfield 42) 3 17 := ⟨by decide +kernel, rfl⟩
theorem dd_Fabric_wind_17 : pj_d cX1_wind 17 (.ldc2_w 56) 3 20 := ⟨by decide +kernel, rfl⟩
theorem dd_Fabric_wind_20 : pj_d cX1_wind 20 (.lxor) 1 21 := ⟨by decide +kernel, rfl⟩
theorem dd_Fabric_wind_21 : pj_d cX1_wind 21 (.land) 1 22 := ⟨by decide +kernel, rfl⟩
theorem dd_Fabric_wind_22 : pj_d cX1_wind 22 (.iload 4) 2 24 := ⟨by decide +kernel, rfl⟩
theorem dd_Fabric_wind_24 : pj_d cX1_wind 24 (.invokestatic 48) 3 27 := ⟨by decide +kernel, rfl⟩
theorem dd_Fabric_wind_27 : pj_d cX1_wind 27 (.iconst 1) 1 28 := ⟨by decide +kernel, rfl⟩
theorem dd_Fabric_wind_28 : pj_dj cX1_wind 28 (.if_icmp .ne 18) 18 31 46 := ⟨by decide +kernel, rfl, by decide⟩
theorem dd_Fabric_wind_31 : pj_d cX1_wind 31 (.iload_n 3) 1 32 := ⟨by decide +kernel, rfl⟩
theorem dd_Fabric_wind_32 : pj_d cX1_wind 32 (.getstatic 91) 3 35 := ⟨by decide +kernel, rfl⟩
theorem dd_Fabric_wind_35 : pj_d cX1_wind 35 (.aload_n 0) 1 36 := ⟨by decide +kernel, rfl⟩
theorem dd_Fabric_wind_36 : pj_d cX1_wind 36 (.iload 4) 2 38 := ⟨by decide +kernel, rfl⟩
theorem dd_Fabric_wind_38 : pj_d cX1_wind 38 (.invokevirtual 95) 3 41 := ⟨by decide +kernel, rfl⟩
theorem dd_Fabric_wind_41 : pj_d cX1_wind 41 (.iconst 3) 1 42 := ⟨by decide +kernel, rfl⟩
theorem dd_Fabric_wind_42 : pj_d cX1_wind 42 (.iand) 1 43 := ⟨by decide +kernel, rfl⟩
theorem dd_Fabric_wind_43 : pj_d cX1_wind 43 (.iaload) 1 44 := ⟨by decide +kernel, rfl⟩
theorem dd_Fabric_wind_44 : pj_d cX1_wind 44 (.iadd) 1 45 := ⟨by decide +kernel, rfl⟩
theorem dd_Fabric_wind_45 : pj_d cX1_wind 45 (.istore_n 3) 1 46 := ⟨by decide +kernel, rfl⟩
theorem dd_Fabric_wind_46 : pj_d cX1_wind 46 (.iinc 4 1) 3 49 := ⟨by decide +kernel, rfl⟩
theorem dd_Fabric_wind_49 : pj_dj cX1_wind 49 (.goto (-44)) (-44) 52 5 := ⟨by decide +kernel, rfl, by decide⟩
theorem dd_Fabric_wind_52 : pj_d cX1_wind 52 (.aload_n 0) 1 53 := ⟨by decide +kernel, rfl⟩
theorem dd_Fabric_wind_53 : pj_d cX1_wind 53 (.dup) 1 54 := ⟨by decide +kernel, rfl⟩
theorem dd_Fabric_wind_54 : pj_d cX1_wind 54 (.getfield 42) 3 57 := ⟨by decide +kernel, rfl⟩
theorem dd_Fabric_wind_57 : pj_d cX1_wind 57 (.lload_n 1) 1 58 := ⟨by decide +kernel, rfl⟩
theorem dd_Fabric_wind_58 : pj_d cX1_wind 58 (.lor) 1 59 := ⟨by decide +kernel, rfl⟩
theorem dd_Fabric_wind_59 : pj_d cX1_wind 59 (.putfield 42) 3 62 := ⟨by decide +kernel, rfl⟩
theorem dd_Fabric_wind_62 : pj_d cX1_wind 62 (.iload_n 3) 1 63 := ⟨by decide +kernel, rfl⟩
theorem dd_Fabric_wind_63 : pj_d cX1_wind 63 (.ireturn) 1 64 := ⟨by decide +kernel, rfl⟩
set_option maxHeartbeats 4000000 in
set_option maxRecDepth 100000 in
theorem bt_Fabric_wind_52 {B : pj_B} {A : Nat → Prop} {K : pj_K} {r0 : Int32} {z0 : pj_S} (hB : B.2.2.2.1 = pj_LC) (C : pj_C B A K cX1_wind 5 RX1 3) (Q : pj_Qi B A K (some .int) r0 z0)  (v1 : Int64) (v3 : Int32) (z : pj_S) (H : Heap) (lo : List Loc) (ls : Array Slot) (h : Fabric_wind_52 v1 v3 z = some (r0, z0)) (P : pj_P B A K z H lo) (hl : lv_has ls 5 [(0, .ref (B.2.1 8)), (1, .long v1), (3, .int v3)]) : pj_W K H lo 52 ls [] := by
  unfold Fabric_wind_52 at h
  refine pj_aload_n C dd_Fabric_wind_52 rfl hl 0 rfl ?_
  refine pj_dup C dd_Fabric_wind_53 rfl ?_
  refine pj_getJ C P 8 (LC8 hB) rfl fl_Fabric_42 dd_Fabric_wind_54 ?_
  refine pj_lload_n C dd_Fabric_wind_57 rfl hl 1 rfl ?_
  refine pj_lor C dd_Fabric_wind_58 ?_
  refine pj_putJ C P 8 (LC8 hB) rfl fl_Fabric_42 rfl fy_1_8 h dd_Fabric_wind_59 (fun H lo z1 h P => ?_)
  refine pj_iload_n C dd_Fabric_wind_62 rfl hl 2 rfl ?_
  exact pj_iret C Q P h dd_Fabric_wind_63
set_option maxHeartbeats 4000000 in
set_option maxRecDepth 100000 in
theorem bt_Fabric_wind_46 {B : pj_B} {A : Nat → Prop} {K : pj_K} {r0 : Int32} {z0 : pj_S} (hB : B.2.2.2.1 = pj_LC) (C : pj_C B A K cX1_wind 5 RX1 3) (Q : pj_Qi B A K (some .int) r0 z0) (s5 : Int64 → Int32 → Int32 → pj_S → Option (Int32 × pj_S)) (k5 : ∀ (v1 : Int64) (v3 : Int32) (v4 : Int32) (z : pj_S) (H : Heap) (lo : List Loc) (ls : Array Slot), s5 v1 v3 v4 z = some (r0, z0) → pj_P B A K z H lo → lv_has ls 5 [(0, .ref (B.2.1 8)), (1, .long v1), (3, .int v3), (4, .int v4)] → pj_W K H lo 5 ls []) (v1 : Int64) (v3 : Int32) (v4 : Int32) (z : pj_S) (H : Heap) (lo : List Loc) (ls : Array Slot) (h : Fabric_wind_46 s5 v1 v3 v4 z = some (r0, z0)) (P : pj_P B A K z H lo) (hl : lv_has ls 5 [(0, .ref (B.2.1 8)), (1, .long v1), (3, .int v3), (4, .int v4)]) : pj_W K H lo 46 ls [] := by
  unfold Fabric_wind_46 at h
  refine pj_iinc (v := (nI 1)) [(0, .ref (B.2.1 8)), (1, .long v1), (3, .int v3)] C h rfl dd_Fabric_wind_46 hl 3 rfl (by decide) rfl (fun x1 ls h hl => ?_)
  refine pj_goto C dd_Fabric_wind_49 ?_
  exact k5 _ _ _ _ _ _ _ h P (lv_sub hl [1, 2, 3, 0] rfl)
set_option maxHeartbeats 4000000 in
set_option maxRecDepth 100000 in
theorem bt_Fabric_wind_5 {B : pj_B} {A : Nat → Prop} {K : pj_K} {r0 : Int32} {z0 : pj_S} (hB : B.2.2.2.1 = pj_LC) (C : pj_C B A K cX1_wind 5 RX1 3) (Q : pj_Qi B A K (some .int) r0 z0) (s5 : Int64 → Int32 → Int32 → pj_S → Option (Int32 × pj_S)) (k5 : ∀ (v1 : Int64) (v3 : Int32) (v4 : Int32) (z : pj_S) (H : Heap) (lo : List Loc) (ls : Array Slot), s5 v1 v3 v4 z = some (r0, z0) → pj_P B A K z H lo → lv_has ls 5 [(0, .ref (B.2.1 8)), (1, .long v1), (3, .int v3), (4, .int v4)] → pj_W K H lo 5 ls []) (v1 : Int64) (v3 : Int32) (v4 : Int32) (z : pj_S) (H : Heap) (lo : List Loc) (ls : Array Slot) (h : Fabric_wind_5 s5 v1 v3 v4 z = some (r0, z0)) (P : pj_P B A K z H lo) (hl : lv_has ls 5 [(0, .ref (B.2.1 8)), (1, .long v1), (3, .int v3), (4, .int v4)]) : pj_W K H lo 5 ls [] := by
  unfold Fabric_wind_5 at h
  refine pj_iload C dd_Fabric_wind_5 hl 3 rfl ?_
  refine pj_bipush (v := (nI 48)) C dd_Fabric_wind_7 rfl ?_
  refine pj_ic_ge C h dd_Fabric_wind_9 (fun h => ?_) (fun h => ?_)
  · exact bt_Fabric_wind_52 hB C Q _ _ _ _ _ _ h P (lv_sub hl [0, 1, 2] rfl)
  · refine pj_lload_n C dd_Fabric_wind_12 rfl hl 1 rfl ?_
    refine pj_aload_n C dd_Fabric_wind_13 rfl hl 0 rfl ?_
    refine pj_getJ C P 8 (LC8 hB) rfl fl_Fabric_42 dd_Fabric_wind_14 ?_
    refine pj_ldc2 (v := (-1 : Int64)) C co_Fabric_56 dd_Fabric_wind_17 ?_
    refine pj_lxor C dd_Fabric_wind_20 ?_
    refine pj_land C dd_Fabric_wind_21 ?_
    refine pj_iload C dd_Fabric_wind_22 hl 3 rfl ?_
    obtain ⟨r3, z2, e1, h⟩ := pj_cE h
    refine pj_cNi (st := []) [.long (v1 &&& ((z.2 8 8) ^^^ (-1 : Int64))), .int v4] C P (ct_PJ_bitOf hB e1) cl_Fabric_48 rfl (by decide) (by decide) hl.1 (Nat.le_of_ble_eq_true rfl) dd_Fabric_wind_24 (fun H lo P => ?_)
    refine pj_iconst (v := (nI 1)) C dd_Fabric_wind_27 rfl ?_
    refine pj_ic_ne C h dd_Fabric_wind_28 (fun h => ?_) (fun h => ?_)
    · exact bt_Fabric_wind_46 hB C Q s5 k5 _ _ _ _ _ _ _ h P (lv_sub hl [0, 1, 2, 3] rfl)
    · refine pj_iload_n C dd_Fabric_wind_31 rfl hl 2 rfl ?_
      refine pj_gstK C P rfl dd_Fabric_wind_32 ?_
      refine pj_aload_n C dd_Fabric_wind_35 rfl hl 0 rfl ?_
      refine pj_iload C dd_Fabric_wind_36 hl 3 rfl ?_
      obtain ⟨r6, z5, e4, h⟩ := pj_cE h
      refine pj_cVi (st := [.ref B.2.2.2.2.1, .int v3]) [.int v4] C P 8 (LC8 hB) rfl (ct_Fabric_kindOf hB e4) cl_Fabric_95 rfl (by decide) (by decide) hl.1 (Nat.le_of_ble_eq_true rfl) dd_Fabric_wind_38 (fun H lo P => ?_)
      refine pj_iconst (v := (nI 3)) C dd_Fabric_wind_41 rfl ?_
      refine pj_iand C dd_Fabric_wind_42 ?_
      refine pj_ldK C P h dd_Fabric_wind_43 (fun h => ?_)
      refine pj_iadd C dd_Fabric_wind_44 ?_
      refine pj_istb_n [(0, .ref (B.2.1 8)), (1, .long v1), (4, .int v4)] C h dd_Fabric_wind_45 rfl hl (by decide) rfl (fun x7 ls h hl => ?_)
      exact bt_Fabric_wind_46 hB C Q s5 k5 _ _ _ _ _ _ _ h P (lv_sub hl [1, 2, 0, 3] rfl)
theorem lt_Fabric_wind_5 {B : pj_B} {A : Nat → Prop} {K : pj_K} {r0 : Int32} {z0 : pj_S} (hB : B.2.2.2.1 = pj_LC) (C : pj_C B A K cX1_wind 5 RX1 3) (Q : pj_Qi B A K (some .int) r0 z0)  : ∀ (n : Nat) (v1 : Int64) (v3 : Int32) (v4 : Int32) (z : pj_S) (H : Heap) (lo : List Loc) (ls : Array Slot), pj_lp3 Fabric_wind_5 n v1 v3 v4 z = some (r0, z0) → pj_P B A K z H lo → lv_has ls 5 [(0, .ref (B.2.1 8)), (1, .long v1), (3, .int v3), (4, .int v4)] → pj_W K H lo 5 ls [] := by
  intro n
  induction n with
  | zero => intro v1 v3 v4 z H lo ls h; rw [pj_lp3_0] at h; cases h
  | succ n ih =>
    intro v1 v3 v4 z H lo ls h P hl
    rw [pj_lp3_s] at h
    exact bt_Fabric_wind_5 hB C Q   (pj_lp3 Fabric_wind_5 n) ih v1 v3 v4 z H lo ls h P hl
set_option maxHeartbeats 4000000 in
set_option maxRecDepth 100000 in
theorem ct_Fabric_wind {l : Launch} {B : pj_B} (hB : B.2.2.2.1 = pj_LC) {v1 : Int64} {z : pj_S} {r0 : Int32} {z0 : pj_S} (h : Fabric_wind v1 z = some (r0, z0)) : pj_Mi l yX1_wind cX1_wind 5 (some .int) 3 [.ref (B.2.1 8), .long v1] B z r0 z0 := by
  refine pj_meti (own := RX1) (by decide +kernel) rfl (Nat.le_of_ble_eq_true rfl) ?_
  intro A K hK C Q H lo ls P hl
  have hl : lv_has ls 5 [(0, .ref (B.2.1 8)), (1, .long v1)] := hl
  unfold Fabric_wind at h
  refine pj_iconst (v := (nI 0)) C dd_Fabric_wind_0 rfl ?_
  refine pj_istore_n [(3, .int (nI 0)), (0, .ref (B.2.1 8)), (1, .long v1)] C dd_Fabric_wind_1 rfl hl (by decide) rfl (fun ls hl => ?_)
  refine pj_iconst (v := (nI 0)) C dd_Fabric_wind_2 rfl ?_
  refine pj_istore [(4, .int (nI 0)), (3, .int (nI 0)), (0, .ref (B.2.1 8)), (1, .long v1)] C dd_Fabric_wind_3 hl (by decide) rfl (fun ls hl => ?_)
  exact lt_Fabric_wind_5 hB C Q 4000 _ _ _ _ _ _ _ h P (lv_sub hl [2, 3, 1, 0] rfl)
theorem dd_Wool_note_0 : pj_d cX9_note 0 (.aload_n 0) 1 1 := ⟨by decide +kernel, rfl⟩
theorem dd_Wool_note_1 : pj_d cX9_note 1 (.getfield 21) 3 4 := ⟨by decide +kernel, rfl⟩
theorem dd_Wool_note_4 : pj_dj cX9_note 4 (.ifCond .lt 32) 32 7 36 := ⟨by decide +kernel, rfl, by decide⟩
theorem dd_Wool_note_7 : pj_d cX9_note 7 (.aload_n 0) 1 8 := ⟨by decide +kernel, rfl⟩
theorem dd_Wool_note_8 : pj_d cX9_note 8 (.getfield 21) 3 11 := ⟨by decide +kernel, rfl⟩
theorem dd_Wool_note_11 : pj_d cX9_note 11 (.bipush 20) 2 13 := ⟨by decide +kernel, rfl⟩
theorem dd_Wool_note_13 : pj_dj cX9_note 13 (.if_icmp .ge 23) 23 16 36 := ⟨by decide +kernel, rfl, by decide⟩
theorem dd_Wool_note_16 : pj_d cX9_note 16 (.aload_n 0) 1 17 := ⟨by decide +kernel, rfl⟩
theorem dd_Wool_note_17 : pj_d cX9_note 17 (.getfield 9) 3 20 := ⟨by decide +kernel, rfl⟩
theorem dd_Wool_note_20 : pj_d cX9_note 20 (.aload_n 0) 1 21 := ⟨by decide +kernel, rfl⟩
theorem dd_Wool_note_21 : pj_d cX9_note 21 (.getfield 21) 3 24 := ⟨by decide +kernel, rfl⟩
theorem dd_Wool_note_24 : pj_d cX9_note 24 (.iload_n 1) 1 25 := ⟨by decide +kernel, rfl⟩
theorem dd_Wool_note_25 : pj_d cX9_note 25 (.iastore) 1 26 := ⟨by decide +kernel, rfl⟩
theorem dd_Wool_note_26 : pj_d cX9_note 26 (.aload_n 0) 1 27 := ⟨by decide +kernel, rfl⟩
theorem dd_Wool_note_27 : pj_d cX9_note 27 (.dup) 1 28 := ⟨by decide +kernel, rfl⟩
theorem dd_Wool_note_28 : pj_d cX9_note 28 (.getfield 21) 3 31 := ⟨by decide +kernel, rfl⟩
theorem dd_Wool_note_31 : pj_d cX9_note 31 (.iconst 1) 1 32 := ⟨by decide +kernel, rfl⟩
theorem dd_Wool_note_32 : pj_d cX9_note 32 (.iadd) 1 33 := ⟨by decide +kernel, rfl⟩
theorem dd_Wool_note_33 : pj_d cX9_note 33 (.putfield 21) 3 36 := ⟨by decide +kernel, rfl⟩
theorem dd_Wool_note_36 : pj_d cX9_note 36 (.return_) 1 37 := ⟨by decide +kernel, rfl⟩
set_option maxHeartbeats 4000000 in
set_option maxRecDepth 100000 in
theorem ct_Wool_note {l : Launch} {B : pj_B} (hB : B.2.2.2.1 = pj_LC) {v1 : Int32} {z : pj_S} {r0 : Unit} {z0 : pj_S} (h : Wool_note v1 z = some (r0, z0)) : pj_Mv l yX9_note cX9_note 2 none 1 [.ref (B.2.1 11), .int v1] B z r0 z0 := by
  refine pj_metv (own := RX9) (by decide +kernel) rfl (Nat.le_of_ble_eq_true rfl) ?_
  intro A K hK C Q H lo ls P hl
  have hl : lv_has ls 2 [(0, .ref (B.2.1 11)), (1, .int v1)] := hl
  unfold Wool_note at h
  refine pj_aload_n C dd_Wool_note_0 rfl hl 0 rfl ?_
  refine pj_getI C P 11 (LC11 hB) rfl fl_Wool_21 dd_Wool_note_1 ?_
  refine pj_if_lt C h dd_Wool_note_4 (fun h => ?_) (fun h => ?_)
  · exact pj_vret C Q P h dd_Wool_note_36
  · refine pj_aload_n C dd_Wool_note_7 rfl hl 0 rfl ?_
    refine pj_getI C P 11 (LC11 hB) rfl fl_Wool_21 dd_Wool_note_8 ?_
    refine pj_bipush (v := (nI 20)) C dd_Wool_note_11 rfl ?_
    refine pj_ic_ge C h dd_Wool_note_13 (fun h => ?_) (fun h => ?_)
    · exact pj_vret C Q P h dd_Wool_note_36
    · refine pj_aload_n C dd_Wool_note_16 rfl hl 0 rfl ?_
      refine pj_getR C P 11 (LC11 hB) rfl fl_Wool_9 dd_Wool_note_17 ?_
      refine pj_aload_n C dd_Wool_note_20 rfl hl 0 rfl ?_
      refine pj_getI C P 11 (LC11 hB) rfl fl_Wool_21 dd_Wool_note_21 ?_
      refine pj_iload_n C dd_Wool_note_24 rfl hl 1 rfl ?_
      refine pj_iast C P 34 (LC34 hB) h dd_Wool_note_25 (fun H lo z1 h P => ?_)
      refine pj_aload_n C dd_Wool_note_26 rfl hl 0 rfl ?_
      refine pj_dup C dd_Wool_note_27 rfl ?_
      refine pj_getI C P 11 (LC11 hB) rfl fl_Wool_21 dd_Wool_note_28 ?_
      refine pj_iconst (v := (nI 1)) C dd_Wool_note_31 rfl ?_
      refine pj_iadd C dd_Wool_note_32 ?_
      refine pj_putI C P 11 (LC11 hB) rfl fl_Wool_21 rfl fy_9_1 h dd_Wool_note_33 (fun H lo z2 h P => ?_)
      exact pj_vret C Q P h dd_Wool_note_36
theorem dd_Whole_windUp_0 : pj_d cX8_windUp 0 (.iconst 0) 1 1 := ⟨by decide +kernel, rfl⟩
theorem dd_Whole_windUp_1 : pj_d cX8_windUp 1 (.istore_n 2) 1 2 := ⟨by decide +kernel, rfl⟩
theorem dd_Whole_windUp_2 : pj_d cX8_windUp 2 (.iload_n 2) 1 3 := ⟨by decide +kernel, rfl⟩
theorem dd_Whole_windUp_3 : pj_d cX8_windUp 3 (.aload_n 1) 1 4 := ⟨by decide +kernel, rfl⟩
theorem dd_Whole_windUp_4 : pj_d cX8_windUp 4 (.getfield 91) 3 7 := ⟨by decide +kernel, rfl⟩
theorem dd_Whole_windUp_7 : pj_dj cX8_windUp 7 (.if_icmp .ge 29) 29 10 36 := ⟨by decide +kernel, rfl, by decide⟩
theorem dd_Whole_windUp_10 : pj_d cX8_windUp 10 (.iload_n 2) 1 11 := ⟨by decide +kernel, rfl⟩
theorem dd_Whole_windUp_11 : pj_d cX8_windUp 11 (.aload_n 1) 1 12 := ⟨by decide +kernel, rfl⟩
theorem dd_Whole_windUp_12 : pj_d cX8_windUp 12 (.getfield 94) 3 15 := ⟨by decide +kernel, rfl⟩
theorem dd_Whole_windUp_15 : pj_d cX8_windUp 15 (.arraylength) 1 16 := ⟨by decide +kernel, rfl⟩
theorem dd_Whole_windUp_16 : pj_dj cX8_windUp 16 (.if_icmp .ge 20) 20 19 36 := ⟨by decide +kernel, rfl, by decide⟩
theorem dd_Whole_windUp_19 : pj_d cX8_windUp 19 (.aload_n 0) 1 20 := ⟨by decide +kernel, rfl⟩
theorem dd_Whole_windUp_20 : pj_d cX8_windUp 20 (.aload_n 1) 1 21 := ⟨by decide +kernel, rfl⟩
theorem dd_Whole_windUp_21 : pj_d cX8_windUp 21 (.getfield 94) 3 24 := ⟨by decide +kernel, rfl⟩
theorem dd_Whole_windUp_24 : pj_d cX8_windUp 24 (.iload_n 2) 1 25 := ⟨by decide +kernel, rfl⟩
theorem dd_Whole_windUp_25 : pj_d cX8_windUp 25 (.iaload) 1 26 := ⟨by decide +kernel, rfl⟩
theorem dd_Whole_windUp_26 : pj_d cX8_windUp 26 (.iconst 2) 1 27 := ⟨by decide +kernel, rfl⟩
theorem dd_Whole_windUp_27 : pj_d cX8_windUp 27 (.invokevirtual 97) 3 30 := ⟨by decide +kernel, rfl⟩
theorem dd_Whole_windUp_30 : pj_d cX8_windUp 30 (.iinc 2 1) 3 33 := ⟨by decide +kernel, rfl⟩
theorem dd_Whole_windUp_33 : pj_dj cX8_windUp 33 (.goto (-31)) (-31) 36 2 := ⟨by decide +kernel, rfl, by decide⟩
theorem dd_Whole_windUp_36 : pj_d cX8_windUp 36 (.aload_n 1) 1 37 := ⟨by decide +kernel, rfl⟩
theorem dd_Whole_windUp_37 : pj_d cX8_windUp 37 (.getfield 91) 3 40 := ⟨by decide +kernel, rfl⟩
theorem dd_Whole_windUp_40 : pj_dj cX8_windUp 40 (.ifCond .le 21) 21 43 61 := ⟨by decide +kernel, rfl, by decide⟩
theorem dd_Whole_windUp_43 : pj_d cX8_windUp 43 (.aload_n 0) 1 44 := ⟨by decide +kernel, rfl⟩
theorem dd_Whole_windUp_44 : pj_d cX8_windUp 44 (.getfield 35) 3 47 := ⟨by decide +kernel, rfl⟩
theorem dd_Whole_windUp_47 : pj_d cX8_windUp 47 (.aload_n 0) 1 48 := ⟨by decide +kernel, rfl⟩
theorem dd_Whole_windUp_48 : pj_d cX8_windUp 48 (.getfield 12) 3 51 := ⟨by decide +kernel, rfl⟩
theorem dd_Whole_windUp_51 : pj_d cX8_windUp 51 (.aload_n 1) 1 52 := ⟨by decide +kernel, rfl⟩
theorem dd_Whole_windUp_52 : pj_d cX8_windUp 52 (.getfield 100) 3 55 := ⟨by decide +kernel, rfl⟩
theorem dd_Whole_windUp_55 : pj_d cX8_windUp 55 (.invokevirtual 103) 3 58 := ⟨by decide +kernel, rfl⟩
theorem dd_Whole_windUp_58 : pj_d cX8_windUp 58 (.invokevirtual 107) 3 61 := ⟨by decide +kernel, rfl⟩
theorem dd_Whole_windUp_61 : pj_d cX8_windUp 61 (.return_) 1 62 := ⟨by decide +kernel, rfl⟩
set_option maxHeartbeats 4000000 in
set_option maxRecDepth 100000 in
theorem bt_Whole_windUp_36 {B : pj_B} {A : Nat → Prop} {K : pj_K} {r0 : Unit} {z0 : pj_S} (hB : B.2.2.2.1 = pj_LC) (C : pj_C B A K cX8_windUp 3 RX8 4) (Q : pj_Qv B A K none r0 z0)   (z : pj_S) (H : Heap) (lo : List Loc) (ls : Array Slot) (h : Whole_windUp_36 z = some (r0, z0)) (P : pj_P B A K z H lo) (hl : lv_has ls 3 [(0, .ref (B.2.1 1)), (1, .ref (B.2.1 6))]) : pj_W K H lo 36 ls [] := by
  unfold Whole_windUp_36 at h
  refine pj_aload_n C dd_Whole_windUp_36 rfl hl 1 rfl ?_
  refine pj_getI C P 6 (LC6 hB) rfl fl_Whole_91 dd_Whole_windUp_37 ?_
  refine pj_if_le C h dd_Whole_windUp_40 (fun h => ?_) (fun h => ?_)
  · exact pj_vret C Q P h dd_Whole_windUp_61
  · refine pj_aload_n C dd_Whole_windUp_43 rfl hl 0 rfl ?_
    refine pj_getR C P 1 (LC1 hB) rfl fl_Whole_35 dd_Whole_windUp_44 ?_
    refine pj_aload_n C dd_Whole_windUp_47 rfl hl 0 rfl ?_
    refine pj_getR C P 1 (LC1 hB) rfl fl_Whole_12 dd_Whole_windUp_48 ?_
    refine pj_aload_n C dd_Whole_windUp_51 rfl hl 1 rfl ?_
    refine pj_getJ C P 6 (LC6 hB) rfl fl_Whole_100 dd_Whole_windUp_52 ?_
    obtain ⟨r3, z2, e1, h⟩ := pj_cE h
    refine pj_cVi (st := [.ref (B.2.1 11)]) [.long (z.2 6 4)] C P 8 (LC8 hB) rfl (ct_Fabric_wind hB e1) cl_Whole_103 rfl (by decide) (by decide) hl.1 (Nat.le_of_ble_eq_true rfl) dd_Whole_windUp_55 (fun H lo P => ?_)
    obtain ⟨r6, z5, e4, h⟩ := pj_cE h
    refine pj_cVv (st := []) [.int r3] C P 11 (LC11 hB) rfl (ct_Wool_note hB e4) cl_Whole_107 rfl (by decide) (by decide) hl.1 (Nat.le_of_ble_eq_true rfl) dd_Whole_windUp_58 (fun H lo P => ?_)
    exact pj_vret C Q P h dd_Whole_windUp_61
set_option maxHeartbeats 4000000 in
set_option maxRecDepth 100000 in
theorem bt_Whole_windUp_2 {B : pj_B} {A : Nat → Prop} {K : pj_K} {r0 : Unit} {z0 : pj_S} (hB : B.2.2.2.1 = pj_LC) (C : pj_C B A K cX8_windUp 3 RX8 4) (Q : pj_Qv B A K none r0 z0) (s2 : Int32 → pj_S → Option (Unit × pj_S)) (k2 : ∀ (v2 : Int32) (z : pj_S) (H : Heap) (lo : List Loc) (ls : Array Slot), s2 v2 z = some (r0, z0) → pj_P B A K z H lo → lv_has ls 3 [(0, .ref (B.2.1 1)), (1, .ref (B.2.1 6)), (2, .int v2)] → pj_W K H lo 2 ls []) (v2 : Int32) (z : pj_S) (H : Heap) (lo : List Loc) (ls : Array Slot) (h : Whole_windUp_2 s2 v2 z = some (r0, z0)) (P : pj_P B A K z H lo) (hl : lv_has ls 3 [(0, .ref (B.2.1 1)), (1, .ref (B.2.1 6)), (2, .int v2)]) : pj_W K H lo 2 ls [] := by
  unfold Whole_windUp_2 at h
  refine pj_iload_n C dd_Whole_windUp_2 rfl hl 2 rfl ?_
  refine pj_aload_n C dd_Whole_windUp_3 rfl hl 1 rfl ?_
  refine pj_getI C P 6 (LC6 hB) rfl fl_Whole_91 dd_Whole_windUp_4 ?_
  refine pj_ic_ge C h dd_Whole_windUp_7 (fun h => ?_) (fun h => ?_)
  · exact bt_Whole_windUp_36 hB C Q _ _ _ _ h P (lv_sub hl [0, 1] rfl)
  · refine pj_iload_n C dd_Whole_windUp_10 rfl hl 2 rfl ?_
    refine pj_aload_n C dd_Whole_windUp_11 rfl hl 1 rfl ?_
    refine pj_getR C P 6 (LC6 hB) rfl fl_Whole_94 dd_Whole_windUp_12 ?_
    refine pj_alen (nI 36) C P 28 (LC28 hB) (by decide) (by decide) dd_Whole_windUp_15 ?_
    refine pj_ic_ge C h dd_Whole_windUp_16 (fun h => ?_) (fun h => ?_)
    · exact bt_Whole_windUp_36 hB C Q _ _ _ _ h P (lv_sub hl [0, 1] rfl)
    · refine pj_aload_n C dd_Whole_windUp_19 rfl hl 0 rfl ?_
      refine pj_aload_n C dd_Whole_windUp_20 rfl hl 1 rfl ?_
      refine pj_getR C P 6 (LC6 hB) rfl fl_Whole_94 dd_Whole_windUp_21 ?_
      refine pj_iload_n C dd_Whole_windUp_24 rfl hl 2 rfl ?_
      refine pj_iald C P 28 (LC28 hB) h dd_Whole_windUp_25 (fun h => ?_)
      refine pj_iconst (v := (nI 2)) C dd_Whole_windUp_26 rfl ?_
      obtain ⟨r3, z2, e1, h⟩ := pj_cE h
      refine pj_cVv (st := []) [.int (z.1 28 (Int32.toNatClampNeg v2)), .int (nI 2)] C P 1 (LC1 hB) rfl (ct_Whole_letGo hB e1) cl_Whole_97 rfl (by decide) (by decide) hl.1 (Nat.le_of_ble_eq_true rfl) dd_Whole_windUp_27 (fun H lo P => ?_)
      refine pj_iinc (v := (nI 1)) [(0, .ref (B.2.1 1)), (1, .ref (B.2.1 6))] C h rfl dd_Whole_windUp_30 hl 2 rfl (by decide) rfl (fun x4 ls h hl => ?_)
      refine pj_goto C dd_Whole_windUp_33 ?_
      exact k2 _ _ _ _ _ h P (lv_sub hl [1, 2, 0] rfl)
theorem lt_Whole_windUp_2 {B : pj_B} {A : Nat → Prop} {K : pj_K} {r0 : Unit} {z0 : pj_S} (hB : B.2.2.2.1 = pj_LC) (C : pj_C B A K cX8_windUp 3 RX8 4) (Q : pj_Qv B A K none r0 z0)  : ∀ (n : Nat) (v2 : Int32) (z : pj_S) (H : Heap) (lo : List Loc) (ls : Array Slot), pj_lp1 Whole_windUp_2 n v2 z = some (r0, z0) → pj_P B A K z H lo → lv_has ls 3 [(0, .ref (B.2.1 1)), (1, .ref (B.2.1 6)), (2, .int v2)] → pj_W K H lo 2 ls [] := by
  intro n
  induction n with
  | zero => intro v2 z H lo ls h; rw [pj_lp1_0] at h; cases h
  | succ n ih =>
    intro v2 z H lo ls h P hl
    rw [pj_lp1_s] at h
    exact bt_Whole_windUp_2 hB C Q   (pj_lp1 Whole_windUp_2 n) ih v2 z H lo ls h P hl
set_option maxHeartbeats 4000000 in
set_option maxRecDepth 100000 in
theorem ct_Whole_windUp {l : Launch} {B : pj_B} (hB : B.2.2.2.1 = pj_LC)  {z : pj_S} {r0 : Unit} {z0 : pj_S} (h : Whole_windUp z = some (r0, z0)) : pj_Mv l yX8_windUp cX8_windUp 3 none 4 [.ref (B.2.1 1), .ref (B.2.1 6)] B z r0 z0 := by
  refine pj_metv (own := RX8) (by decide +kernel) rfl (Nat.le_of_ble_eq_true rfl) ?_
  intro A K hK C Q H lo ls P hl
  have hl : lv_has ls 3 [(0, .ref (B.2.1 1)), (1, .ref (B.2.1 6))] := hl
  unfold Whole_windUp at h
  refine pj_iconst (v := (nI 0)) C dd_Whole_windUp_0 rfl ?_
  refine pj_istore_n [(2, .int (nI 0)), (0, .ref (B.2.1 1)), (1, .ref (B.2.1 6))] C dd_Whole_windUp_1 rfl hl (by decide) rfl (fun ls hl => ?_)
  exact lt_Whole_windUp_2 hB C Q 4000 _ _ _ _ _ h P (lv_sub hl [1, 2, 0] rfl)
theorem dd_PJ_pull_0 : pj_d cX10_pull 0 (.iload_n 3) 1 1 := ⟨by decide +kernel, rfl⟩
theorem dd_PJ_pull_1 : pj_d cX10_pull 1 (.iconst 1) 1 2 := ⟨by decide +kernel, rfl⟩
theorem dd_PJ_pull_2 : pj_dj cX10_pull 2 (.if_icmp .lt 24) 24 5 26 := ⟨by decide +kernel, rfl, by decide⟩
theorem dd_PJ_pull_5 : pj_d cX10_pull 5 (.iload_n 3) 1 6 := ⟨by decide +kernel, rfl⟩
theorem dd_PJ_pull_6 : pj_d cX10_pull 6 (.bipush 36) 2 8 := ⟨by decide +kernel, rfl⟩
theorem dd_PJ_pull_8 : pj_dj cX10_pull 8 (.if_icmp .gt 18) 18 11 26 := ⟨by decide +kernel, rfl, by decide⟩
theorem dd_PJ_pull_11 : pj_d cX10_pull 11 (.aload_n 0) 1 12 := ⟨by decide +kernel, rfl⟩
theorem dd_PJ_pull_12 : pj_d cX10_pull 12 (.getfield 10) 3 15 := ⟨by decide +kernel, rfl⟩
theorem dd_PJ_pull_15 : pj_d cX10_pull 15 (.getfield 65) 3 18 := ⟨by decide +kernel, rfl⟩
theorem dd_PJ_pull_18 : pj_d cX10_pull 18 (.iload_n 1) 1 19 := ⟨by decide +kernel, rfl⟩
theorem dd_PJ_pull_19 : pj_d cX10_pull 19 (.iload_n 2) 1 20 := ⟨by decide +kernel, rfl⟩
theorem dd_PJ_pull_20 : pj_d cX10_pull 20 (.invokevirtual 96) 3 23 := ⟨by decide +kernel, rfl⟩
theorem dd_PJ_pull_23 : pj_dj cX10_pull 23 (.ifCond .ne 5) 5 26 28 := ⟨by decide +kernel, rfl, by decide⟩
theorem dd_PJ_pull_26 : pj_d cX10_pull 26 (.iconst (-1)) 1 27 := ⟨by decide +kernel, rfl⟩
theorem dd_PJ_pull_27 : pj_d cX10_pull 27 (.ireturn) 1 28 := ⟨by decide +kernel, rfl⟩
theorem dd_PJ_pull_28 : pj_d cX10_pull 28 (.aload_n 0) 1 29 := ⟨by decide +kernel, rfl⟩
theorem dd_PJ_pull_29 : pj_d cX10_pull 29 (.getfield 22) 3 32 := ⟨by decide +kernel, rfl⟩
theorem dd_PJ_pull_32 : pj_d cX10_pull 32 (.aload_n 0) 1 33 := ⟨by decide +kernel, rfl⟩
theorem dd_PJ_pull_33 : pj_d cX10_pull 33 (.getfield 10) 3 36 := ⟨by decide +kernel, rfl⟩
theorem dd_PJ_pull_36 : pj_d cX10_pull 36 (.invokevirtual 82) 3 39 := ⟨by decide +kernel, rfl⟩
theorem dd_PJ_pull_39 : pj_d cX10_pull 39 (.aload_n 0) 1 40 := ⟨by decide +kernel, rfl⟩
theorem dd_PJ_pull_40 : pj_d cX10_pull 40 (.getfield 43) 3 43 := ⟨by decide +kernel, rfl⟩
theorem dd_PJ_pull_43 : pj_d cX10_pull 43 (.aload_n 0) 1 44 := ⟨by decide +kernel, rfl⟩
theorem dd_PJ_pull_44 : pj_d cX10_pull 44 (.getfield 10) 3 47 := ⟨by decide +kernel, rfl⟩
theorem dd_PJ_pull_47 : pj_d cX10_pull 47 (.getfield 65) 3 50 := ⟨by decide +kernel, rfl⟩
theorem dd_PJ_pull_50 : pj_d cX10_pull 50 (.iload_n 1) 1 51 := ⟨by decide +kernel, rfl⟩
theorem dd_PJ_pull_51 : pj_d cX10_pull 51 (.iload_n 2) 1 52 := ⟨by decide +kernel, rfl⟩
theorem dd_PJ_pull_52 : pj_d cX10_pull 52 (.iload_n 3) 1 53 := ⟨by decide +kernel, rfl⟩
theorem dd_PJ_pull_53 : pj_d cX10_pull 53 (.invokevirtual 100) 3 56 := ⟨by decide +kernel, rfl⟩
theorem dd_PJ_pull_56 : pj_d cX10_pull 56 (.aload_n 0) 1 57 := ⟨by decide +kernel, rfl⟩
theorem dd_PJ_pull_57 : pj_d cX10_pull 57 (.getfield 10) 3 60 := ⟨by decide +kernel, rfl⟩
theorem dd_PJ_pull_60 : pj_d cX10_pull 60 (.aload_n 0) 1 61 := ⟨by decide +kernel, rfl⟩
theorem dd_PJ_pull_61 : pj_d cX10_pull 61 (.getfield 43) 3 64 := ⟨by decide +kernel, rfl⟩
theorem dd_PJ_pull_64 : pj_d cX10_pull 64 (.invokevirtual 104) 3 67 := ⟨by decide +kernel, rfl⟩
theorem dd_PJ_pull_67 : pj_d cX10_pull 67 (.aload_n 0) 1 68 := ⟨by decide +kernel, rfl⟩
theorem dd_PJ_pull_68 : pj_d cX10_pull 68 (.getfield 43) 3 71 := ⟨by decide +kernel, rfl⟩
theorem dd_PJ_pull_71 : pj_d cX10_pull 71 (.getfield 108) 3 74 := ⟨by decide +kernel, rfl⟩
theorem dd_PJ_pull_74 : pj_d cX10_pull 74 (.ireturn) 1 75 := ⟨by decide +kernel, rfl⟩
set_option maxHeartbeats 4000000 in
set_option maxRecDepth 100000 in
theorem ct_PJ_pull {l : Launch} {B : pj_B} (hB : B.2.2.2.1 = pj_LC) {v1 : Int32} {v2 : Int32} {v3 : Int32} {z : pj_S} {r0 : Int32} {z0 : pj_S} (h : PJ_pull v1 v2 v3 z = some (r0, z0)) : pj_Mi l yX10_pull cX10_pull 4 (some .int) 5 [.ref (B.2.1 0), .int v1, .int v2, .int v3] B z r0 z0 := by
  refine pj_meti (own := RX10) (by decide +kernel) rfl (Nat.le_of_ble_eq_true rfl) ?_
  intro A K hK C Q H lo ls P hl
  have hl : lv_has ls 4 [(0, .ref (B.2.1 0)), (1, .int v1), (2, .int v2), (3, .int v3)] := hl
  unfold PJ_pull at h
  refine pj_iload_n C dd_PJ_pull_0 rfl hl 3 rfl ?_
  refine pj_iconst (v := (nI 1)) C dd_PJ_pull_1 rfl ?_
  refine pj_ic_lt C h dd_PJ_pull_2 (fun h => ?_) (fun h => ?_)
  · refine pj_iconst (v := (-1 : Int32)) C dd_PJ_pull_26 rfl ?_
    exact pj_iret C Q P h dd_PJ_pull_27
  · refine pj_iload_n C dd_PJ_pull_5 rfl hl 3 rfl ?_
    refine pj_bipush (v := (nI 36)) C dd_PJ_pull_6 rfl ?_
    refine pj_ic_gt C h dd_PJ_pull_8 (fun h => ?_) (fun h => ?_)
    · refine pj_iconst (v := (-1 : Int32)) C dd_PJ_pull_26 rfl ?_
      exact pj_iret C Q P h dd_PJ_pull_27
    · refine pj_aload_n C dd_PJ_pull_11 rfl hl 0 rfl ?_
      refine pj_getR C P 0 (LC0 hB) rfl fl_PJ_10 dd_PJ_pull_12 ?_
      refine pj_getR C P 1 (LC1 hB) rfl fl_PJ_65 dd_PJ_pull_15 ?_
      refine pj_iload_n C dd_PJ_pull_18 rfl hl 1 rfl ?_
      refine pj_iload_n C dd_PJ_pull_19 rfl hl 2 rfl ?_
      obtain ⟨r3, z2, e1, h⟩ := pj_cE h
      refine pj_cVi (st := []) [.int v1, .int v2] C P 8 (LC8 hB) rfl (ct_Fabric_isEnd hB e1) cl_PJ_96 rfl (by decide) (by decide) hl.1 (Nat.le_of_ble_eq_true rfl) dd_PJ_pull_20 (fun H lo P => ?_)
      refine pj_if_ne C h dd_PJ_pull_23 (fun h => ?_) (fun h => ?_)
      · refine pj_aload_n C dd_PJ_pull_28 rfl hl 0 rfl ?_
        refine pj_getR C P 0 (LC0 hB) rfl fl_PJ_22 dd_PJ_pull_29 ?_
        refine pj_aload_n C dd_PJ_pull_32 rfl hl 0 rfl ?_
        refine pj_getR C P 0 (LC0 hB) rfl fl_PJ_10 dd_PJ_pull_33 ?_
        obtain ⟨r6, z5, e4, h⟩ := pj_cE h
        refine pj_cVv (st := []) [.ref (B.2.1 1)] C P 3 (LC3 hB) rfl (ct_Past_keep hB e4) cl_PJ_82 rfl (by decide) (by decide) hl.1 (Nat.le_of_ble_eq_true rfl) dd_PJ_pull_36 (fun H lo P => ?_)
        refine pj_aload_n C dd_PJ_pull_39 rfl hl 0 rfl ?_
        refine pj_getR C P 0 (LC0 hB) rfl fl_PJ_43 dd_PJ_pull_40 ?_
        refine pj_aload_n C dd_PJ_pull_43 rfl hl 0 rfl ?_
        refine pj_getR C P 0 (LC0 hB) rfl fl_PJ_10 dd_PJ_pull_44 ?_
        refine pj_getR C P 1 (LC1 hB) rfl fl_PJ_65 dd_PJ_pull_47 ?_
        refine pj_iload_n C dd_PJ_pull_50 rfl hl 1 rfl ?_
        refine pj_iload_n C dd_PJ_pull_51 rfl hl 2 rfl ?_
        refine pj_iload_n C dd_PJ_pull_52 rfl hl 3 rfl ?_
        obtain ⟨r9, z8, e7, h⟩ := pj_cE h
        refine pj_cVv (st := []) [.ref (B.2.1 8), .int v1, .int v2, .int v3] C P 6 (LC6 hB) rfl (ct_Puller_walk hB e7) cl_PJ_100 rfl (by decide) (by decide) hl.1 (Nat.le_of_ble_eq_true rfl) dd_PJ_pull_53 (fun H lo P => ?_)
        refine pj_aload_n C dd_PJ_pull_56 rfl hl 0 rfl ?_
        refine pj_getR C P 0 (LC0 hB) rfl fl_PJ_10 dd_PJ_pull_57 ?_
        refine pj_aload_n C dd_PJ_pull_60 rfl hl 0 rfl ?_
        refine pj_getR C P 0 (LC0 hB) rfl fl_PJ_43 dd_PJ_pull_61 ?_
        obtain ⟨r12, z11, e10, h⟩ := pj_cE h
        refine pj_cVv (st := []) [.ref (B.2.1 6)] C P 1 (LC1 hB) rfl (ct_Whole_windUp hB e10) cl_PJ_104 rfl (by decide) (by decide) hl.1 (Nat.le_of_ble_eq_true rfl) dd_PJ_pull_64 (fun H lo P => ?_)
        refine pj_aload_n C dd_PJ_pull_67 rfl hl 0 rfl ?_
        refine pj_getR C P 0 (LC0 hB) rfl fl_PJ_43 dd_PJ_pull_68 ?_
        refine pj_getI C P 6 (LC6 hB) rfl fl_PJ_108 dd_PJ_pull_71 ?_
        exact pj_iret C Q P h dd_PJ_pull_74
      · refine pj_iconst (v := (-1 : Int32)) C dd_PJ_pull_26 rfl ?_
        exact pj_iret C Q P h dd_PJ_pull_27
theorem dd_JLong_bitCount_0 : pj_d cJ13_bitCount_95d88 0 (.lload_n 0) 1 1 := ⟨by decide +kernel, rfl⟩
theorem dd_JLong_bitCount_1 : pj_d cJ13_bitCount_95d88 1 (.lload_n 0) 1 2 := ⟨by decide +kernel, rfl⟩
theorem dd_JLong_bitCount_2 : pj_d cJ13_bitCount_95d88 2 (.iconst 1) 1 3 := ⟨by decide +kernel, rfl⟩
theorem dd_JLong_bitCount_3 : pj_d cJ13_bitCount_95d88 3 (.lushr) 1 4 := ⟨by decide +kernel, rfl⟩
theorem dd_JLong_bitCount_4 : pj_d cJ13_bitCount_95d88 4 (.ldc2_w 314) 3 7 := ⟨by decide +kernel, rfl⟩
theorem dd_JLong_bitCount_7 : pj_d cJ13_bitCount_95d88 7 (.land) 1 8 := ⟨by decide +kernel, rfl⟩
theorem dd_JLong_bitCount_8 : pj_d cJ13_bitCount_95d88 8 (.lsub) 1 9 := ⟨by decide +kernel, rfl⟩
theorem dd_JLong_bitCount_9 : pj_d cJ13_bitCount_95d88 9 (.lstore_n 0) 1 10 := ⟨by decide +kernel, rfl⟩
theorem dd_JLong_bitCount_10 : pj_d cJ13_bitCount_95d88 10 (.lload_n 0) 1 11 := ⟨by decide +kernel, rfl⟩
theorem dd_JLong_bitCount_11 : pj_d cJ13_bitCount_95d88 11 (.ldc2_w 316) 3 14 := ⟨by decide +kernel, rfl⟩
theorem dd_JLong_bitCount_14 : pj_d cJ13_bitCount_95d88 14 (.land) 1 15 := ⟨by decide +kernel, rfl⟩
theorem dd_JLong_bitCount_15 : pj_d cJ13_bitCount_95d88 15 (.lload_n 0) 1 16 := ⟨by decide +kernel, rfl⟩
theorem dd_JLong_bitCount_16 : pj_d cJ13_bitCount_95d88 16 (.iconst 2) 1 17 := ⟨by decide +kernel, rfl⟩
theorem dd_JLong_bitCount_17 : pj_d cJ13_bitCount_95d88 17 (.lushr) 1 18 := ⟨by decide +kernel, rfl⟩
theorem dd_JLong_bitCount_18 : pj_d cJ13_bitCount_95d88 18 (.ldc2_w 316) 3 21 := ⟨by decide +kernel, rfl⟩
theorem dd_JLong_bitCount_21 : pj_d cJ13_bitCount_95d88 21 (.land) 1 22 := ⟨by decide +kernel, rfl⟩
theorem dd_JLong_bitCount_22 : pj_d cJ13_bitCount_95d88 22 (.ladd) 1 23 := ⟨by decide +kernel, rfl⟩
theorem dd_JLong_bitCount_23 : pj_d cJ13_bitCount_95d88 23 (.lstore_n 0) 1 24 := ⟨by decide +kernel, rfl⟩
theorem dd_JLong_bitCount_24 : pj_d cJ13_bitCount_95d88 24 (.lload_n 0) 1 25 := ⟨by decide +kernel, rfl⟩
theorem dd_JLong_bitCount_25 : pj_d cJ13_bitCount_95d88 25 (.lload_n 0) 1 26 := ⟨by decide +kernel, rfl⟩
theorem dd_JLong_bitCount_26 : pj_d cJ13_bitCount_95d88 26 (.iconst 4) 1 27 := ⟨by decide +kernel, rfl⟩
theorem dd_JLong_bitCount_27 : pj_d cJ13_bitCount_95d88 27 (.lushr) 1 28 := ⟨by decide +kernel, rfl⟩
theorem dd_JLong_bitCount_28 : pj_d cJ13_bitCount_95d88 28 (.ladd) 1 29 := ⟨by decide +kernel, rfl⟩
theorem dd_JLong_bitCount_29 : pj_d cJ13_bitCount_95d88 29 (.ldc2_w 318) 3 32 := ⟨by decide +kernel, rfl⟩
theorem dd_JLong_bitCount_32 : pj_d cJ13_bitCount_95d88 32 (.land) 1 33 := ⟨by decide +kernel, rfl⟩
theorem dd_JLong_bitCount_33 : pj_d cJ13_bitCount_95d88 33 (.lstore_n 0) 1 34 := ⟨by decide +kernel, rfl⟩
theorem dd_JLong_bitCount_34 : pj_d cJ13_bitCount_95d88 34 (.lload_n 0) 1 35 := ⟨by decide +kernel, rfl⟩
theorem dd_JLong_bitCount_35 : pj_d cJ13_bitCount_95d88 35 (.lload_n 0) 1 36 := ⟨by decide +kernel, rfl⟩
theorem dd_JLong_bitCount_36 : pj_d cJ13_bitCount_95d88 36 (.bipush 8) 2 38 := ⟨by decide +kernel, rfl⟩
theorem dd_JLong_bitCount_38 : pj_d cJ13_bitCount_95d88 38 (.lushr) 1 39 := ⟨by decide +kernel, rfl⟩
theorem dd_JLong_bitCount_39 : pj_d cJ13_bitCount_95d88 39 (.ladd) 1 40 := ⟨by decide +kernel, rfl⟩
theorem dd_JLong_bitCount_40 : pj_d cJ13_bitCount_95d88 40 (.lstore_n 0) 1 41 := ⟨by decide +kernel, rfl⟩
theorem dd_JLong_bitCount_41 : pj_d cJ13_bitCount_95d88 41 (.lload_n 0) 1 42 := ⟨by decide +kernel, rfl⟩
theorem dd_JLong_bitCount_42 : pj_d cJ13_bitCount_95d88 42 (.lload_n 0) 1 43 := ⟨by decide +kernel, rfl⟩
theorem dd_JLong_bitCount_43 : pj_d cJ13_bitCount_95d88 43 (.bipush 16) 2 45 := ⟨by decide +kernel, rfl⟩
theorem dd_JLong_bitCount_45 : pj_d cJ13_bitCount_95d88 45 (.lushr) 1 46 := ⟨by decide +kernel, rfl⟩
theorem dd_JLong_bitCount_46 : pj_d cJ13_bitCount_95d88 46 (.ladd) 1 47 := ⟨by decide +kernel, rfl⟩
theorem dd_JLong_bitCount_47 : pj_d cJ13_bitCount_95d88 47 (.lstore_n 0) 1 48 := ⟨by decide +kernel, rfl⟩
theorem dd_JLong_bitCount_48 : pj_d cJ13_bitCount_95d88 48 (.lload_n 0) 1 49 := ⟨by decide +kernel, rfl⟩
theorem dd_JLong_bitCount_49 : pj_d cJ13_bitCount_95d88 49 (.lload_n 0) 1 50 := ⟨by decide +kernel, rfl⟩
theorem dd_JLong_bitCount_50 : pj_d cJ13_bitCount_95d88 50 (.bipush 32) 2 52 := ⟨by decide +kernel, rfl⟩
theorem dd_JLong_bitCount_52 : pj_d cJ13_bitCount_95d88 52 (.lushr) 1 53 := ⟨by decide +kernel, rfl⟩
theorem dd_JLong_bitCount_53 : pj_d cJ13_bitCount_95d88 53 (.ladd) 1 54 := ⟨by decide +kernel, rfl⟩
theorem dd_JLong_bitCount_54 : pj_d cJ13_bitCount_95d88 54 (.lstore_n 0) 1 55 := ⟨by decide +kernel, rfl⟩
theorem dd_JLong_bitCount_55 : pj_d cJ13_bitCount_95d88 55 (.lload_n 0) 1 56 := ⟨by decide +kernel, rfl⟩
theorem dd_JLong_bitCount_56 : pj_d cJ13_bitCount_95d88 56 (.l2i) 1 57 := ⟨by decide +kernel, rfl⟩
theorem dd_JLong_bitCount_57 : pj_d cJ13_bitCount_95d88 57 (.bipush 127) 2 59 := ⟨by decide +kernel, rfl⟩
theorem dd_JLong_bitCount_59 : pj_d cJ13_bitCount_95d88 59 (.iand) 1 60 := ⟨by decide +kernel, rfl⟩
theorem dd_JLong_bitCount_60 : pj_d cJ13_bitCount_95d88 60 (.ireturn) 1 61 := ⟨by decide +kernel, rfl⟩
set_option maxHeartbeats 4000000 in
set_option maxRecDepth 100000 in
theorem ct_JLong_bitCount {l : Launch} {B : pj_B} (hB : B.2.2.2.1 = pj_LC) {v0 : Int64} {z : pj_S} {r0 : Int32} {z0 : pj_S} (h : JLong_bitCount v0 z = some (r0, z0)) : pj_Mi l yJ13_bitCount_95d88 cJ13_bitCount_95d88 2 (some .int) 1 [.long v0] B z r0 z0 := by
  refine pj_meti (own := RJ13) (by decide +kernel) rfl (Nat.le_of_ble_eq_true rfl) ?_
  intro A K hK C Q H lo ls P hl
  have hl : lv_has ls 2 [(0, .long v0)] := hl
  unfold JLong_bitCount at h
  refine pj_lload_n C dd_JLong_bitCount_0 rfl hl 0 rfl ?_
  refine pj_lload_n C dd_JLong_bitCount_1 rfl hl 0 rfl ?_
  refine pj_iconst (v := (nI 1)) C dd_JLong_bitCount_2 rfl ?_
  refine pj_lushr C dd_JLong_bitCount_3 ?_
  refine pj_ldc2 (v := (6148914691236517205 : Int64)) C co_JLong_314 dd_JLong_bitCount_4 ?_
  refine pj_land C dd_JLong_bitCount_7 ?_
  refine pj_lsub C dd_JLong_bitCount_8 ?_
  refine pj_lstb_n [] C h dd_JLong_bitCount_9 rfl hl (by decide) rfl (fun x1 ls h hl => ?_)
  refine pj_lload_n C dd_JLong_bitCount_10 rfl hl 0 rfl ?_
  refine pj_ldc2 (v := (3689348814741910323 : Int64)) C co_JLong_316 dd_JLong_bitCount_11 ?_
  refine pj_land C dd_JLong_bitCount_14 ?_
  refine pj_lload_n C dd_JLong_bitCount_15 rfl hl 0 rfl ?_
  refine pj_iconst (v := (nI 2)) C dd_JLong_bitCount_16 rfl ?_
  refine pj_lushr C dd_JLong_bitCount_17 ?_
  refine pj_ldc2 (v := (3689348814741910323 : Int64)) C co_JLong_316 dd_JLong_bitCount_18 ?_
  refine pj_land C dd_JLong_bitCount_21 ?_
  refine pj_ladd C dd_JLong_bitCount_22 ?_
  refine pj_lstb_n [] C h dd_JLong_bitCount_23 rfl hl (by decide) rfl (fun x2 ls h hl => ?_)
  refine pj_lload_n C dd_JLong_bitCount_24 rfl hl 0 rfl ?_
  refine pj_lload_n C dd_JLong_bitCount_25 rfl hl 0 rfl ?_
  refine pj_iconst (v := (nI 4)) C dd_JLong_bitCount_26 rfl ?_
  refine pj_lushr C dd_JLong_bitCount_27 ?_
  refine pj_ladd C dd_JLong_bitCount_28 ?_
  refine pj_ldc2 (v := (1085102592571150095 : Int64)) C co_JLong_318 dd_JLong_bitCount_29 ?_
  refine pj_land C dd_JLong_bitCount_32 ?_
  refine pj_lstb_n [] C h dd_JLong_bitCount_33 rfl hl (by decide) rfl (fun x3 ls h hl => ?_)
  refine pj_lload_n C dd_JLong_bitCount_34 rfl hl 0 rfl ?_
  refine pj_lload_n C dd_JLong_bitCount_35 rfl hl 0 rfl ?_
  refine pj_bipush (v := (nI 8)) C dd_JLong_bitCount_36 rfl ?_
  refine pj_lushr C dd_JLong_bitCount_38 ?_
  refine pj_ladd C dd_JLong_bitCount_39 ?_
  refine pj_lstb_n [] C h dd_JLong_bitCount_40 rfl hl (by decide) rfl (fun x4 ls h hl => ?_)
  refine pj_lload_n C dd_JLong_bitCount_41 rfl hl 0 rfl ?_
  refine pj_lload_n C dd_JLong_bitCount_42 rfl hl 0 rfl ?_
  refine pj_bipush (v := (nI 16)) C dd_JLong_bitCount_43 rfl ?_
  refine pj_lushr C dd_JLong_bitCount_45 ?_
  refine pj_ladd C dd_JLong_bitCount_46 ?_
  refine pj_lstb_n [] C h dd_JLong_bitCount_47 rfl hl (by decide) rfl (fun x5 ls h hl => ?_)
  refine pj_lload_n C dd_JLong_bitCount_48 rfl hl 0 rfl ?_
  refine pj_lload_n C dd_JLong_bitCount_49 rfl hl 0 rfl ?_
  refine pj_bipush (v := (nI 32)) C dd_JLong_bitCount_50 rfl ?_
  refine pj_lushr C dd_JLong_bitCount_52 ?_
  refine pj_ladd C dd_JLong_bitCount_53 ?_
  refine pj_lstb_n [] C h dd_JLong_bitCount_54 rfl hl (by decide) rfl (fun x6 ls h hl => ?_)
  refine pj_lload_n C dd_JLong_bitCount_55 rfl hl 0 rfl ?_
  refine pj_l2i C dd_JLong_bitCount_56 ?_
  refine pj_bipush (v := (nI 127)) C dd_JLong_bitCount_57 rfl ?_
  refine pj_iand C dd_JLong_bitCount_59 ?_
  exact pj_iret C Q P h dd_JLong_bitCount_60
theorem dd_Law_heldToOdds_0 : pj_d cX2_heldToOdds 0 (.iconst 0) 1 1 := ⟨by decide +kernel, rfl⟩
theorem dd_Law_heldToOdds_1 : pj_d cX2_heldToOdds 1 (.sipush 1000) 3 4 := ⟨by decide +kernel, rfl⟩
theorem dd_Law_heldToOdds_4 : pj_d cX2_heldToOdds 4 (.iload_n 0) 1 5 := ⟨by decide +kernel, rfl⟩
theorem dd_Law_heldToOdds_5 : pj_d cX2_heldToOdds 5 (.invokestatic 25) 3 8 := ⟨by decide +kernel, rfl⟩
theorem dd_Law_heldToOdds_8 : pj_d cX2_heldToOdds 8 (.invokestatic 31) 3 11 := ⟨by decide +kernel, rfl⟩
theorem dd_Law_heldToOdds_11 : pj_d cX2_heldToOdds 11 (.ireturn) 1 12 := ⟨by decide +kernel, rfl⟩
set_option maxHeartbeats 4000000 in
set_option maxRecDepth 100000 in
theorem ct_Law_heldToOdds {l : Launch} {B : pj_B} (hB : B.2.2.2.1 = pj_LC) {v0 : Int32} {z : pj_S} {r0 : Int32} {z0 : pj_S} (h : Law_heldToOdds v0 z = some (r0, z0)) : pj_Mi l yX2_heldToOdds cX2_heldToOdds 1 (some .int) 1 [.int v0] B z r0 z0 := by
  refine pj_meti (own := RX2) (by decide +kernel) rfl (Nat.le_of_ble_eq_true rfl) ?_
  intro A K hK C Q H lo ls P hl
  have hl : lv_has ls 1 [(0, .int v0)] := hl
  unfold Law_heldToOdds at h
  refine pj_iconst (v := (nI 0)) C dd_Law_heldToOdds_0 rfl ?_
  refine pj_sipush (v := (nI 1000)) C dd_Law_heldToOdds_1 rfl ?_
  refine pj_iload_n C dd_Law_heldToOdds_4 rfl hl 0 rfl ?_
  refine pj_mmin C cl_Law_25 (by decide) hl.1 (Nat.le_of_ble_eq_true rfl) dd_Law_heldToOdds_5 ?_
  refine pj_mmax C cl_Law_31 (by decide) hl.1 (Nat.le_of_ble_eq_true rfl) dd_Law_heldToOdds_8 ?_
  exact pj_iret C Q P h dd_Law_heldToOdds_11
theorem dd_Law_pop_0 : pj_d cX2_pop 0 (.aload_n 0) 1 1 := ⟨by decide +kernel, rfl⟩
theorem dd_Law_pop_1 : pj_d cX2_pop 1 (.getfield 40) 3 4 := ⟨by decide +kernel, rfl⟩
theorem dd_Law_pop_4 : pj_dj cX2_pop 4 (.ifCond .le 15) 15 7 19 := ⟨by decide +kernel, rfl, by decide⟩
theorem dd_Law_pop_7 : pj_d cX2_pop 7 (.aload_n 0) 1 8 := ⟨by decide +kernel, rfl⟩
theorem dd_Law_pop_8 : pj_d cX2_pop 8 (.getfield 40) 3 11 := ⟨by decide +kernel, rfl⟩
theorem dd_Law_pop_11 : pj_d cX2_pop 11 (.aload_n 0) 1 12 := ⟨by decide +kernel, rfl⟩
theorem dd_Law_pop_12 : pj_d cX2_pop 12 (.getfield 15) 3 15 := ⟨by decide +kernel, rfl⟩
theorem dd_Law_pop_15 : pj_d cX2_pop 15 (.arraylength) 1 16 := ⟨by decide +kernel, rfl⟩
theorem dd_Law_pop_16 : pj_dj cX2_pop 16 (.if_icmp .le 5) 5 19 21 := ⟨by decide +kernel, rfl, by decide⟩
theorem dd_Law_pop_19 : pj_d cX2_pop 19 (.iconst 0) 1 20 := ⟨by decide +kernel, rfl⟩
theorem dd_Law_pop_20 : pj_d cX2_pop 20 (.ireturn) 1 21 := ⟨by decide +kernel, rfl⟩
theorem dd_Law_pop_21 : pj_d cX2_pop 21 (.aload_n 0) 1 22 := ⟨by decide +kernel, rfl⟩
theorem dd_Law_pop_22 : pj_d cX2_pop 22 (.dup) 1 23 := ⟨by decide +kernel, rfl⟩
theorem dd_Law_pop_23 : pj_d cX2_pop 23 (.getfield 40) 3 26 := ⟨by decide +kernel, rfl⟩
theorem dd_Law_pop_26 : pj_d cX2_pop 26 (.iconst 1) 1 27 := ⟨by decide +kernel, rfl⟩
theorem dd_Law_pop_27 : pj_d cX2_pop 27 (.isub) 1 28 := ⟨by decide +kernel, rfl⟩
theorem dd_Law_pop_28 : pj_d cX2_pop 28 (.putfield 40) 3 31 := ⟨by decide +kernel, rfl⟩
theorem dd_Law_pop_31 : pj_d cX2_pop 31 (.aload_n 0) 1 32 := ⟨by decide +kernel, rfl⟩
theorem dd_Law_pop_32 : pj_d cX2_pop 32 (.getfield 15) 3 35 := ⟨by decide +kernel, rfl⟩
theorem dd_Law_pop_35 : pj_d cX2_pop 35 (.aload_n 0) 1 36 := ⟨by decide +kernel, rfl⟩
theorem dd_Law_pop_36 : pj_d cX2_pop 36 (.getfield 40) 3 39 := ⟨by decide +kernel, rfl⟩
theorem dd_Law_pop_39 : pj_d cX2_pop 39 (.iaload) 1 40 := ⟨by decide +kernel, rfl⟩
theorem dd_Law_pop_40 : pj_d cX2_pop 40 (.ireturn) 1 41 := ⟨by decide +kernel, rfl⟩
set_option maxHeartbeats 4000000 in
set_option maxRecDepth 100000 in
theorem ct_Law_pop {l : Launch} {B : pj_B} (hB : B.2.2.2.1 = pj_LC)  {z : pj_S} {r0 : Int32} {z0 : pj_S} (h : Law_pop z = some (r0, z0)) : pj_Mi l yX2_pop cX2_pop 1 (some .int) 1 [.ref (B.2.1 9)] B z r0 z0 := by
  refine pj_meti (own := RX2) (by decide +kernel) rfl (Nat.le_of_ble_eq_true rfl) ?_
  intro A K hK C Q H lo ls P hl
  have hl : lv_has ls 1 [(0, .ref (B.2.1 9))] := hl
  unfold Law_pop at h
  refine pj_aload_n C dd_Law_pop_0 rfl hl 0 rfl ?_
  refine pj_getI C P 9 (LC9 hB) rfl fl_Law_40 dd_Law_pop_1 ?_
  refine pj_if_le C h dd_Law_pop_4 (fun h => ?_) (fun h => ?_)
  · refine pj_iconst (v := (nI 0)) C dd_Law_pop_19 rfl ?_
    exact pj_iret C Q P h dd_Law_pop_20
  · refine pj_aload_n C dd_Law_pop_7 rfl hl 0 rfl ?_
    refine pj_getI C P 9 (LC9 hB) rfl fl_Law_40 dd_Law_pop_8 ?_
    refine pj_aload_n C dd_Law_pop_11 rfl hl 0 rfl ?_
    refine pj_getR C P 9 (LC9 hB) rfl fl_Law_15 dd_Law_pop_12 ?_
    refine pj_alen (nI 64) C P 30 (LC30 hB) (by decide) (by decide) dd_Law_pop_15 ?_
    refine pj_ic_le C h dd_Law_pop_16 (fun h => ?_) (fun h => ?_)
    · refine pj_aload_n C dd_Law_pop_21 rfl hl 0 rfl ?_
      refine pj_dup C dd_Law_pop_22 rfl ?_
      refine pj_getI C P 9 (LC9 hB) rfl fl_Law_40 dd_Law_pop_23 ?_
      refine pj_iconst (v := (nI 1)) C dd_Law_pop_26 rfl ?_
      refine pj_isub C dd_Law_pop_27 ?_
      refine pj_putI C P 9 (LC9 hB) rfl fl_Law_40 rfl fy_2_4 h dd_Law_pop_28 (fun H lo z1 h P => ?_)
      refine pj_aload_n C dd_Law_pop_31 rfl hl 0 rfl ?_
      refine pj_getR C P 9 (LC9 hB) rfl fl_Law_15 dd_Law_pop_32 ?_
      refine pj_aload_n C dd_Law_pop_35 rfl hl 0 rfl ?_
      refine pj_getI C P 9 (LC9 hB) rfl fl_Law_40 dd_Law_pop_36 ?_
      refine pj_iald C P 30 (LC30 hB) h dd_Law_pop_39 (fun h => ?_)
      exact pj_iret C Q P h dd_Law_pop_40
    · refine pj_iconst (v := (nI 0)) C dd_Law_pop_19 rfl ?_
      exact pj_iret C Q P h dd_Law_pop_20
theorem dd_Law_push_0 : pj_d cX2_push 0 (.aload_n 0) 1 1 := ⟨by decide +kernel, rfl⟩
theorem dd_Law_push_1 : pj_d cX2_push 1 (.getfield 40) 3 4 := ⟨by decide +kernel, rfl⟩
theorem dd_Law_push_4 : pj_dj cX2_push 4 (.ifCond .lt 35) 35 7 39 := ⟨by decide +kernel, rfl, by decide⟩
theorem dd_Law_push_7 : pj_d cX2_push 7 (.aload_n 0) 1 8 := ⟨by decide +kernel, rfl⟩
theorem dd_Law_push_8 : pj_d cX2_push 8 (.getfield 40) 3 11 := ⟨by decide +kernel, rfl⟩
theorem dd_Law_push_11 : pj_d cX2_push 11 (.aload_n 0) 1 12 := ⟨by decide +kernel, rfl⟩
theorem dd_Law_push_12 : pj_d cX2_push 12 (.getfield 15) 3 15 := ⟨by decide +kernel, rfl⟩
theorem dd_Law_push_15 : pj_d cX2_push 15 (.arraylength) 1 16 := ⟨by decide +kernel, rfl⟩
theorem dd_Law_push_16 : pj_dj cX2_push 16 (.if_icmp .ge 23) 23 19 39 := ⟨by decide +kernel, rfl, by decide⟩
theorem dd_Law_push_19 : pj_d cX2_push 19 (.aload_n 0) 1 20 := ⟨by decide +kernel, rfl⟩
theorem dd_Law_push_20 : pj_d cX2_push 20 (.getfield 15) 3 23 := ⟨by decide +kernel, rfl⟩
theorem dd_Law_push_23 : pj_d cX2_push 23 (.aload_n 0) 1 24 := ⟨by decide +kernel, rfl⟩
theorem dd_Law_push_24 : pj_d cX2_push 24 (.getfield 40) 3 27 := ⟨by decide +kernel, rfl⟩
theorem dd_Law_push_27 : pj_d cX2_push 27 (.iload_n 1) 1 28 := ⟨by decide +kernel, rfl⟩
theorem dd_Law_push_28 : pj_d cX2_push 28 (.iastore) 1 29 := ⟨by decide +kernel, rfl⟩
theorem dd_Law_push_29 : pj_d cX2_push 29 (.aload_n 0) 1 30 := ⟨by decide +kernel, rfl⟩
theorem dd_Law_push_30 : pj_d cX2_push 30 (.dup) 1 31 := ⟨by decide +kernel, rfl⟩
theorem dd_Law_push_31 : pj_d cX2_push 31 (.getfield 40) 3 34 := ⟨by decide +kernel, rfl⟩
theorem dd_Law_push_34 : pj_d cX2_push 34 (.iconst 1) 1 35 := ⟨by decide +kernel, rfl⟩
theorem dd_Law_push_35 : pj_d cX2_push 35 (.iadd) 1 36 := ⟨by decide +kernel, rfl⟩
theorem dd_Law_push_36 : pj_d cX2_push 36 (.putfield 40) 3 39 := ⟨by decide +kernel, rfl⟩
theorem dd_Law_push_39 : pj_d cX2_push 39 (.return_) 1 40 := ⟨by decide +kernel, rfl⟩
set_option maxHeartbeats 4000000 in
set_option maxRecDepth 100000 in
theorem ct_Law_push {l : Launch} {B : pj_B} (hB : B.2.2.2.1 = pj_LC) {v1 : Int32} {z : pj_S} {r0 : Unit} {z0 : pj_S} (h : Law_push v1 z = some (r0, z0)) : pj_Mv l yX2_push cX2_push 2 none 1 [.ref (B.2.1 9), .int v1] B z r0 z0 := by
  refine pj_metv (own := RX2) (by decide +kernel) rfl (Nat.le_of_ble_eq_true rfl) ?_
  intro A K hK C Q H lo ls P hl
  have hl : lv_has ls 2 [(0, .ref (B.2.1 9)), (1, .int v1)] := hl
  unfold Law_push at h
  refine pj_aload_n C dd_Law_push_0 rfl hl 0 rfl ?_
  refine pj_getI C P 9 (LC9 hB) rfl fl_Law_40 dd_Law_push_1 ?_
  refine pj_if_lt C h dd_Law_push_4 (fun h => ?_) (fun h => ?_)
  · exact pj_vret C Q P h dd_Law_push_39
  · refine pj_aload_n C dd_Law_push_7 rfl hl 0 rfl ?_
    refine pj_getI C P 9 (LC9 hB) rfl fl_Law_40 dd_Law_push_8 ?_
    refine pj_aload_n C dd_Law_push_11 rfl hl 0 rfl ?_
    refine pj_getR C P 9 (LC9 hB) rfl fl_Law_15 dd_Law_push_12 ?_
    refine pj_alen (nI 64) C P 30 (LC30 hB) (by decide) (by decide) dd_Law_push_15 ?_
    refine pj_ic_ge C h dd_Law_push_16 (fun h => ?_) (fun h => ?_)
    · exact pj_vret C Q P h dd_Law_push_39
    · refine pj_aload_n C dd_Law_push_19 rfl hl 0 rfl ?_
      refine pj_getR C P 9 (LC9 hB) rfl fl_Law_15 dd_Law_push_20 ?_
      refine pj_aload_n C dd_Law_push_23 rfl hl 0 rfl ?_
      refine pj_getI C P 9 (LC9 hB) rfl fl_Law_40 dd_Law_push_24 ?_
      refine pj_iload_n C dd_Law_push_27 rfl hl 1 rfl ?_
      refine pj_iast C P 30 (LC30 hB) h dd_Law_push_28 (fun H lo z1 h P => ?_)
      refine pj_aload_n C dd_Law_push_29 rfl hl 0 rfl ?_
      refine pj_dup C dd_Law_push_30 rfl ?_
      refine pj_getI C P 9 (LC9 hB) rfl fl_Law_40 dd_Law_push_31 ?_
      refine pj_iconst (v := (nI 1)) C dd_Law_push_34 rfl ?_
      refine pj_iadd C dd_Law_push_35 ?_
      refine pj_putI C P 9 (LC9 hB) rfl fl_Law_40 rfl fy_2_4 h dd_Law_push_36 (fun H lo z2 h P => ?_)
      exact pj_vret C Q P h dd_Law_push_39
