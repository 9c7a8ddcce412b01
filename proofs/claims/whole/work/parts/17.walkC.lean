theorem dd_PJ_undo_0 : pj_d cX10_undo 0 (.aload_n 0) 1 1 := ⟨by decide +kernel, rfl⟩
theorem dd_PJ_undo_1 : pj_d cX10_undo 1 (.getfield 22) 3 4 := ⟨by decide +kernel, rfl⟩
theorem dd_PJ_undo_4 : pj_d cX10_undo 4 (.aload_n 0) 1 5 := ⟨by decide +kernel, rfl⟩
theorem dd_PJ_undo_5 : pj_d cX10_undo 5 (.getfield 10) 3 8 := ⟨by decide +kernel, rfl⟩
theorem dd_PJ_undo_8 : pj_d cX10_undo 8 (.invokevirtual 259) 3 11 := ⟨by decide +kernel, rfl⟩
theorem dd_PJ_undo_11 : pj_d cX10_undo 11 (.ireturn) 1 12 := ⟨by decide +kernel, rfl⟩
set_option maxHeartbeats 4000000 in
set_option maxRecDepth 100000 in
theorem ct_PJ_undo {l : Launch} {B : pj_B} (hB : B.2.2.2.1 = pj_LC)  {z : pj_S} {r0 : Int32} {z0 : pj_S} (h : PJ_undo z = some (r0, z0)) : pj_Mi l yX10_undo cX10_undo 1 (some .boolean) 2 [.ref (B.2.1 0)] B z r0 z0 := by
  refine pj_meti (own := RX10) (by decide +kernel) rfl (Nat.le_of_ble_eq_true rfl) ?_
  intro A K hK C Q H lo ls P hl
  have hl : lv_has ls 1 [(0, .ref (B.2.1 0))] := hl
  unfold PJ_undo at h
  refine pj_aload_n C dd_PJ_undo_0 rfl hl 0 rfl ?_
  refine pj_getR C P 0 (LC0 hB) rfl fl_PJ_22 dd_PJ_undo_1 ?_
  refine pj_aload_n C dd_PJ_undo_4 rfl hl 0 rfl ?_
  refine pj_getR C P 0 (LC0 hB) rfl fl_PJ_10 dd_PJ_undo_5 ?_
  obtain ⟨r3, z2, e1, h⟩ := pj_cE h
  refine pj_cVi (st := []) [.ref (B.2.1 1)] C P 3 (LC3 hB) rfl (ct_Past_goBack hB e1) cl_PJ_259 rfl (by decide) (by decide) hl.1 (Nat.le_of_ble_eq_true rfl) dd_PJ_undo_8 (fun H lo P => ?_)
  exact pj_zret C Q P h dd_PJ_undo_11
theorem dd_Fabric_copyFrom_0 : pj_d cX1_copyFrom 0 (.aload_n 0) 1 1 := ⟨by decide +kernel, rfl⟩
theorem dd_Fabric_copyFrom_1 : pj_d cX1_copyFrom 1 (.aload_n 1) 1 2 := ⟨by decide +kernel, rfl⟩
theorem dd_Fabric_copyFrom_2 : pj_d cX1_copyFrom 2 (.getfield 9) 3 5 := ⟨by decide +kernel, rfl⟩
theorem dd_Fabric_copyFrom_5 : pj_d cX1_copyFrom 5 (.putfield 9) 3 8 := ⟨by decide +kernel, rfl⟩
theorem dd_Fabric_copyFrom_8 : pj_d cX1_copyFrom 8 (.aload_n 0) 1 9 := ⟨by decide +kernel, rfl⟩
theorem dd_Fabric_copyFrom_9 : pj_d cX1_copyFrom 9 (.aload_n 1) 1 10 := ⟨by decide +kernel, rfl⟩
theorem dd_Fabric_copyFrom_10 : pj_d cX1_copyFrom 10 (.getfield 15) 3 13 := ⟨by decide +kernel, rfl⟩
theorem dd_Fabric_copyFrom_13 : pj_d cX1_copyFrom 13 (.putfield 15) 3 16 := ⟨by decide +kernel, rfl⟩
theorem dd_Fabric_copyFrom_16 : pj_d cX1_copyFrom 16 (.aload_n 0) 1 17 := ⟨by decide +kernel, rfl⟩
theorem dd_Fabric_copyFrom_17 : pj_d cX1_copyFrom 17 (.aload_n 1) 1 18 := ⟨by decide +kernel, rfl⟩
theorem dd_Fabric_copyFrom_18 : pj_d cX1_copyFrom 18 (.getfield 18) 3 21 := ⟨by decide +kernel, rfl⟩
theorem dd_Fabric_copyFrom_21 : pj_d cX1_copyFrom 21 (.putfield 18) 3 24 := ⟨by decide +kernel, rfl⟩
theorem dd_Fabric_copyFrom_24 : pj_d cX1_copyFrom 24 (.aload_n 0) 1 25 := ⟨by decide +kernel, rfl⟩
theorem dd_Fabric_copyFrom_25 : pj_d cX1_copyFrom 25 (.aload_n 1) 1 26 := ⟨by decide +kernel, rfl⟩
theorem dd_Fabric_copyFrom_26 : pj_d cX1_copyFrom 26 (.getfield 26) 3 29 := ⟨by decide +kernel, rfl⟩
theorem dd_Fabric_copyFrom_29 : pj_d cX1_copyFrom 29 (.putfield 26) 3 32 := ⟨by decide +kernel, rfl⟩
theorem dd_Fabric_copyFrom_32 : pj_d cX1_copyFrom 32 (.aload_n 0) 1 33 := ⟨by decide +kernel, rfl⟩
theorem dd_Fabric_copyFrom_33 : pj_d cX1_copyFrom 33 (.aload_n 1) 1 34 := ⟨by decide +kernel, rfl⟩
theorem dd_Fabric_copyFrom_34 : pj_d cX1_copyFrom 34 (.getfield 30) 3 37 := ⟨by decide +kernel, rfl⟩
theorem dd_Fabric_copyFrom_37 : pj_d cX1_copyFrom 37 (.putfield 30) 3 40 := ⟨by decide +kernel, rfl⟩
theorem dd_Fabric_copyFrom_40 : pj_d cX1_copyFrom 40 (.aload_n 0) 1 41 := ⟨by decide +kernel, rfl⟩
theorem dd_Fabric_copyFrom_41 : pj_d cX1_copyFrom 41 (.aload_n 1) 1 42 := ⟨by decide +kernel, rfl⟩
theorem dd_Fabric_copyFrom_42 : pj_d cX1_copyFrom 42 (.getfield 33) 3 45 := ⟨by decide +kernel, rfl⟩
theorem dd_Fabric_copyFrom_45 : pj_d cX1_copyFrom 45 (.putfield 33) 3 48 := ⟨by decide +kernel, rfl⟩
theorem dd_Fabric_copyFrom_48 : pj_d cX1_copyFrom 48 (.aload_n 0) 1 49 := ⟨by decide +kernel, rfl⟩
theorem dd_Fabric_copyFrom_49 : pj_d cX1_copyFrom 49 (.aload_n 1) 1 50 := ⟨by decide +kernel, rfl⟩
theorem dd_Fabric_copyFrom_50 : pj_d cX1_copyFrom 50 (.getfield 36) 3 53 := ⟨by decide +kernel, rfl⟩
theorem dd_Fabric_copyFrom_53 : pj_d cX1_copyFrom 53 (.putfield 36) 3 56 := ⟨by decide +kernel, rfl⟩
theorem dd_Fabric_copyFrom_56 : pj_d cX1_copyFrom 56 (.aload_n 0) 1 57 := ⟨by decide +kernel, rfl⟩
theorem dd_Fabric_copyFrom_57 : pj_d cX1_copyFrom 57 (.aload_n 1) 1 58 := ⟨by decide +kernel, rfl⟩
theorem dd_Fabric_copyFrom_58 : pj_d cX1_copyFrom 58 (.getfield 39) 3 61 := ⟨by decide +kernel, rfl⟩
theorem dd_Fabric_copyFrom_61 : pj_d cX1_copyFrom 61 (.putfield 39) 3 64 := ⟨by decide +kernel, rfl⟩
theorem dd_Fabric_copyFrom_64 : pj_d cX1_copyFrom 64 (.aload_n 0) 1 65 := ⟨by decide +kernel, rfl⟩
theorem dd_Fabric_copyFrom_65 : pj_d cX1_copyFrom 65 (.aload_n 1) 1 66 := ⟨by decide +kernel, rfl⟩
theorem dd_Fabric_copyFrom_66 : pj_d cX1_copyFrom 66 (.getfield 42) 3 69 := ⟨by decide +kernel, rfl⟩
theorem dd_Fabric_copyFrom_69 : pj_d cX1_copyFrom 69 (.putfield 42) 3 72 := ⟨by decide +kernel, rfl⟩
theorem dd_Fabric_copyFrom_72 : pj_d cX1_copyFrom 72 (.aload_n 0) 1 73 := ⟨by decide +kernel, rfl⟩
theorem dd_Fabric_copyFrom_73 : pj_d cX1_copyFrom 73 (.aload_n 1) 1 74 := ⟨by decide +kernel, rfl⟩
theorem dd_Fabric_copyFrom_74 : pj_d cX1_copyFrom 74 (.getfield 45) 3 77 := ⟨by decide +kernel, rfl⟩
theorem dd_Fabric_copyFrom_77 : pj_d cX1_copyFrom 77 (.putfield 45) 3 80 := ⟨by decide +kernel, rfl⟩
theorem dd_Fabric_copyFrom_80 : pj_d cX1_copyFrom 80 (.return_) 1 81 := ⟨by decide +kernel, rfl⟩
set_option maxHeartbeats 4000000 in
set_option maxRecDepth 100000 in
theorem ct_Fabric_copyFrom {l : Launch} {B : pj_B} (hB : B.2.2.2.1 = pj_LC)  {z : pj_S} {r0 : Unit} {z0 : pj_S} (h : Fabric_copyFrom z = some (r0, z0)) : pj_Mv l yX1_copyFrom cX1_copyFrom 2 none 1 [.ref (B.2.1 8), .ref (B.2.1 12)] B z r0 z0 := by
  refine pj_metv (own := RX1) (by decide +kernel) rfl (Nat.le_of_ble_eq_true rfl) ?_
  intro A K hK C Q H lo ls P hl
  have hl : lv_has ls 2 [(0, .ref (B.2.1 8)), (1, .ref (B.2.1 12))] := hl
  unfold Fabric_copyFrom at h
  refine pj_aload_n C dd_Fabric_copyFrom_0 rfl hl 0 rfl ?_
  refine pj_aload_n C dd_Fabric_copyFrom_1 rfl hl 1 rfl ?_
  refine pj_getI C P 12 (LC12 hB) rfl fl_Fabric_9 dd_Fabric_copyFrom_2 ?_
  refine pj_putI C P 8 (LC8 hB) rfl fl_Fabric_9 rfl fy_1_0 h dd_Fabric_copyFrom_5 (fun H lo z1 h P => ?_)
  refine pj_aload_n C dd_Fabric_copyFrom_8 rfl hl 0 rfl ?_
  refine pj_aload_n C dd_Fabric_copyFrom_9 rfl hl 1 rfl ?_
  refine pj_getI C P 12 (LC12 hB) rfl fl_Fabric_15 dd_Fabric_copyFrom_10 ?_
  refine pj_putI C P 8 (LC8 hB) rfl fl_Fabric_15 rfl fy_1_1 h dd_Fabric_copyFrom_13 (fun H lo z2 h P => ?_)
  refine pj_aload_n C dd_Fabric_copyFrom_16 rfl hl 0 rfl ?_
  refine pj_aload_n C dd_Fabric_copyFrom_17 rfl hl 1 rfl ?_
  refine pj_getI C P 12 (LC12 hB) rfl fl_Fabric_18 dd_Fabric_copyFrom_18 ?_
  refine pj_putZ C P 8 (LC8 hB) rfl fl_Fabric_18 rfl fy_1_2 h dd_Fabric_copyFrom_21 (fun H lo z3 h P => ?_)
  refine pj_aload_n C dd_Fabric_copyFrom_24 rfl hl 0 rfl ?_
  refine pj_aload_n C dd_Fabric_copyFrom_25 rfl hl 1 rfl ?_
  refine pj_getJ C P 12 (LC12 hB) rfl fl_Fabric_26 dd_Fabric_copyFrom_26 ?_
  refine pj_putJ C P 8 (LC8 hB) rfl fl_Fabric_26 rfl fy_1_3 h dd_Fabric_copyFrom_29 (fun H lo z4 h P => ?_)
  refine pj_aload_n C dd_Fabric_copyFrom_32 rfl hl 0 rfl ?_
  refine pj_aload_n C dd_Fabric_copyFrom_33 rfl hl 1 rfl ?_
  refine pj_getJ C P 12 (LC12 hB) rfl fl_Fabric_30 dd_Fabric_copyFrom_34 ?_
  refine pj_putJ C P 8 (LC8 hB) rfl fl_Fabric_30 rfl fy_1_4 h dd_Fabric_copyFrom_37 (fun H lo z5 h P => ?_)
  refine pj_aload_n C dd_Fabric_copyFrom_40 rfl hl 0 rfl ?_
  refine pj_aload_n C dd_Fabric_copyFrom_41 rfl hl 1 rfl ?_
  refine pj_getJ C P 12 (LC12 hB) rfl fl_Fabric_33 dd_Fabric_copyFrom_42 ?_
  refine pj_putJ C P 8 (LC8 hB) rfl fl_Fabric_33 rfl fy_1_5 h dd_Fabric_copyFrom_45 (fun H lo z6 h P => ?_)
  refine pj_aload_n C dd_Fabric_copyFrom_48 rfl hl 0 rfl ?_
  refine pj_aload_n C dd_Fabric_copyFrom_49 rfl hl 1 rfl ?_
  refine pj_getJ C P 12 (LC12 hB) rfl fl_Fabric_36 dd_Fabric_copyFrom_50 ?_
  refine pj_putJ C P 8 (LC8 hB) rfl fl_Fabric_36 rfl fy_1_6 h dd_Fabric_copyFrom_53 (fun H lo z7 h P => ?_)
  refine pj_aload_n C dd_Fabric_copyFrom_56 rfl hl 0 rfl ?_
  refine pj_aload_n C dd_Fabric_copyFrom_57 rfl hl 1 rfl ?_
  refine pj_getJ C P 12 (LC12 hB) rfl fl_Fabric_39 dd_Fabric_copyFrom_58 ?_
  refine pj_putJ C P 8 (LC8 hB) rfl fl_Fabric_39 rfl fy_1_7 h dd_Fabric_copyFrom_61 (fun H lo z8 h P => ?_)
  refine pj_aload_n C dd_Fabric_copyFrom_64 rfl hl 0 rfl ?_
  refine pj_aload_n C dd_Fabric_copyFrom_65 rfl hl 1 rfl ?_
  refine pj_getJ C P 12 (LC12 hB) rfl fl_Fabric_42 dd_Fabric_copyFrom_66 ?_
  refine pj_putJ C P 8 (LC8 hB) rfl fl_Fabric_42 rfl fy_1_8 h dd_Fabric_copyFrom_69 (fun H lo z9 h P => ?_)
  refine pj_aload_n C dd_Fabric_copyFrom_72 rfl hl 0 rfl ?_
  refine pj_aload_n C dd_Fabric_copyFrom_73 rfl hl 1 rfl ?_
  refine pj_getJ C P 12 (LC12 hB) rfl fl_Fabric_45 dd_Fabric_copyFrom_74 ?_
  refine pj_putJ C P 8 (LC8 hB) rfl fl_Fabric_45 rfl fy_1_9 h dd_Fabric_copyFrom_77 (fun H lo z10 h P => ?_)
  exact pj_vret C Q P h dd_Fabric_copyFrom_80
set_option maxHeartbeats 4000000 in
set_option maxRecDepth 100000 in
theorem ct_Law_take_9_35 {l : Launch} {B : pj_B} (hB : B.2.2.2.1 = pj_LC) {v2 : Int32} {v3 : Int32} {z : pj_S} {r0 : Unit} {z0 : pj_S} (h : Law_take_9_35 v2 v3 z = some (r0, z0)) : pj_Mv l yX2_take cX2_take 4 none 1 [.ref (B.2.1 9), .ref (B.2.1 35), .int v2, .int v3] B z r0 z0 := by
  refine pj_metv (own := RX2) (by decide +kernel) rfl (Nat.le_of_ble_eq_true rfl) ?_
  intro A K hK C Q H lo ls P hl
  have hl : lv_has ls 4 [(0, .ref (B.2.1 9)), (1, .ref (B.2.1 35)), (2, .int v2), (3, .int v3)] := hl
  unfold Law_take_9_35 at h
  refine pj_aload_n C dd_Law_take_0 rfl hl 0 rfl ?_
  refine pj_iconst (v := (nI 0)) C dd_Law_take_1 rfl ?_
  refine pj_iload_n C dd_Law_take_2 rfl hl 2 rfl ?_
  refine pj_aload_n C dd_Law_take_3 rfl hl 0 rfl ?_
  refine pj_getR C P 9 (LC9 hB) rfl fl_Law_9 dd_Law_take_4 ?_
  refine pj_alen (nI 400) C P 29 (LC29 hB) (by decide) (by decide) dd_Law_take_7 ?_
  refine pj_aload_n C dd_Law_take_8 rfl hl 1 rfl ?_
  refine pj_alen (nI 400) C P 35 (LC35 hB) (by decide) (by decide) dd_Law_take_9 ?_
  refine pj_mmin C cl_Law_25 (by decide) hl.1 (Nat.le_of_ble_eq_true rfl) dd_Law_take_10 ?_
  refine pj_mmin C cl_Law_25 (by decide) hl.1 (Nat.le_of_ble_eq_true rfl) dd_Law_take_13 ?_
  refine pj_mmax C cl_Law_31 (by decide) hl.1 (Nat.le_of_ble_eq_true rfl) dd_Law_take_16 ?_
  refine pj_putI C P 9 (LC9 hB) rfl fl_Law_18 rfl fy_2_2 h dd_Law_take_19 (fun H lo z1 h P => ?_)
  refine pj_aload_n C dd_Law_take_22 rfl hl 1 rfl ?_
  refine pj_iconst (v := (nI 0)) C dd_Law_take_23 rfl ?_
  refine pj_aload_n C dd_Law_take_24 rfl hl 0 rfl ?_
  refine pj_getR C P 9 (LC9 hB) rfl fl_Law_9 dd_Law_take_25 ?_
  refine pj_iconst (v := (nI 0)) C dd_Law_take_28 rfl ?_
  refine pj_aload_n C dd_Law_take_29 rfl hl 0 rfl ?_
  refine pj_getI C P 9 (LC9 hB) rfl fl_Law_18 dd_Law_take_30 ?_
  refine pj_copy C P 35 29 (LC35 hB) (LC29 hB) h cl_Law_34 (by decide) hl.1 (Nat.le_of_ble_eq_true rfl) dd_Law_take_33 (fun H lo z2 h P => ?_)
  refine pj_aload_n C dd_Law_take_36 rfl hl 0 rfl ?_
  refine pj_iload_n C dd_Law_take_37 rfl hl 3 rfl ?_
  refine pj_putI C P 9 (LC9 hB) rfl fl_Law_22 rfl fy_2_3 h dd_Law_take_38 (fun H lo z3 h P => ?_)
  exact pj_vret C Q P h dd_Law_take_41
theorem dd_Book_copyFrom_0 : pj_d cX0_copyFrom 0 (.aload_n 1) 1 1 := ⟨by decide +kernel, rfl⟩
theorem dd_Book_copyFrom_1 : pj_d cX0_copyFrom 1 (.getfield 9) 3 4 := ⟨by decide +kernel, rfl⟩
theorem dd_Book_copyFrom_4 : pj_d cX0_copyFrom 4 (.iconst 0) 1 5 := ⟨by decide +kernel, rfl⟩
theorem dd_Book_copyFrom_5 : pj_d cX0_copyFrom 5 (.aload_n 0) 1 6 := ⟨by decide +kernel, rfl⟩
theorem dd_Book_copyFrom_6 : pj_d cX0_copyFrom 6 (.getfield 9) 3 9 := ⟨by decide +kernel, rfl⟩
theorem dd_Book_copyFrom_9 : pj_d cX0_copyFrom 9 (.iconst 0) 1 10 := ⟨by decide +kernel, rfl⟩
theorem dd_Book_copyFrom_10 : pj_d cX0_copyFrom 10 (.bipush 100) 2 12 := ⟨by decide +kernel, rfl⟩
theorem dd_Book_copyFrom_12 : pj_d cX0_copyFrom 12 (.invokestatic 21) 3 15 := ⟨by decide +kernel, rfl⟩
theorem dd_Book_copyFrom_15 : pj_d cX0_copyFrom 15 (.aload_n 1) 1 16 := ⟨by decide +kernel, rfl⟩
theorem dd_Book_copyFrom_16 : pj_d cX0_copyFrom 16 (.getfield 15) 3 19 := ⟨by decide +kernel, rfl⟩
theorem dd_Book_copyFrom_19 : pj_d cX0_copyFrom 19 (.iconst 0) 1 20 := ⟨by decide +kernel, rfl⟩
theorem dd_Book_copyFrom_20 : pj_d cX0_copyFrom 20 (.aload_n 0) 1 21 := ⟨by decide +kernel, rfl⟩
theorem dd_Book_copyFrom_21 : pj_d cX0_copyFrom 21 (.getfield 15) 3 24 := ⟨by decide +kernel, rfl⟩
theorem dd_Book_copyFrom_24 : pj_d cX0_copyFrom 24 (.iconst 0) 1 25 := ⟨by decide +kernel, rfl⟩
theorem dd_Book_copyFrom_25 : pj_d cX0_copyFrom 25 (.bipush 100) 2 27 := ⟨by decide +kernel, rfl⟩
theorem dd_Book_copyFrom_27 : pj_d cX0_copyFrom 27 (.invokestatic 21) 3 30 := ⟨by decide +kernel, rfl⟩
theorem dd_Book_copyFrom_30 : pj_d cX0_copyFrom 30 (.aload_n 1) 1 31 := ⟨by decide +kernel, rfl⟩
theorem dd_Book_copyFrom_31 : pj_d cX0_copyFrom 31 (.getfield 18) 3 34 := ⟨by decide +kernel, rfl⟩
theorem dd_Book_copyFrom_34 : pj_d cX0_copyFrom 34 (.iconst 0) 1 35 := ⟨by decide +kernel, rfl⟩
theorem dd_Book_copyFrom_35 : pj_d cX0_copyFrom 35 (.aload_n 0) 1 36 := ⟨by decide +kernel, rfl⟩
theorem dd_Book_copyFrom_36 : pj_d cX0_copyFrom 36 (.getfield 18) 3 39 := ⟨by decide +kernel, rfl⟩
theorem dd_Book_copyFrom_39 : pj_d cX0_copyFrom 39 (.iconst 0) 1 40 := ⟨by decide +kernel, rfl⟩
theorem dd_Book_copyFrom_40 : pj_d cX0_copyFrom 40 (.bipush 100) 2 42 := ⟨by decide +kernel, rfl⟩
theorem dd_Book_copyFrom_42 : pj_d cX0_copyFrom 42 (.invokestatic 21) 3 45 := ⟨by decide +kernel, rfl⟩
theorem dd_Book_copyFrom_45 : pj_d cX0_copyFrom 45 (.aload_n 0) 1 46 := ⟨by decide +kernel, rfl⟩
theorem dd_Book_copyFrom_46 : pj_d cX0_copyFrom 46 (.aload_n 1) 1 47 := ⟨by decide +kernel, rfl⟩
theorem dd_Book_copyFrom_47 : pj_d cX0_copyFrom 47 (.getfield 27) 3 50 := ⟨by decide +kernel, rfl⟩
theorem dd_Book_copyFrom_50 : pj_d cX0_copyFrom 50 (.putfield 27) 3 53 := ⟨by decide +kernel, rfl⟩
theorem dd_Book_copyFrom_53 : pj_d cX0_copyFrom 53 (.return_) 1 54 := ⟨by decide +kernel, rfl⟩
set_option maxHeartbeats 4000000 in
set_option maxRecDepth 100000 in
theorem ct_Book_copyFrom {l : Launch} {B : pj_B} (hB : B.2.2.2.1 = pj_LC)  {z : pj_S} {r0 : Unit} {z0 : pj_S} (h : Book_copyFrom z = some (r0, z0)) : pj_Mv l yX0_copyFrom cX0_copyFrom 2 none 1 [.ref (B.2.1 10), .ref (B.2.1 14)] B z r0 z0 := by
  refine pj_metv (own := RX0) (by decide +kernel) rfl (Nat.le_of_ble_eq_true rfl) ?_
  intro A K hK C Q H lo ls P hl
  have hl : lv_has ls 2 [(0, .ref (B.2.1 10)), (1, .ref (B.2.1 14))] := hl
  unfold Book_copyFrom at h
  refine pj_aload_n C dd_Book_copyFrom_0 rfl hl 1 rfl ?_
  refine pj_getR C P 14 (LC14 hB) rfl fl_Book_9 dd_Book_copyFrom_1 ?_
  refine pj_iconst (v := (nI 0)) C dd_Book_copyFrom_4 rfl ?_
  refine pj_aload_n C dd_Book_copyFrom_5 rfl hl 0 rfl ?_
  refine pj_getR C P 10 (LC10 hB) rfl fl_Book_9 dd_Book_copyFrom_6 ?_
  refine pj_iconst (v := (nI 0)) C dd_Book_copyFrom_9 rfl ?_
  refine pj_bipush (v := (nI 100)) C dd_Book_copyFrom_10 rfl ?_
  refine pj_copy C P 37 31 (LC37 hB) (LC31 hB) h cl_Book_21 (by decide) hl.1 (Nat.le_of_ble_eq_true rfl) dd_Book_copyFrom_12 (fun H lo z1 h P => ?_)
  refine pj_aload_n C dd_Book_copyFrom_15 rfl hl 1 rfl ?_
  refine pj_getR C P 14 (LC14 hB) rfl fl_Book_15 dd_Book_copyFrom_16 ?_
  refine pj_iconst (v := (nI 0)) C dd_Book_copyFrom_19 rfl ?_
  refine pj_aload_n C dd_Book_copyFrom_20 rfl hl 0 rfl ?_
  refine pj_getR C P 10 (LC10 hB) rfl fl_Book_15 dd_Book_copyFrom_21 ?_
  refine pj_iconst (v := (nI 0)) C dd_Book_copyFrom_24 rfl ?_
  refine pj_bipush (v := (nI 100)) C dd_Book_copyFrom_25 rfl ?_
  refine pj_copy C P 38 32 (LC38 hB) (LC32 hB) h cl_Book_21 (by decide) hl.1 (Nat.le_of_ble_eq_true rfl) dd_Book_copyFrom_27 (fun H lo z2 h P => ?_)
  refine pj_aload_n C dd_Book_copyFrom_30 rfl hl 1 rfl ?_
  refine pj_getR C P 14 (LC14 hB) rfl fl_Book_18 dd_Book_copyFrom_31 ?_
  refine pj_iconst (v := (nI 0)) C dd_Book_copyFrom_34 rfl ?_
  refine pj_aload_n C dd_Book_copyFrom_35 rfl hl 0 rfl ?_
  refine pj_getR C P 10 (LC10 hB) rfl fl_Book_18 dd_Book_copyFrom_36 ?_
  refine pj_iconst (v := (nI 0)) C dd_Book_copyFrom_39 rfl ?_
  refine pj_bipush (v := (nI 100)) C dd_Book_copyFrom_40 rfl ?_
  refine pj_copy C P 39 33 (LC39 hB) (LC33 hB) h cl_Book_21 (by decide) hl.1 (Nat.le_of_ble_eq_true rfl) dd_Book_copyFrom_42 (fun H lo z3 h P => ?_)
  refine pj_aload_n C dd_Book_copyFrom_45 rfl hl 0 rfl ?_
  refine pj_aload_n C dd_Book_copyFrom_46 rfl hl 1 rfl ?_
  refine pj_getI C P 14 (LC14 hB) rfl fl_Book_27 dd_Book_copyFrom_47 ?_
  refine pj_putI C P 10 (LC10 hB) rfl fl_Book_27 rfl fy_0_3 h dd_Book_copyFrom_50 (fun H lo z4 h P => ?_)
  exact pj_vret C Q P h dd_Book_copyFrom_53
theorem dd_Wool_copyFrom_0 : pj_d cX9_copyFrom 0 (.aload_n 1) 1 1 := ⟨by decide +kernel, rfl⟩
theorem dd_Wool_copyFrom_1 : pj_d cX9_copyFrom 1 (.getfield 9) 3 4 := ⟨by decide +kernel, rfl⟩
theorem dd_Wool_copyFrom_4 : pj_d cX9_copyFrom 4 (.iconst 0) 1 5 := ⟨by decide +kernel, rfl⟩
theorem dd_Wool_copyFrom_5 : pj_d cX9_copyFrom 5 (.aload_n 0) 1 6 := ⟨by decide +kernel, rfl⟩
theorem dd_Wool_copyFrom_6 : pj_d cX9_copyFrom 6 (.getfield 9) 3 9 := ⟨by decide +kernel, rfl⟩
theorem dd_Wool_copyFrom_9 : pj_d cX9_copyFrom 9 (.iconst 0) 1 10 := ⟨by decide +kernel, rfl⟩
theorem dd_Wool_copyFrom_10 : pj_d cX9_copyFrom 10 (.bipush 20) 2 12 := ⟨by decide +kernel, rfl⟩
theorem dd_Wool_copyFrom_12 : pj_d cX9_copyFrom 12 (.invokestatic 15) 3 15 := ⟨by decide +kernel, rfl⟩
theorem dd_Wool_copyFrom_15 : pj_d cX9_copyFrom 15 (.aload_n 0) 1 16 := ⟨by decide +kernel, rfl⟩
theorem dd_Wool_copyFrom_16 : pj_d cX9_copyFrom 16 (.aload_n 1) 1 17 := ⟨by decide +kernel, rfl⟩
theorem dd_Wool_copyFrom_17 : pj_d cX9_copyFrom 17 (.getfield 21) 3 20 := ⟨by decide +kernel, rfl⟩
theorem dd_Wool_copyFrom_20 : pj_d cX9_copyFrom 20 (.putfield 21) 3 23 := ⟨by decide +kernel, rfl⟩
theorem dd_Wool_copyFrom_23 : pj_d cX9_copyFrom 23 (.return_) 1 24 := ⟨by decide +kernel, rfl⟩
set_option maxHeartbeats 4000000 in
set_option maxRecDepth 100000 in
theorem ct_Wool_copyFrom {l : Launch} {B : pj_B} (hB : B.2.2.2.1 = pj_LC)  {z : pj_S} {r0 : Unit} {z0 : pj_S} (h : Wool_copyFrom z = some (r0, z0)) : pj_Mv l yX9_copyFrom cX9_copyFrom 2 none 1 [.ref (B.2.1 11), .ref (B.2.1 15)] B z r0 z0 := by
  refine pj_metv (own := RX9) (by decide +kernel) rfl (Nat.le_of_ble_eq_true rfl) ?_
  intro A K hK C Q H lo ls P hl
  have hl : lv_has ls 2 [(0, .ref (B.2.1 11)), (1, .ref (B.2.1 15))] := hl
  unfold Wool_copyFrom at h
  refine pj_aload_n C dd_Wool_copyFrom_0 rfl hl 1 rfl ?_
  refine pj_getR C P 15 (LC15 hB) rfl fl_Wool_9 dd_Wool_copyFrom_1 ?_
  refine pj_iconst (v := (nI 0)) C dd_Wool_copyFrom_4 rfl ?_
  refine pj_aload_n C dd_Wool_copyFrom_5 rfl hl 0 rfl ?_
  refine pj_getR C P 11 (LC11 hB) rfl fl_Wool_9 dd_Wool_copyFrom_6 ?_
  refine pj_iconst (v := (nI 0)) C dd_Wool_copyFrom_9 rfl ?_
  refine pj_bipush (v := (nI 20)) C dd_Wool_copyFrom_10 rfl ?_
  refine pj_copy C P 40 34 (LC40 hB) (LC34 hB) h cl_Wool_15 (by decide) hl.1 (Nat.le_of_ble_eq_true rfl) dd_Wool_copyFrom_12 (fun H lo z1 h P => ?_)
  refine pj_aload_n C dd_Wool_copyFrom_15 rfl hl 0 rfl ?_
  refine pj_aload_n C dd_Wool_copyFrom_16 rfl hl 1 rfl ?_
  refine pj_getI C P 15 (LC15 hB) rfl fl_Wool_21 dd_Wool_copyFrom_17 ?_
  refine pj_putI C P 11 (LC11 hB) rfl fl_Wool_21 rfl fy_9_1 h dd_Wool_copyFrom_20 (fun H lo z2 h P => ?_)
  exact pj_vret C Q P h dd_Wool_copyFrom_23
theorem dd_Whole_copyFrom_0 : pj_d cX8_copyFrom 0 (.aload_n 0) 1 1 := ⟨by decide +kernel, rfl⟩
theorem dd_Whole_copyFrom_1 : pj_d cX8_copyFrom 1 (.getfield 12) 3 4 := ⟨by decide +kernel, rfl⟩
theorem dd_Whole_copyFrom_4 : pj_d cX8_copyFrom 4 (.aload_n 1) 1 5 := ⟨by decide +kernel, rfl⟩
theorem dd_Whole_copyFrom_5 : pj_d cX8_copyFrom 5 (.getfield 12) 3 8 := ⟨by decide +kernel, rfl⟩
theorem dd_Whole_copyFrom_8 : pj_d cX8_copyFrom 8 (.invokevirtual 54) 3 11 := ⟨by decide +kernel, rfl⟩
theorem dd_Whole_copyFrom_11 : pj_d cX8_copyFrom 11 (.aload_n 0) 1 12 := ⟨by decide +kernel, rfl⟩
theorem dd_Whole_copyFrom_12 : pj_d cX8_copyFrom 12 (.getfield 21) 3 15 := ⟨by decide +kernel, rfl⟩
theorem dd_Whole_copyFrom_15 : pj_d cX8_copyFrom 15 (.aload_n 1) 1 16 := ⟨by decide +kernel, rfl⟩
theorem dd_Whole_copyFrom_16 : pj_d cX8_copyFrom 16 (.getfield 21) 3 19 := ⟨by decide +kernel, rfl⟩
theorem dd_Whole_copyFrom_19 : pj_d cX8_copyFrom 19 (.getfield 58) 3 22 := ⟨by decide +kernel, rfl⟩
theorem dd_Whole_copyFrom_22 : pj_d cX8_copyFrom 22 (.aload_n 1) 1 23 := ⟨by decide +kernel, rfl⟩
theorem dd_Whole_copyFrom_23 : pj_d cX8_copyFrom 23 (.getfield 21) 3 26 := ⟨by decide +kernel, rfl⟩
theorem dd_Whole_copyFrom_26 : pj_d cX8_copyFrom 26 (.getfield 62) 3 29 := ⟨by decide +kernel, rfl⟩
theorem dd_Whole_copyFrom_29 : pj_d cX8_copyFrom 29 (.aload_n 1) 1 30 := ⟨by decide +kernel, rfl⟩
theorem dd_Whole_copyFrom_30 : pj_d cX8_copyFrom 30 (.getfield 21) 3 33 := ⟨by decide +kernel, rfl⟩
theorem dd_Whole_copyFrom_33 : pj_d cX8_copyFrom 33 (.getfield 65) 3 36 := ⟨by decide +kernel, rfl⟩
theorem dd_Whole_copyFrom_36 : pj_d cX8_copyFrom 36 (.invokevirtual 68) 3 39 := ⟨by decide +kernel, rfl⟩
theorem dd_Whole_copyFrom_39 : pj_d cX8_copyFrom 39 (.aload_n 0) 1 40 := ⟨by decide +kernel, rfl⟩
theorem dd_Whole_copyFrom_40 : pj_d cX8_copyFrom 40 (.getfield 28) 3 43 := ⟨by decide +kernel, rfl⟩
theorem dd_Whole_copyFrom_43 : pj_d cX8_copyFrom 43 (.aload_n 1) 1 44 := ⟨by decide +kernel, rfl⟩
theorem dd_Whole_copyFrom_44 : pj_d cX8_copyFrom 44 (.getfield 28) 3 47 := ⟨by decide +kernel, rfl⟩
theorem dd_Whole_copyFrom_47 : pj_d cX8_copyFrom 47 (.invokevirtual 72) 3 50 := ⟨by decide +kernel, rfl⟩
theorem dd_Whole_copyFrom_50 : pj_d cX8_copyFrom 50 (.aload_n 0) 1 51 := ⟨by decide +kernel, rfl⟩
theorem dd_Whole_copyFrom_51 : pj_d cX8_copyFrom 51 (.getfield 35) 3 54 := ⟨by decide +kernel, rfl⟩
theorem dd_Whole_copyFrom_54 : pj_d cX8_copyFrom 54 (.aload_n 1) 1 55 := ⟨by decide +kernel, rfl⟩
theorem dd_Whole_copyFrom_55 : pj_d cX8_copyFrom 55 (.getfield 35) 3 58 := ⟨by decide +kernel, rfl⟩
theorem dd_Whole_copyFrom_58 : pj_d cX8_copyFrom 58 (.invokevirtual 75) 3 61 := ⟨by decide +kernel, rfl⟩
theorem dd_Whole_copyFrom_61 : pj_d cX8_copyFrom 61 (.aload_n 0) 1 62 := ⟨by decide +kernel, rfl⟩
theorem dd_Whole_copyFrom_62 : pj_d cX8_copyFrom 62 (.aload_n 1) 1 63 := ⟨by decide +kernel, rfl⟩
theorem dd_Whole_copyFrom_63 : pj_d cX8_copyFrom 63 (.getfield 51) 3 66 := ⟨by decide +kernel, rfl⟩
theorem dd_Whole_copyFrom_66 : pj_d cX8_copyFrom 66 (.putfield 51) 3 69 := ⟨by decide +kernel, rfl⟩
theorem dd_Whole_copyFrom_69 : pj_d cX8_copyFrom 69 (.aload_n 0) 1 70 := ⟨by decide +kernel, rfl⟩
theorem dd_Whole_copyFrom_70 : pj_d cX8_copyFrom 70 (.aload_n 1) 1 71 := ⟨by decide +kernel, rfl⟩
theorem dd_Whole_copyFrom_71 : pj_d cX8_copyFrom 71 (.getfield 78) 3 74 := ⟨by decide +kernel, rfl⟩
theorem dd_Whole_copyFrom_74 : pj_d cX8_copyFrom 74 (.putfield 78) 3 77 := ⟨by decide +kernel, rfl⟩
theorem dd_Whole_copyFrom_77 : pj_d cX8_copyFrom 77 (.return_) 1 78 := ⟨by decide +kernel, rfl⟩
set_option maxHeartbeats 4000000 in
set_option maxRecDepth 100000 in
theorem ct_Whole_copyFrom {l : Launch} {B : pj_B} (hB : B.2.2.2.1 = pj_LC)  {z : pj_S} {r0 : Unit} {z0 : pj_S} (h : Whole_copyFrom z = some (r0, z0)) : pj_Mv l yX8_copyFrom cX8_copyFrom 2 none 2 [.ref (B.2.1 1), .ref (B.2.1 2)] B z r0 z0 := by
  refine pj_metv (own := RX8) (by decide +kernel) rfl (Nat.le_of_ble_eq_true rfl) ?_
  intro A K hK C Q H lo ls P hl
  have hl : lv_has ls 2 [(0, .ref (B.2.1 1)), (1, .ref (B.2.1 2))] := hl
  unfold Whole_copyFrom at h
  refine pj_aload_n C dd_Whole_copyFrom_0 rfl hl 0 rfl ?_
  refine pj_getR C P 1 (LC1 hB) rfl fl_Whole_12 dd_Whole_copyFrom_1 ?_
  refine pj_aload_n C dd_Whole_copyFrom_4 rfl hl 1 rfl ?_
  refine pj_getR C P 2 (LC2 hB) rfl fl_Whole_12 dd_Whole_copyFrom_5 ?_
  obtain ⟨r3, z2, e1, h⟩ := pj_cE h
  refine pj_cVv (st := []) [.ref (B.2.1 12)] C P 8 (LC8 hB) rfl (ct_Fabric_copyFrom hB e1) cl_Whole_54 rfl (by decide) (by decide) hl.1 (Nat.le_of_ble_eq_true rfl) dd_Whole_copyFrom_8 (fun H lo P => ?_)
  refine pj_aload_n C dd_Whole_copyFrom_11 rfl hl 0 rfl ?_
  refine pj_getR C P 1 (LC1 hB) rfl fl_Whole_21 dd_Whole_copyFrom_12 ?_
  refine pj_aload_n C dd_Whole_copyFrom_15 rfl hl 1 rfl ?_
  refine pj_getR C P 2 (LC2 hB) rfl fl_Whole_21 dd_Whole_copyFrom_16 ?_
  refine pj_getR C P 13 (LC13 hB) rfl fl_Whole_58 dd_Whole_copyFrom_19 ?_
  refine pj_aload_n C dd_Whole_copyFrom_22 rfl hl 1 rfl ?_
  refine pj_getR C P 2 (LC2 hB) rfl fl_Whole_21 dd_Whole_copyFrom_23 ?_
  refine pj_getI C P 13 (LC13 hB) rfl fl_Whole_62 dd_Whole_copyFrom_26 ?_
  refine pj_aload_n C dd_Whole_copyFrom_29 rfl hl 1 rfl ?_
  refine pj_getR C P 2 (LC2 hB) rfl fl_Whole_21 dd_Whole_copyFrom_30 ?_
  refine pj_getI C P 13 (LC13 hB) rfl fl_Whole_65 dd_Whole_copyFrom_33 ?_
  obtain ⟨r6, z5, e4, h⟩ := pj_cE h
  refine pj_cVv (st := []) [.ref (B.2.1 35), .int (z2.1 13 2), .int (z2.1 13 3)] C P 9 (LC9 hB) rfl (ct_Law_take_9_35 hB e4) cl_Whole_68 rfl (by decide) (by decide) hl.1 (Nat.le_of_ble_eq_true rfl) dd_Whole_copyFrom_36 (fun H lo P => ?_)
  refine pj_aload_n C dd_Whole_copyFrom_39 rfl hl 0 rfl ?_
  refine pj_getR C P 1 (LC1 hB) rfl fl_Whole_28 dd_Whole_copyFrom_40 ?_
  refine pj_aload_n C dd_Whole_copyFrom_43 rfl hl 1 rfl ?_
  refine pj_getR C P 2 (LC2 hB) rfl fl_Whole_28 dd_Whole_copyFrom_44 ?_
  obtain ⟨r9, z8, e7, h⟩ := pj_cE h
  refine pj_cVv (st := []) [.ref (B.2.1 14)] C P 10 (LC10 hB) rfl (ct_Book_copyFrom hB e7) cl_Whole_72 rfl (by decide) (by decide) hl.1 (Nat.le_of_ble_eq_true rfl) dd_Whole_copyFrom_47 (fun H lo P => ?_)
  refine pj_aload_n C dd_Whole_copyFrom_50 rfl hl 0 rfl ?_
  refine pj_getR C P 1 (LC1 hB) rfl fl_Whole_35 dd_Whole_copyFrom_51 ?_
  refine pj_aload_n C dd_Whole_copyFrom_54 rfl hl 1 rfl ?_
  refine pj_getR C P 2 (LC2 hB) rfl fl_Whole_35 dd_Whole_copyFrom_55 ?_
  obtain ⟨r12, z11, e10, h⟩ := pj_cE h
  refine pj_cVv (st := []) [.ref (B.2.1 15)] C P 11 (LC11 hB) rfl (ct_Wool_copyFrom hB e10) cl_Whole_75 rfl (by decide) (by decide) hl.1 (Nat.le_of_ble_eq_true rfl) dd_Whole_copyFrom_58 (fun H lo P => ?_)
  refine pj_aload_n C dd_Whole_copyFrom_61 rfl hl 0 rfl ?_
  refine pj_aload_n C dd_Whole_copyFrom_62 rfl hl 1 rfl ?_
  refine pj_getI C P 2 (LC2 hB) rfl fl_Whole_51 dd_Whole_copyFrom_63 ?_
  refine pj_putI C P 1 (LC1 hB) rfl fl_Whole_51 rfl fy_8_4 h dd_Whole_copyFrom_66 (fun H lo z13 h P => ?_)
  refine pj_aload_n C dd_Whole_copyFrom_69 rfl hl 0 rfl ?_
  refine pj_aload_n C dd_Whole_copyFrom_70 rfl hl 1 rfl ?_
  refine pj_getI C P 2 (LC2 hB) rfl fl_Whole_78 dd_Whole_copyFrom_71 ?_
  refine pj_putI C P 1 (LC1 hB) rfl fl_Whole_78 rfl fy_8_5 h dd_Whole_copyFrom_74 (fun H lo z14 h P => ?_)
  exact pj_vret C Q P h dd_Whole_copyFrom_77
set_option maxHeartbeats 4000000 in
set_option maxRecDepth 100000 in
theorem ct_Fabric_copyFrom_12_8 {l : Launch} {B : pj_B} (hB : B.2.2.2.1 = pj_LC)  {z : pj_S} {r0 : Unit} {z0 : pj_S} (h : Fabric_copyFrom_12_8 z = some (r0, z0)) : pj_Mv l yX1_copyFrom cX1_copyFrom 2 none 1 [.ref (B.2.1 12), .ref (B.2.1 8)] B z r0 z0 := by
  refine pj_metv (own := RX1) (by decide +kernel) rfl (Nat.le_of_ble_eq_true rfl) ?_
  intro A K hK C Q H lo ls P hl
  have hl : lv_has ls 2 [(0, .ref (B.2.1 12)), (1, .ref (B.2.1 8))] := hl
  unfold Fabric_copyFrom_12_8 at h
  refine pj_aload_n C dd_Fabric_copyFrom_0 rfl hl 0 rfl ?_
  refine pj_aload_n C dd_Fabric_copyFrom_1 rfl hl 1 rfl ?_
  refine pj_getI C P 8 (LC8 hB) rfl fl_Fabric_9 dd_Fabric_copyFrom_2 ?_
  refine pj_putI C P 12 (LC12 hB) rfl fl_Fabric_9 rfl fy_1_0 h dd_Fabric_copyFrom_5 (fun H lo z1 h P => ?_)
  refine pj_aload_n C dd_Fabric_copyFrom_8 rfl hl 0 rfl ?_
  refine pj_aload_n C dd_Fabric_copyFrom_9 rfl hl 1 rfl ?_
  refine pj_getI C P 8 (LC8 hB) rfl fl_Fabric_15 dd_Fabric_copyFrom_10 ?_
  refine pj_putI C P 12 (LC12 hB) rfl fl_Fabric_15 rfl fy_1_1 h dd_Fabric_copyFrom_13 (fun H lo z2 h P => ?_)
  refine pj_aload_n C dd_Fabric_copyFrom_16 rfl hl 0 rfl ?_
  refine pj_aload_n C dd_Fabric_copyFrom_17 rfl hl 1 rfl ?_
  refine pj_getI C P 8 (LC8 hB) rfl fl_Fabric_18 dd_Fabric_copyFrom_18 ?_
  refine pj_putZ C P 12 (LC12 hB) rfl fl_Fabric_18 rfl fy_1_2 h dd_Fabric_copyFrom_21 (fun H lo z3 h P => ?_)
  refine pj_aload_n C dd_Fabric_copyFrom_24 rfl hl 0 rfl ?_
  refine pj_aload_n C dd_Fabric_copyFrom_25 rfl hl 1 rfl ?_
  refine pj_getJ C P 8 (LC8 hB) rfl fl_Fabric_26 dd_Fabric_copyFrom_26 ?_
  refine pj_putJ C P 12 (LC12 hB) rfl fl_Fabric_26 rfl fy_1_3 h dd_Fabric_copyFrom_29 (fun H lo z4 h P => ?_)
  refine pj_aload_n C dd_Fabric_copyFrom_32 rfl hl 0 rfl ?_
  refine pj_aload_n C dd_Fabric_copyFrom_33 rfl hl 1 rfl ?_
  refine pj_getJ C P 8 (LC8 hB) rfl fl_Fabric_30 dd_Fabric_copyFrom_34 ?_
  refine pj_putJ C P 12 (LC12 hB) rfl fl_Fabric_30 rfl fy_1_4 h dd_Fabric_copyFrom_37 (fun H lo z5 h P => ?_)
  refine pj_aload_n C dd_Fabric_copyFrom_40 rfl hl 0 rfl ?_
  refine pj_aload_n C dd_Fabric_copyFrom_41 rfl hl 1 rfl ?_
  refine pj_getJ C P 8 (LC8 hB) rfl fl_Fabric_33 dd_Fabric_copyFrom_42 ?_
  refine pj_putJ C P 12 (LC12 hB) rfl fl_Fabric_33 rfl fy_1_5 h dd_Fabric_copyFrom_45 (fun H lo z6 h P => ?_)
  refine pj_aload_n C dd_Fabric_copyFrom_48 rfl hl 0 rfl ?_
  refine pj_aload_n C dd_Fabric_copyFrom_49 rfl hl 1 rfl ?_
  refine pj_getJ C P 8 (LC8 hB) rfl fl_Fabric_36 dd_Fabric_copyFrom_50 ?_
  refine pj_putJ C P 12 (LC12 hB) rfl fl_Fabric_36 rfl fy_1_6 h dd_Fabric_copyFrom_53 (fun H lo z7 h P => ?_)
  refine pj_aload_n C dd_Fabric_copyFrom_56 rfl hl 0 rfl ?_
  refine pj_aload_n C dd_Fabric_copyFrom_57 rfl hl 1 rfl ?_
  refine pj_getJ C P 8 (LC8 hB) rfl fl_Fabric_39 dd_Fabric_copyFrom_58 ?_
  refine pj_putJ C P 12 (LC12 hB) rfl fl_Fabric_39 rfl fy_1_7 h dd_Fabric_copyFrom_61 (fun H lo z8 h P => ?_)
  refine pj_aload_n C dd_Fabric_copyFrom_64 rfl hl 0 rfl ?_
  refine pj_aload_n C dd_Fabric_copyFrom_65 rfl hl 1 rfl ?_
  refine pj_getJ C P 8 (LC8 hB) rfl fl_Fabric_42 dd_Fabric_copyFrom_66 ?_
  refine pj_putJ C P 12 (LC12 hB) rfl fl_Fabric_42 rfl fy_1_8 h dd_Fabric_copyFrom_69 (fun H lo z9 h P => ?_)
  refine pj_aload_n C dd_Fabric_copyFrom_72 rfl hl 0 rfl ?_
  refine pj_aload_n C dd_Fabric_copyFrom_73 rfl hl 1 rfl ?_
  refine pj_getJ C P 8 (LC8 hB) rfl fl_Fabric_45 dd_Fabric_copyFrom_74 ?_
  refine pj_putJ C P 12 (LC12 hB) rfl fl_Fabric_45 rfl fy_1_9 h dd_Fabric_copyFrom_77 (fun H lo z10 h P => ?_)
  exact pj_vret C Q P h dd_Fabric_copyFrom_80
set_option maxHeartbeats 4000000 in
set_option maxRecDepth 100000 in
theorem ct_Law_take_13_29 {l : Launch} {B : pj_B} (hB : B.2.2.2.1 = pj_LC) {v2 : Int32} {v3 : Int32} {z : pj_S} {r0 : Unit} {z0 : pj_S} (h : Law_take_13_29 v2 v3 z = some (r0, z0)) : pj_Mv l yX2_take cX2_take 4 none 1 [.ref (B.2.1 13), .ref (B.2.1 29), .int v2, .int v3] B z r0 z0 := by
  refine pj_metv (own := RX2) (by decide +kernel) rfl (Nat.le_of_ble_eq_true rfl) ?_
  intro A K hK C Q H lo ls P hl
  have hl : lv_has ls 4 [(0, .ref (B.2.1 13)), (1, .ref (B.2.1 29)), (2, .int v2), (3, .int v3)] := hl
  unfold Law_take_13_29 at h
  refine pj_aload_n C dd_Law_take_0 rfl hl 0 rfl ?_
  refine pj_iconst (v := (nI 0)) C dd_Law_take_1 rfl ?_
  refine pj_iload_n C dd_Law_take_2 rfl hl 2 rfl ?_
  refine pj_aload_n C dd_Law_take_3 rfl hl 0 rfl ?_
  refine pj_getR C P 13 (LC13 hB) rfl fl_Law_9 dd_Law_take_4 ?_
  refine pj_alen (nI 400) C P 35 (LC35 hB) (by decide) (by decide) dd_Law_take_7 ?_
  refine pj_aload_n C dd_Law_take_8 rfl hl 1 rfl ?_
  refine pj_alen (nI 400) C P 29 (LC29 hB) (by decide) (by decide) dd_Law_take_9 ?_
  refine pj_mmin C cl_Law_25 (by decide) hl.1 (Nat.le_of_ble_eq_true rfl) dd_Law_take_10 ?_
  refine pj_mmin C cl_Law_25 (by decide) hl.1 (Nat.le_of_ble_eq_true rfl) dd_Law_take_13 ?_
  refine pj_mmax C cl_Law_31 (by decide) hl.1 (Nat.le_of_ble_eq_true rfl) dd_Law_take_16 ?_
  refine pj_putI C P 13 (LC13 hB) rfl fl_Law_18 rfl fy_2_2 h dd_Law_take_19 (fun H lo z1 h P => ?_)
  refine pj_aload_n C dd_Law_take_22 rfl hl 1 rfl ?_
  refine pj_iconst (v := (nI 0)) C dd_Law_take_23 rfl ?_
  refine pj_aload_n C dd_Law_take_24 rfl hl 0 rfl ?_
  refine pj_getR C P 13 (LC13 hB) rfl fl_Law_9 dd_Law_take_25 ?_
  refine pj_iconst (v := (nI 0)) C dd_Law_take_28 rfl ?_
  refine pj_aload_n C dd_Law_take_29 rfl hl 0 rfl ?_
  refine pj_getI C P 13 (LC13 hB) rfl fl_Law_18 dd_Law_take_30 ?_
  refine pj_copy C P 29 35 (LC29 hB) (LC35 hB) h cl_Law_34 (by decide) hl.1 (Nat.le_of_ble_eq_true rfl) dd_Law_take_33 (fun H lo z2 h P => ?_)
  refine pj_aload_n C dd_Law_take_36 rfl hl 0 rfl ?_
  refine pj_iload_n C dd_Law_take_37 rfl hl 3 rfl ?_
  refine pj_putI C P 13 (LC13 hB) rfl fl_Law_22 rfl fy_2_3 h dd_Law_take_38 (fun H lo z3 h P => ?_)
  exact pj_vret C Q P h dd_Law_take_41
set_option maxHeartbeats 4000000 in
set_option maxRecDepth 100000 in
theorem ct_Book_copyFrom_14_10 {l : Launch} {B : pj_B} (hB : B.2.2.2.1 = pj_LC)  {z : pj_S} {r0 : Unit} {z0 : pj_S} (h : Book_copyFrom_14_10 z = some (r0, z0)) : pj_Mv l yX0_copyFrom cX0_copyFrom 2 none 1 [.ref (B.2.1 14), .ref (B.2.1 10)] B z r0 z0 := by
  refine pj_metv (own := RX0) (by decide +kernel) rfl (Nat.le_of_ble_eq_true rfl) ?_
  intro A K hK C Q H lo ls P hl
  have hl : lv_has ls 2 [(0, .ref (B.2.1 14)), (1, .ref (B.2.1 10))] := hl
  unfold Book_copyFrom_14_10 at h
  refine pj_aload_n C dd_Book_copyFrom_0 rfl hl 1 rfl ?_
  refine pj_getR C P 10 (LC10 hB) rfl fl_Book_9 dd_Book_copyFrom_1 ?_
  refine pj_iconst (v := (nI 0)) C dd_Book_copyFrom_4 rfl ?_
  refine pj_aload_n C dd_Book_copyFrom_5 rfl hl 0 rfl ?_
  refine pj_getR C P 14 (LC14 hB) rfl fl_Book_9 dd_Book_copyFrom_6 ?_
  refine pj_iconst (v := (nI 0)) C dd_Book_copyFrom_9 rfl ?_
  refine pj_bipush (v := (nI 100)) C dd_Book_copyFrom_10 rfl ?_
  refine pj_copy C P 31 37 (LC31 hB) (LC37 hB) h cl_Book_21 (by decide) hl.1 (Nat.le_of_ble_eq_true rfl) dd_Book_copyFrom_12 (fun H lo z1 h P => ?_)
  refine pj_aload_n C dd_Book_copyFrom_15 rfl hl 1 rfl ?_
  refine pj_getR C P 10 (LC10 hB) rfl fl_Book_15 dd_Book_copyFrom_16 ?_
  refine pj_iconst (v := (nI 0)) C dd_Book_copyFrom_19 rfl ?_
  refine pj_aload_n C dd_Book_copyFrom_20 rfl hl 0 rfl ?_
  refine pj_getR C P 14 (LC14 hB) rfl fl_Book_15 dd_Book_copyFrom_21 ?_
  refine pj_iconst (v := (nI 0)) C dd_Book_copyFrom_24 rfl ?_
  refine pj_bipush (v := (nI 100)) C dd_Book_copyFrom_25 rfl ?_
  refine pj_copy C P 32 38 (LC32 hB) (LC38 hB) h cl_Book_21 (by decide) hl.1 (Nat.le_of_ble_eq_true rfl) dd_Book_copyFrom_27 (fun H lo z2 h P => ?_)
  refine pj_aload_n C dd_Book_copyFrom_30 rfl hl 1 rfl ?_
  refine pj_getR C P 10 (LC10 hB) rfl fl_Book_18 dd_Book_copyFrom_31 ?_
  refine pj_iconst (v := (nI 0)) C dd_Book_copyFrom_34 rfl ?_
  refine pj_aload_n C dd_Book_copyFrom_35 rfl hl 0 rfl ?_
  refine pj_getR C P 14 (LC14 hB) rfl fl_Book_18 dd_Book_copyFrom_36 ?_
  refine pj_iconst (v := (nI 0)) C dd_Book_copyFrom_39 rfl ?_
  refine pj_bipush (v := (nI 100)) C dd_Book_copyFrom_40 rfl ?_
  refine pj_copy C P 33 39 (LC33 hB) (LC39 hB) h cl_Book_21 (by decide) hl.1 (Nat.le_of_ble_eq_true rfl) dd_Book_copyFrom_42 (fun H lo z3 h P => ?_)
  refine pj_aload_n C dd_Book_copyFrom_45 rfl hl 0 rfl ?_
  refine pj_aload_n C dd_Book_copyFrom_46 rfl hl 1 rfl ?_
  refine pj_getI C P 10 (LC10 hB) rfl fl_Book_27 dd_Book_copyFrom_47 ?_
  refine pj_putI C P 14 (LC14 hB) rfl fl_Book_27 rfl fy_0_3 h dd_Book_copyFrom_50 (fun H lo z4 h P => ?_)
  exact pj_vret C Q P h dd_Book_copyFrom_53
set_option maxHeartbeats 4000000 in
set_option maxRecDepth 100000 in
theorem ct_Wool_copyFrom_15_11 {l : Launch} {B : pj_B} (hB : B.2.2.2.1 = pj_LC)  {z : pj_S} {r0 : Unit} {z0 : pj_S} (h : Wool_copyFrom_15_11 z = some (r0, z0)) : pj_Mv l yX9_copyFrom cX9_copyFrom 2 none 1 [.ref (B.2.1 15), .ref (B.2.1 11)] B z r0 z0 := by
  refine pj_metv (own := RX9) (by decide +kernel) rfl (Nat.le_of_ble_eq_true rfl) ?_
  intro A K hK C Q H lo ls P hl
  have hl : lv_has ls 2 [(0, .ref (B.2.1 15)), (1, .ref (B.2.1 11))] := hl
  unfold Wool_copyFrom_15_11 at h
  refine pj_aload_n C dd_Wool_copyFrom_0 rfl hl 1 rfl ?_
  refine pj_getR C P 11 (LC11 hB) rfl fl_Wool_9 dd_Wool_copyFrom_1 ?_
  refine pj_iconst (v := (nI 0)) C dd_Wool_copyFrom_4 rfl ?_
  refine pj_aload_n C dd_Wool_copyFrom_5 rfl hl 0 rfl ?_
  refine pj_getR C P 15 (LC15 hB) rfl fl_Wool_9 dd_Wool_copyFrom_6 ?_
  refine pj_iconst (v := (nI 0)) C dd_Wool_copyFrom_9 rfl ?_
  refine pj_bipush (v := (nI 20)) C dd_Wool_copyFrom_10 rfl ?_
  refine pj_copy C P 34 40 (LC34 hB) (LC40 hB) h cl_Wool_15 (by decide) hl.1 (Nat.le_of_ble_eq_true rfl) dd_Wool_copyFrom_12 (fun H lo z1 h P => ?_)
  refine pj_aload_n C dd_Wool_copyFrom_15 rfl hl 0 rfl ?_
  refine pj_aload_n C dd_Wool_copyFrom_16 rfl hl 1 rfl ?_
  refine pj_getI C P 11 (LC11 hB) rfl fl_Wool_21 dd_Wool_copyFrom_17 ?_
  refine pj_putI C P 15 (LC15 hB) rfl fl_Wool_21 rfl fy_9_1 h dd_Wool_copyFrom_20 (fun H lo z2 h P => ?_)
  exact pj_vret C Q P h dd_Wool_copyFrom_23
set_option maxHeartbeats 4000000 in
set_option maxRecDepth 100000 in
theorem ct_Whole_copyFrom_2_1 {l : Launch} {B : pj_B} (hB : B.2.2.2.1 = pj_LC)  {z : pj_S} {r0 : Unit} {z0 : pj_S} (h : Whole_copyFrom_2_1 z = some (r0, z0)) : pj_Mv l yX8_copyFrom cX8_copyFrom 2 none 2 [.ref (B.2.1 2), .ref (B.2.1 1)] B z r0 z0 := by
  refine pj_metv (own := RX8) (by decide +kernel) rfl (Nat.le_of_ble_eq_true rfl) ?_
  intro A K hK C Q H lo ls P hl
  have hl : lv_has ls 2 [(0, .ref (B.2.1 2)), (1, .ref (B.2.1 1))] := hl
  unfold Whole_copyFrom_2_1 at h
  refine pj_aload_n C dd_Whole_copyFrom_0 rfl hl 0 rfl ?_
  refine pj_getR C P 2 (LC2 hB) rfl fl_Whole_12 dd_Whole_copyFrom_1 ?_
  refine pj_aload_n C dd_Whole_copyFrom_4 rfl hl 1 rfl ?_
  refine pj_getR C P 1 (LC1 hB) rfl fl_Whole_12 dd_Whole_copyFrom_5 ?_
  obtain ⟨r3, z2, e1, h⟩ := pj_cE h
  refine pj_cVv (st := []) [.ref (B.2.1 8)] C P 12 (LC12 hB) rfl (ct_Fabric_copyFrom_12_8 hB e1) cl_Whole_54 rfl (by decide) (by decide) hl.1 (Nat.le_of_ble_eq_true rfl) dd_Whole_copyFrom_8 (fun H lo P => ?_)
  refine pj_aload_n C dd_Whole_copyFrom_11 rfl hl 0 rfl ?_
  refine pj_getR C P 2 (LC2 hB) rfl fl_Whole_21 dd_Whole_copyFrom_12 ?_
  refine pj_aload_n C dd_Whole_copyFrom_15 rfl hl 1 rfl ?_
  refine pj_getR C P 1 (LC1 hB) rfl fl_Whole_21 dd_Whole_copyFrom_16 ?_
  refine pj_getR C P 9 (LC9 hB) rfl fl_Whole_58 dd_Whole_copyFrom_19 ?_
  refine pj_aload_n C dd_Whole_copyFrom_22 rfl hl 1 rfl ?_
  refine pj_getR C P 1 (LC1 hB) rfl fl_Whole_21 dd_Whole_copyFrom_23 ?_
  refine pj_getI C P 9 (LC9 hB) rfl fl_Whole_62 dd_Whole_copyFrom_26 ?_
  refine pj_aload_n C dd_Whole_copyFrom_29 rfl hl 1 rfl ?_
  refine pj_getR C P 1 (LC1 hB) rfl fl_Whole_21 dd_Whole_copyFrom_30 ?_
  refine pj_getI C P 9 (LC9 hB) rfl fl_Whole_65 dd_Whole_copyFrom_33 ?_
  obtain ⟨r6, z5, e4, h⟩ := pj_cE h
  refine pj_cVv (st := []) [.ref (B.2.1 29), .int (z2.1 9 2), .int (z2.1 9 3)] C P 13 (LC13 hB) rfl (ct_Law_take_13_29 hB e4) cl_Whole_68 rfl (by decide) (by decide) hl.1 (Nat.le_of_ble_eq_true rfl) dd_Whole_copyFrom_36 (fun H lo P => ?_)
  refine pj_aload_n C dd_Whole_copyFrom_39 rfl hl 0 rfl ?_
  refine pj_getR C P 2 (LC2 hB) rfl fl_Whole_28 dd_Whole_copyFrom_40 ?_
  refine pj_aload_n C dd_Whole_copyFrom_43 rfl hl 1 rfl ?_
  refine pj_getR C P 1 (LC1 hB) rfl fl_Whole_28 dd_Whole_copyFrom_44 ?_
  obtain ⟨r9, z8, e7, h⟩ := pj_cE h
  refine pj_cVv (st := []) [.ref (B.2.1 10)] C P 14 (LC14 hB) rfl (ct_Book_copyFrom_14_10 hB e7) cl_Whole_72 rfl (by decide) (by decide) hl.1 (Nat.le_of_ble_eq_true rfl) dd_Whole_copyFrom_47 (fun H lo P => ?_)
  refine pj_aload_n C dd_Whole_copyFrom_50 rfl hl 0 rfl ?_
  refine pj_getR C P 2 (LC2 hB) rfl fl_Whole_35 dd_Whole_copyFrom_51 ?_
  refine pj_aload_n C dd_Whole_copyFrom_54 rfl hl 1 rfl ?_
  refine pj_getR C P 1 (LC1 hB) rfl fl_Whole_35 dd_Whole_copyFrom_55 ?_
  obtain ⟨r12, z11, e10, h⟩ := pj_cE h
  refine pj_cVv (st := []) [.ref (B.2.1 11)] C P 15 (LC15 hB) rfl (ct_Wool_copyFrom_15_11 hB e10) cl_Whole_75 rfl (by decide) (by decide) hl.1 (Nat.le_of_ble_eq_true rfl) dd_Whole_copyFrom_58 (fun H lo P => ?_)
  refine pj_aload_n C dd_Whole_copyFrom_61 rfl hl 0 rfl ?_
  refine pj_aload_n C dd_Whole_copyFrom_62 rfl hl 1 rfl ?_
  refine pj_getI C P 1 (LC1 hB) rfl fl_Whole_51 dd_Whole_copyFrom_63 ?_
  refine pj_putI C P 2 (LC2 hB) rfl fl_Whole_51 rfl fy_8_4 h dd_Whole_copyFrom_66 (fun H lo z13 h P => ?_)
  refine pj_aload_n C dd_Whole_copyFrom_69 rfl hl 0 rfl ?_
  refine pj_aload_n C dd_Whole_copyFrom_70 rfl hl 1 rfl ?_
  refine pj_getI C P 1 (LC1 hB) rfl fl_Whole_78 dd_Whole_copyFrom_71 ?_
  refine pj_putI C P 2 (LC2 hB) rfl fl_Whole_78 rfl fy_8_5 h dd_Whole_copyFrom_74 (fun H lo z14 h P => ?_)
  exact pj_vret C Q P h dd_Whole_copyFrom_77
theorem dd_PJ_image_0 : pj_d cX10_image 0 (.iload_n 1) 1 1 := ⟨by decide +kernel, rfl⟩
theorem dd_PJ_image_1 : pj_dj cX10_image 1 (.ifCond .eq 21) 21 4 22 := ⟨by decide +kernel, rfl, by decide⟩
theorem dd_PJ_image_4 : pj_d cX10_image 4 (.aload_n 0) 1 5 := ⟨by decide +kernel, rfl⟩
theorem dd_PJ_image_5 : pj_d cX10_image 5 (.getfield 16) 3 8 := ⟨by decide +kernel, rfl⟩
theorem dd_PJ_image_8 : pj_d cX10_image 8 (.aload_n 0) 1 9 := ⟨by decide +kernel, rfl⟩
theorem dd_PJ_image_9 : pj_d cX10_image 9 (.getfield 10) 3 12 := ⟨by decide +kernel, rfl⟩
theorem dd_PJ_image_12 : pj_d cX10_image 12 (.invokevirtual 263) 3 15 := ⟨by decide +kernel, rfl⟩
theorem dd_PJ_image_15 : pj_d cX10_image 15 (.aload_n 0) 1 16 := ⟨by decide +kernel, rfl⟩
theorem dd_PJ_image_16 : pj_d cX10_image 16 (.iconst 1) 1 17 := ⟨by decide +kernel, rfl⟩
theorem dd_PJ_image_17 : pj_d cX10_image 17 (.putfield 266) 3 20 := ⟨by decide +kernel, rfl⟩
theorem dd_PJ_image_20 : pj_d cX10_image 20 (.iconst 1) 1 21 := ⟨by decide +kernel, rfl⟩
theorem dd_PJ_image_21 : pj_d cX10_image 21 (.ireturn) 1 22 := ⟨by decide +kernel, rfl⟩
theorem dd_PJ_image_22 : pj_d cX10_image 22 (.aload_n 0) 1 23 := ⟨by decide +kernel, rfl⟩
theorem dd_PJ_image_23 : pj_d cX10_image 23 (.getfield 266) 3 26 := ⟨by decide +kernel, rfl⟩
theorem dd_PJ_image_26 : pj_dj cX10_image 26 (.ifCond .ne 5) 5 29 31 := ⟨by decide +kernel, rfl, by decide⟩
theorem dd_PJ_image_29 : pj_d cX10_image 29 (.iconst 0) 1 30 := ⟨by decide +kernel, rfl⟩
theorem dd_PJ_image_30 : pj_d cX10_image 30 (.ireturn) 1 31 := ⟨by decide +kernel, rfl⟩
theorem dd_PJ_image_31 : pj_d cX10_image 31 (.aload_n 0) 1 32 := ⟨by decide +kernel, rfl⟩
theorem dd_PJ_image_32 : pj_d cX10_image 32 (.getfield 10) 3 35 := ⟨by decide +kernel, rfl⟩
theorem dd_PJ_image_35 : pj_d cX10_image 35 (.aload_n 0) 1 36 := ⟨by decide +kernel, rfl⟩
theorem dd_PJ_image_36 : pj_d cX10_image 36 (.getfield 16) 3 39 := ⟨by decide +kernel, rfl⟩
theorem dd_PJ_image_39 : pj_d cX10_image 39 (.invokevirtual 263) 3 42 := ⟨by decide +kernel, rfl⟩
theorem dd_PJ_image_42 : pj_d cX10_image 42 (.aload_n 0) 1 43 := ⟨by decide +kernel, rfl⟩
theorem dd_PJ_image_43 : pj_d cX10_image 43 (.getfield 22) 3 46 := ⟨by decide +kernel, rfl⟩
theorem dd_PJ_image_46 : pj_d cX10_image 46 (.invokevirtual 62) 3 49 := ⟨by decide +kernel, rfl⟩
theorem dd_PJ_image_49 : pj_d cX10_image 49 (.iconst 1) 1 50 := ⟨by decide +kernel, rfl⟩
theorem dd_PJ_image_50 : pj_d cX10_image 50 (.ireturn) 1 51 := ⟨by decide +kernel, rfl⟩
set_option maxHeartbeats 4000000 in
set_option maxRecDepth 100000 in
theorem ct_PJ_image {l : Launch} {B : pj_B} (hB : B.2.2.2.1 = pj_LC) {v1 : Int32} {z : pj_S} {r0 : Int32} {z0 : pj_S} (h : PJ_image v1 z = some (r0, z0)) : pj_Mi l yX10_image cX10_image 2 (some .boolean) 3 [.ref (B.2.1 0), .int v1] B z r0 z0 := by
  refine pj_meti (own := RX10) (by decide +kernel) rfl (Nat.le_of_ble_eq_true rfl) ?_
  intro A K hK C Q H lo ls P hl
  have hl : lv_has ls 2 [(0, .ref (B.2.1 0)), (1, .int v1)] := hl
  unfold PJ_image at h
  refine pj_iload_n C dd_PJ_image_0 rfl hl 1 rfl ?_
  refine pj_if_eq C h dd_PJ_image_1 (fun h => ?_) (fun h => ?_)
  · refine pj_aload_n C dd_PJ_image_22 rfl hl 0 rfl ?_
    refine pj_getI C P 0 (LC0 hB) rfl fl_PJ_266 dd_PJ_image_23 ?_
    refine pj_if_ne C h dd_PJ_image_26 (fun h => ?_) (fun h => ?_)
    · refine pj_aload_n C dd_PJ_image_31 rfl hl 0 rfl ?_
      refine pj_getR C P 0 (LC0 hB) rfl fl_PJ_10 dd_PJ_image_32 ?_
      refine pj_aload_n C dd_PJ_image_35 rfl hl 0 rfl ?_
      refine pj_getR C P 0 (LC0 hB) rfl fl_PJ_16 dd_PJ_image_36 ?_
      obtain ⟨r3, z2, e1, h⟩ := pj_cE h
      refine pj_cVv (st := []) [.ref (B.2.1 2)] C P 1 (LC1 hB) rfl (ct_Whole_copyFrom hB e1) cl_PJ_263 rfl (by decide) (by decide) hl.1 (Nat.le_of_ble_eq_true rfl) dd_PJ_image_39 (fun H lo P => ?_)
      refine pj_aload_n C dd_PJ_image_42 rfl hl 0 rfl ?_
      refine pj_getR C P 0 (LC0 hB) rfl fl_PJ_22 dd_PJ_image_43 ?_
      obtain ⟨r6, z5, e4, h⟩ := pj_cE h
      refine pj_cVv (st := []) [] C P 3 (LC3 hB) rfl (ct_Past_forget hB e4) cl_PJ_62 rfl (by decide) (by decide) hl.1 (Nat.le_of_ble_eq_true rfl) dd_PJ_image_46 (fun H lo P => ?_)
      refine pj_iconst (v := (nI 1)) C dd_PJ_image_49 rfl ?_
      exact pj_zret C Q P h dd_PJ_image_50
    · refine pj_iconst (v := (nI 0)) C dd_PJ_image_29 rfl ?_
      exact pj_zret C Q P h dd_PJ_image_30
  · refine pj_aload_n C dd_PJ_image_4 rfl hl 0 rfl ?_
    refine pj_getR C P 0 (LC0 hB) rfl fl_PJ_16 dd_PJ_image_5 ?_
    refine pj_aload_n C dd_PJ_image_8 rfl hl 0 rfl ?_
    refine pj_getR C P 0 (LC0 hB) rfl fl_PJ_10 dd_PJ_image_9 ?_
    obtain ⟨r9, z8, e7, h⟩ := pj_cE h
    refine pj_cVv (st := []) [.ref (B.2.1 1)] C P 2 (LC2 hB) rfl (ct_Whole_copyFrom_2_1 hB e7) cl_PJ_263 rfl (by decide) (by decide) hl.1 (Nat.le_of_ble_eq_true rfl) dd_PJ_image_12 (fun H lo P => ?_)
    refine pj_aload_n C dd_PJ_image_15 rfl hl 0 rfl ?_
    refine pj_iconst (v := (nI 1)) C dd_PJ_image_16 rfl ?_
    refine pj_putZ C P 0 (LC0 hB) rfl fl_PJ_266 rfl fy_10_7 h dd_PJ_image_17 (fun H lo z10 h P => ?_)
    refine pj_iconst (v := (nI 1)) C dd_PJ_image_20 rfl ?_
    exact pj_zret C Q P h dd_PJ_image_21
theorem dd_Wool_total_0 : pj_d cX9_total 0 (.iconst 0) 1 1 := ⟨by decide +kernel, rfl⟩
theorem dd_Wool_total_1 : pj_d cX9_total 1 (.istore_n 1) 1 2 := ⟨by decide +kernel, rfl⟩
theorem dd_Wool_total_2 : pj_d cX9_total 2 (.iconst 0) 1 3 := ⟨by decide +kernel, rfl⟩
theorem dd_Wool_total_3 : pj_d cX9_total 3 (.istore_n 2) 1 4 := ⟨by decide +kernel, rfl⟩
theorem dd_Wool_total_4 : pj_d cX9_total 4 (.iload_n 2) 1 5 := ⟨by decide +kernel, rfl⟩
theorem dd_Wool_total_5 : pj_d cX9_total 5 (.aload_n 0) 1 6 := ⟨by decide +kernel, rfl⟩
theorem dd_Wool_total_6 : pj_d cX9_total 6 (.getfield 21) 3 9 := ⟨by decide +kernel, rfl⟩
theorem dd_Wool_total_9 : pj_dj cX9_total 9 (.if_icmp .ge 17) 17 12 26 := ⟨by decide +kernel, rfl, by decide⟩
theorem dd_Wool_total_12 : pj_d cX9_total 12 (.iload_n 1) 1 13 := ⟨by decide +kernel, rfl⟩
theorem dd_Wool_total_13 : pj_d cX9_total 13 (.aload_n 0) 1 14 := ⟨by decide +kernel, rfl⟩
theorem dd_Wool_total_14 : pj_d cX9_total 14 (.iload_n 2) 1 15 := ⟨by decide +kernel, rfl⟩
theorem dd_Wool_total_15 : pj_d cX9_total 15 (.invokevirtual 25) 3 18 := ⟨by decide +kernel, rfl⟩
theorem dd_Wool_total_18 : pj_d cX9_total 18 (.iadd) 1 19 := ⟨by decide +kernel, rfl⟩
theorem dd_Wool_total_19 : pj_d cX9_total 19 (.istore_n 1) 1 20 := ⟨by decide +kernel, rfl⟩
theorem dd_Wool_total_20 : pj_d cX9_total 20 (.iinc 2 1) 3 23 := ⟨by decide +kernel, rfl⟩
theorem dd_Wool_total_23 : pj_dj cX9_total 23 (.goto (-19)) (-19) 26 4 := ⟨by decide +kernel, rfl, by decide⟩
theorem dd_Wool_total_26 : pj_d cX9_total 26 (.iload_n 1) 1 27 := ⟨by decide +kernel, rfl⟩
theorem dd_Wool_total_27 : pj_d cX9_total 27 (.ireturn) 1 28 := ⟨by decide +kernel, rfl⟩
set_option maxHeartbeats 4000000 in
set_option maxRecDepth 100000 in
theorem bt_Wool_total_4 {B : pj_B} {A : Nat → Prop} {K : pj_K} {r0 : Int32} {z0 : pj_S} (hB : B.2.2.2.1 = pj_LC) (C : pj_C B A K cX9_total 3 RX9 2) (Q : pj_Qi B A K (some .int) r0 z0) (s4 : Int32 → Int32 → pj_S → Option (Int32 × pj_S)) (k4 : ∀ (v1 : Int32) (v2 : Int32) (z : pj_S) (H : Heap) (lo : List Loc) (ls : Array Slot), s4 v1 v2 z = some (r0, z0) → pj_P B A K z H lo → lv_has ls 3 [(0, .ref (B.2.1 11)), (1, .int v1), (2, .int v2)] → pj_W K H lo 4 ls []) (v1 : Int32) (v2 : Int32) (z : pj_S) (H : Heap) (lo : List Loc) (ls : Array Slot) (h : Wool_total_4 s4 v1 v2 z = some (r0, z0)) (P : pj_P B A K z H lo) (hl : lv_has ls 3 [(0, .ref (B.2.1 11)), (1, .int v1), (2, .int v2)]) : pj_W K H lo 4 ls [] := by
  unfold Wool_total_4 at h
  refine pj_iload_n C dd_Wool_total_4 rfl hl 2 rfl ?_
  refine pj_aload_n C dd_Wool_total_5 rfl hl 0 rfl ?_
  refine pj_getI C P 11 (LC11 hB) rfl fl_Wool_21 dd_Wool_total_6 ?_
  refine pj_ic_ge C h dd_Wool_total_9 (fun h => ?_) (fun h => ?_)
  · refine pj_iload_n C dd_Wool_total_26 rfl hl 1 rfl ?_
    exact pj_iret C Q P h dd_Wool_total_27
  · refine pj_iload_n C dd_Wool_total_12 rfl hl 1 rfl ?_
    refine pj_aload_n C dd_Wool_total_13 rfl hl 0 rfl ?_
    refine pj_iload_n C dd_Wool_total_14 rfl hl 2 rfl ?_
    obtain ⟨r3, z2, e1, h⟩ := pj_cE h
    refine pj_cVi (st := [.int v1]) [.int v2] C P 11 (LC11 hB) rfl (ct_Wool_lengthOf hB e1) cl_Wool_25 rfl (by decide) (by decide) hl.1 (Nat.le_of_ble_eq_true rfl) dd_Wool_total_15 (fun H lo P => ?_)
    refine pj_iadd C dd_Wool_total_18 ?_
    refine pj_istb_n [(0, .ref (B.2.1 11)), (2, .int v2)] C h dd_Wool_total_19 rfl hl (by decide) rfl (fun x4 ls h hl => ?_)
    refine pj_iinc (v := (nI 1)) [(1, .int x4), (0, .ref (B.2.1 11))] C h rfl dd_Wool_total_20 hl 2 rfl (by decide) rfl (fun x5 ls h hl => ?_)
    refine pj_goto C dd_Wool_total_23 ?_
    exact k4 _ _ _ _ _ _ h P (lv_sub hl [2, 1, 0] rfl)
theorem lt_Wool_total_4 {B : pj_B} {A : Nat → Prop} {K : pj_K} {r0 : Int32} {z0 : pj_S} (hB : B.2.2.2.1 = pj_LC) (C : pj_C B A K cX9_total 3 RX9 2) (Q : pj_Qi B A K (some .int) r0 z0)  : ∀ (n : Nat) (v1 : Int32) (v2 : Int32) (z : pj_S) (H : Heap) (lo : List Loc) (ls : Array Slot), pj_lp2 Wool_total_4 n v1 v2 z = some (r0, z0) → pj_P B A K z H lo → lv_has ls 3 [(0, .ref (B.2.1 11)), (1, .int v1), (2, .int v2)] → pj_W K H lo 4 ls [] := by
  intro n
  induction n with
  | zero => intro v1 v2 z H lo ls h; rw [pj_lp2_0] at h; cases h
  | succ n ih =>
    intro v1 v2 z H lo ls h P hl
    rw [pj_lp2_s] at h
    exact bt_Wool_total_4 hB C Q   (pj_lp2 Wool_total_4 n) ih v1 v2 z H lo ls h P hl
set_option maxHeartbeats 4000000 in
set_option maxRecDepth 100000 in
theorem ct_Wool_total {l : Launch} {B : pj_B} (hB : B.2.2.2.1 = pj_LC)  {z : pj_S} {r0 : Int32} {z0 : pj_S} (h : Wool_total z = some (r0, z0)) : pj_Mi l yX9_total cX9_total 3 (some .int) 2 [.ref (B.2.1 11)] B z r0 z0 := by
  refine pj_meti (own := RX9) (by decide +kernel) rfl (Nat.le_of_ble_eq_true rfl) ?_
  intro A K hK C Q H lo ls P hl
  have hl : lv_has ls 3 [(0, .ref (B.2.1 11))] := hl
  unfold Wool_total at h
  refine pj_iconst (v := (nI 0)) C dd_Wool_total_0 rfl ?_
  refine pj_istore_n [(1, .int (nI 0)), (0, .ref (B.2.1 11))] C dd_Wool_total_1 rfl hl (by decide) rfl (fun ls hl => ?_)
  refine pj_iconst (v := (nI 0)) C dd_Wool_total_2 rfl ?_
  refine pj_istore_n [(2, .int (nI 0)), (1, .int (nI 0)), (0, .ref (B.2.1 11))] C dd_Wool_total_3 rfl hl (by decide) rfl (fun ls hl => ?_)
  exact lt_Wool_total_4 hB C Q 4000 _ _ _ _ _ _ h P (lv_sub hl [2, 1, 0] rfl)
theorem dd_PJ_look_0 : pj_d cX10_look 0 (.iload_n 1) 1 1 := ⟨by decide +kernel, rfl⟩
theorem dd_PJ_look_1 : pj_d cX10_look 1 (.tableswitch 211 0 11 #[63, 74, 85, 104, 129, 140, 151, 159, 167, 181, 192, 200]) 63 64 := ⟨by decide +kernel, rfl⟩
theorem dd_PJ_look_64 : pj_d cX10_look 64 (.aload_n 0) 1 65 := ⟨by decide +kernel, rfl⟩
theorem dd_PJ_look_65 : pj_d cX10_look 65 (.getfield 10) 3 68 := ⟨by decide +kernel, rfl⟩
theorem dd_PJ_look_68 : pj_d cX10_look 68 (.getfield 65) 3 71 := ⟨by decide +kernel, rfl⟩
theorem dd_PJ_look_71 : pj_d cX10_look 71 (.getfield 237) 3 74 := ⟨by decide +kernel, rfl⟩
theorem dd_PJ_look_74 : pj_d cX10_look 74 (.ireturn) 1 75 := ⟨by decide +kernel, rfl⟩
theorem dd_PJ_look_75 : pj_d cX10_look 75 (.aload_n 0) 1 76 := ⟨by decide +kernel, rfl⟩
theorem dd_PJ_look_76 : pj_d cX10_look 76 (.getfield 10) 3 79 := ⟨by decide +kernel, rfl⟩
theorem dd_PJ_look_79 : pj_d cX10_look 79 (.getfield 65) 3 82 := ⟨by decide +kernel, rfl⟩
theorem dd_PJ_look_82 : pj_d cX10_look 82 (.getfield 240) 3 85 := ⟨by decide +kernel, rfl⟩
theorem dd_PJ_look_85 : pj_d cX10_look 85 (.ireturn) 1 86 := ⟨by decide +kernel, rfl⟩
theorem dd_PJ_look_86 : pj_d cX10_look 86 (.aload_n 0) 1 87 := ⟨by decide +kernel, rfl⟩
theorem dd_PJ_look_87 : pj_d cX10_look 87 (.getfield 10) 3 90 := ⟨by decide +kernel, rfl⟩
theorem dd_PJ_look_90 : pj_d cX10_look 90 (.getfield 65) 3 93 := ⟨by decide +kernel, rfl⟩
theorem dd_PJ_look_93 : pj_d cX10_look 93 (.getfield 270) 3 96 := ⟨by decide +kernel, rfl⟩
theorem dd_PJ_look_96 : pj_dj cX10_look 96 (.ifCond .eq 7) 7 99 103 := ⟨by decide +kernel, rfl, by decide⟩
theorem dd_PJ_look_99 : pj_d cX10_look 99 (.iconst 1) 1 100 := ⟨by decide +kernel, rfl⟩
theorem dd_PJ_look_100 : pj_dj cX10_look 100 (.goto 4) 4 103 104 := ⟨by decide +kernel, rfl, by decide⟩
theorem dd_PJ_look_103 : pj_d cX10_look 103 (.iconst 0) 1 104 := ⟨by decide +kernel, rfl⟩
theorem dd_PJ_look_104 : pj_d cX10_look 104 (.ireturn) 1 105 := ⟨by decide +kernel, rfl⟩
theorem dd_PJ_look_105 : pj_d cX10_look 105 (.aload_n 0) 1 106 := ⟨by decide +kernel, rfl⟩
theorem dd_PJ_look_106 : pj_d cX10_look 106 (.getfield 10) 3 109 := ⟨by decide +kernel, rfl⟩
theorem dd_PJ_look_109 : pj_d cX10_look 109 (.getfield 65) 3 112 := ⟨by decide +kernel, rfl⟩
theorem dd_PJ_look_112 : pj_d cX10_look 112 (.invokevirtual 183) 3 115 := ⟨by decide +kernel, rfl⟩
theorem dd_PJ_look_115 : pj_d cX10_look 115 (.aload_n 0) 1 116 := ⟨by decide +kernel, rfl⟩
theorem dd_PJ_look_116 : pj_d cX10_look 116 (.getfield 10) 3 119 := ⟨by decide +kernel, rfl⟩
theorem dd_PJ_look_119 : pj_d cX10_look 119 (.getfield 65) 3 122 := ⟨by decide +kernel, rfl⟩
theorem dd_PJ_look_122 : pj_d cX10_look 122 (.getfield 155) 3 125 := ⟨by decide +kernel, rfl⟩
theorem dd_PJ_look_125 : pj_d cX10_look 125 (.invokestatic 212) 3 128 := ⟨by decide +kernel, rfl⟩
theorem dd_PJ_look_128 : pj_d cX10_look 128 (.isub) 1 129 := ⟨by decide +kernel, rfl⟩
theorem dd_PJ_look_129 : pj_d cX10_look 129 (.ireturn) 1 130 := ⟨by decide +kernel, rfl⟩
theorem dd_PJ_look_130 : pj_d cX10_look 130 (.aload_n 0) 1 131 := ⟨by decide +kernel, rfl⟩
theorem dd_PJ_look_131 : pj_d cX10_look 131 (.getfield 10) 3 134 := ⟨by decide +kernel, rfl⟩
theorem dd_PJ_look_134 : pj_d cX10_look 134 (.getfield 189) 3 137 := ⟨by decide +kernel, rfl⟩
theorem dd_PJ_look_137 : pj_d cX10_look 137 (.getfield 273) 3 140 := ⟨by decide +kernel, rfl⟩
theorem dd_PJ_look_140 : pj_d cX10_look 140 (.ireturn) 1 141 := ⟨by decide +kernel, rfl⟩
theorem dd_PJ_look_141 : pj_d cX10_look 141 (.aload_n 0) 1 142 := ⟨by decide +kernel, rfl⟩
theorem dd_PJ_look_142 : pj_d cX10_look 142 (.getfield 10) 3 145 := ⟨by decide +kernel, rfl⟩
theorem dd_PJ_look_145 : pj_d cX10_look 145 (.getfield 198) 3 148 := ⟨by decide +kernel, rfl⟩
theorem dd_PJ_look_148 : pj_d cX10_look 148 (.getfield 274) 3 151 := ⟨by decide +kernel, rfl⟩
theorem dd_PJ_look_151 : pj_d cX10_look 151 (.ireturn) 1 152 := ⟨by decide +kernel, rfl⟩
theorem dd_PJ_look_152 : pj_d cX10_look 152 (.aload_n 0) 1 153 := ⟨by decide +kernel, rfl⟩
theorem dd_PJ_look_153 : pj_d cX10_look 153 (.getfield 10) 3 156 := ⟨by decide +kernel, rfl⟩
theorem dd_PJ_look_156 : pj_d cX10_look 156 (.getfield 111) 3 159 := ⟨by decide +kernel, rfl⟩
theorem dd_PJ_look_159 : pj_d cX10_look 159 (.ireturn) 1 160 := ⟨by decide +kernel, rfl⟩
theorem dd_PJ_look_160 : pj_d cX10_look 160 (.aload_n 0) 1 161 := ⟨by decide +kernel, rfl⟩
theorem dd_PJ_look_161 : pj_d cX10_look 161 (.getfield 10) 3 164 := ⟨by decide +kernel, rfl⟩
theorem dd_PJ_look_164 : pj_d cX10_look 164 (.getfield 58) 3 167 := ⟨by decide +kernel, rfl⟩
theorem dd_PJ_look_167 : pj_d cX10_look 167 (.ireturn) 1 168 := ⟨by decide +kernel, rfl⟩
theorem dd_PJ_look_168 : pj_d cX10_look 168 (.aload_n 0) 1 169 := ⟨by decide +kernel, rfl⟩
theorem dd_PJ_look_169 : pj_d cX10_look 169 (.getfield 10) 3 172 := ⟨by decide +kernel, rfl⟩
theorem dd_PJ_look_172 : pj_d cX10_look 172 (.getfield 65) 3 175 := ⟨by decide +kernel, rfl⟩
theorem dd_PJ_look_175 : pj_d cX10_look 175 (.getfield 92) 3 178 := ⟨by decide +kernel, rfl⟩
theorem dd_PJ_look_178 : pj_d cX10_look 178 (.invokestatic 212) 3 181 := ⟨by decide +kernel, rfl⟩
theorem dd_PJ_look_181 : pj_d cX10_look 181 (.ireturn) 1 182 := ⟨by decide +kernel, rfl⟩
theorem dd_PJ_look_182 : pj_d cX10_look 182 (.aload_n 0) 1 183 := ⟨by decide +kernel, rfl⟩
theorem dd_PJ_look_183 : pj_d cX10_look 183 (.getfield 10) 3 186 := ⟨by decide +kernel, rfl⟩
theorem dd_PJ_look_186 : pj_d cX10_look 186 (.getfield 129) 3 189 := ⟨by decide +kernel, rfl⟩
theorem dd_PJ_look_189 : pj_d cX10_look 189 (.getfield 137) 3 192 := ⟨by decide +kernel, rfl⟩
theorem dd_PJ_look_192 : pj_d cX10_look 192 (.ireturn) 1 193 := ⟨by decide +kernel, rfl⟩
theorem dd_PJ_look_193 : pj_d cX10_look 193 (.aload_n 0) 1 194 := ⟨by decide +kernel, rfl⟩
theorem dd_PJ_look_194 : pj_d cX10_look 194 (.getfield 22) 3 197 := ⟨by decide +kernel, rfl⟩
theorem dd_PJ_look_197 : pj_d cX10_look 197 (.getfield 275) 3 200 := ⟨by decide +kernel, rfl⟩
theorem dd_PJ_look_200 : pj_d cX10_look 200 (.ireturn) 1 201 := ⟨by decide +kernel, rfl⟩
theorem dd_PJ_look_201 : pj_d cX10_look 201 (.aload_n 0) 1 202 := ⟨by decide +kernel, rfl⟩
theorem dd_PJ_look_202 : pj_d cX10_look 202 (.getfield 10) 3 205 := ⟨by decide +kernel, rfl⟩
theorem dd_PJ_look_205 : pj_d cX10_look 205 (.getfield 189) 3 208 := ⟨by decide +kernel, rfl⟩
theorem dd_PJ_look_208 : pj_d cX10_look 208 (.invokevirtual 276) 3 211 := ⟨by decide +kernel, rfl⟩
theorem dd_PJ_look_211 : pj_d cX10_look 211 (.ireturn) 1 212 := ⟨by decide +kernel, rfl⟩
theorem dd_PJ_look_212 : pj_d cX10_look 212 (.iconst (-1)) 1 213 := ⟨by decide +kernel, rfl⟩
theorem dd_PJ_look_213 : pj_d cX10_look 213 (.ireturn) 1 214 := ⟨by decide +kernel, rfl⟩
set_option maxHeartbeats 4000000 in
set_option maxRecDepth 100000 in
theorem ct_PJ_look {l : Launch} {B : pj_B} (hB : B.2.2.2.1 = pj_LC) {v1 : Int32} {z : pj_S} {r0 : Int32} {z0 : pj_S} (h : PJ_look v1 z = some (r0, z0)) : pj_Mi l yX10_look cX10_look 2 (some .int) 3 [.ref (B.2.1 0), .int v1] B z r0 z0 := by
  refine pj_meti (own := RX10) (by decide +kernel) rfl (Nat.le_of_ble_eq_true rfl) ?_
  intro A K hK C Q H lo ls P hl
  have hl : lv_has ls 2 [(0, .ref (B.2.1 0)), (1, .int v1)] := hl
  unfold PJ_look at h
  refine pj_iload_n C dd_PJ_look_0 rfl hl 1 rfl ?_
  refine pj_sw h (fun c0 h => ?_) (fun c0 h => ?_)
  · refine pj_swI (nI 0) (63) 64 C dd_PJ_look_1 c0 (by decide) ?_
    refine pj_aload_n C dd_PJ_look_64 rfl hl 0 rfl ?_
    refine pj_getR C P 0 (LC0 hB) rfl fl_PJ_10 dd_PJ_look_65 ?_
    refine pj_getR C P 1 (LC1 hB) rfl fl_PJ_65 dd_PJ_look_68 ?_
    refine pj_getI C P 8 (LC8 hB) rfl fl_PJ_237 dd_PJ_look_71 ?_
    exact pj_iret C Q P h dd_PJ_look_74
  refine pj_sw h (fun c1 h => ?_) (fun c1 h => ?_)
  · refine pj_swI (nI 1) (74) 75 C dd_PJ_look_1 c1 (by decide) ?_
    refine pj_aload_n C dd_PJ_look_75 rfl hl 0 rfl ?_
    refine pj_getR C P 0 (LC0 hB) rfl fl_PJ_10 dd_PJ_look_76 ?_
    refine pj_getR C P 1 (LC1 hB) rfl fl_PJ_65 dd_PJ_look_79 ?_
    refine pj_getI C P 8 (LC8 hB) rfl fl_PJ_240 dd_PJ_look_82 ?_
    exact pj_iret C Q P h dd_PJ_look_85
  refine pj_sw h (fun c2 h => ?_) (fun c2 h => ?_)
  · refine pj_swI (nI 2) (85) 86 C dd_PJ_look_1 c2 (by decide) ?_
    refine pj_aload_n C dd_PJ_look_86 rfl hl 0 rfl ?_
    refine pj_getR C P 0 (LC0 hB) rfl fl_PJ_10 dd_PJ_look_87 ?_
    refine pj_getR C P 1 (LC1 hB) rfl fl_PJ_65 dd_PJ_look_90 ?_
    refine pj_getI C P 8 (LC8 hB) rfl fl_PJ_270 dd_PJ_look_93 ?_
    refine pj_if_eq C h dd_PJ_look_96 (fun h => ?_) (fun h => ?_)
    · refine pj_iconst (v := (nI 0)) C dd_PJ_look_103 rfl ?_
      exact pj_iret C Q P h dd_PJ_look_104
    · refine pj_iconst (v := (nI 1)) C dd_PJ_look_99 rfl ?_
      refine pj_goto C dd_PJ_look_100 ?_
      exact pj_iret C Q P h dd_PJ_look_104
  refine pj_sw h (fun c3 h => ?_) (fun c3 h => ?_)
  · refine pj_swI (nI 3) (104) 105 C dd_PJ_look_1 c3 (by decide) ?_
    refine pj_aload_n C dd_PJ_look_105 rfl hl 0 rfl ?_
    refine pj_getR C P 0 (LC0 hB) rfl fl_PJ_10 dd_PJ_look_106 ?_
    refine pj_getR C P 1 (LC1 hB) rfl fl_PJ_65 dd_PJ_look_109 ?_
    obtain ⟨r3, z2, e1, h⟩ := pj_cE h
    refine pj_cVi (st := []) [] C P 8 (LC8 hB) rfl (ct_Fabric_places hB e1) cl_PJ_183 rfl (by decide) (by decide) hl.1 (Nat.le_of_ble_eq_true rfl) dd_PJ_look_112 (fun H lo P => ?_)
    refine pj_aload_n C dd_PJ_look_115 rfl hl 0 rfl ?_
    refine pj_getR C P 0 (LC0 hB) rfl fl_PJ_10 dd_PJ_look_116 ?_
    refine pj_getR C P 1 (LC1 hB) rfl fl_PJ_65 dd_PJ_look_119 ?_
    refine pj_getJ C P 8 (LC8 hB) rfl fl_PJ_155 dd_PJ_look_122 ?_
    obtain ⟨r6, z5, e4, h⟩ := pj_cE h
    refine pj_cSi (st := [.int r3]) [.long (z2.2 8 6)] C P (ct_JLong_bitCount hB e4) cl_PJ_212 rfl (by decide) (by decide) hl.1 (Nat.le_of_ble_eq_true rfl) dd_PJ_look_125 (fun H lo P => ?_)
    refine pj_isub C dd_PJ_look_128 ?_
    exact pj_iret C Q P h dd_PJ_look_129
  refine pj_sw h (fun c4 h => ?_) (fun c4 h => ?_)
  · refine pj_swI (nI 4) (129) 130 C dd_PJ_look_1 c4 (by decide) ?_
    refine pj_aload_n C dd_PJ_look_130 rfl hl 0 rfl ?_
    refine pj_getR C P 0 (LC0 hB) rfl fl_PJ_10 dd_PJ_look_131 ?_
    refine pj_getR C P 1 (LC1 hB) rfl fl_PJ_189 dd_PJ_look_134 ?_
    refine pj_getI C P 11 (LC11 hB) rfl fl_PJ_273 dd_PJ_look_137 ?_
    exact pj_iret C Q P h dd_PJ_look_140
  refine pj_sw h (fun c5 h => ?_) (fun c5 h => ?_)
  · refine pj_swI (nI 5) (140) 141 C dd_PJ_look_1 c5 (by decide) ?_
    refine pj_aload_n C dd_PJ_look_141 rfl hl 0 rfl ?_
    refine pj_getR C P 0 (LC0 hB) rfl fl_PJ_10 dd_PJ_look_142 ?_
    refine pj_getR C P 1 (LC1 hB) rfl fl_PJ_198 dd_PJ_look_145 ?_
    refine pj_getI C P 10 (LC10 hB) rfl fl_PJ_274 dd_PJ_look_148 ?_
    exact pj_iret C Q P h dd_PJ_look_151
  refine pj_sw h (fun c6 h => ?_) (fun c6 h => ?_)
  · refine pj_swI (nI 6) (151) 152 C dd_PJ_look_1 c6 (by decide) ?_
    refine pj_aload_n C dd_PJ_look_152 rfl hl 0 rfl ?_
    refine pj_getR C P 0 (LC0 hB) rfl fl_PJ_10 dd_PJ_look_153 ?_
    refine pj_getI C P 1 (LC1 hB) rfl fl_PJ_111 dd_PJ_look_156 ?_
    exact pj_iret C Q P h dd_PJ_look_159
  refine pj_sw h (fun c7 h => ?_) (fun c7 h => ?_)
  · refine pj_swI (nI 7) (159) 160 C dd_PJ_look_1 c7 (by decide) ?_
    refine pj_aload_n C dd_PJ_look_160 rfl hl 0 rfl ?_
    refine pj_getR C P 0 (LC0 hB) rfl fl_PJ_10 dd_PJ_look_161 ?_
    refine pj_getI C P 1 (LC1 hB) rfl fl_PJ_58 dd_PJ_look_164 ?_
    exact pj_iret C Q P h dd_PJ_look_167
  refine pj_sw h (fun c8 h => ?_) (fun c8 h => ?_)
  · refine pj_swI (nI 8) (167) 168 C dd_PJ_look_1 c8 (by decide) ?_
    refine pj_aload_n C dd_PJ_look_168 rfl hl 0 rfl ?_
    refine pj_getR C P 0 (LC0 hB) rfl fl_PJ_10 dd_PJ_look_169 ?_
    refine pj_getR C P 1 (LC1 hB) rfl fl_PJ_65 dd_PJ_look_172 ?_
    refine pj_getJ C P 8 (LC8 hB) rfl fl_PJ_92 dd_PJ_look_175 ?_
    obtain ⟨r9, z8, e7, h⟩ := pj_cE h
    refine pj_cSi (st := []) [.long (z.2 8 9)] C P (ct_JLong_bitCount hB e7) cl_PJ_212 rfl (by decide) (by decide) hl.1 (Nat.le_of_ble_eq_true rfl) dd_PJ_look_178 (fun H lo P => ?_)
    exact pj_iret C Q P h dd_PJ_look_181
  refine pj_sw h (fun c9 h => ?_) (fun c9 h => ?_)
  · refine pj_swI (nI 9) (181) 182 C dd_PJ_look_1 c9 (by decide) ?_
    refine pj_aload_n C dd_PJ_look_182 rfl hl 0 rfl ?_
    refine pj_getR C P 0 (LC0 hB) rfl fl_PJ_10 dd_PJ_look_183 ?_
    refine pj_getR C P 1 (LC1 hB) rfl fl_PJ_129 dd_PJ_look_186 ?_
    refine pj_getI C P 9 (LC9 hB) rfl fl_PJ_137 dd_PJ_look_189 ?_
    exact pj_iret C Q P h dd_PJ_look_192
  refine pj_sw h (fun c10 h => ?_) (fun c10 h => ?_)
  · refine pj_swI (nI 10) (192) 193 C dd_PJ_look_1 c10 (by decide) ?_
    refine pj_aload_n C dd_PJ_look_193 rfl hl 0 rfl ?_
    refine pj_getR C P 0 (LC0 hB) rfl fl_PJ_22 dd_PJ_look_194 ?_
    refine pj_getI C P 3 (LC3 hB) rfl fl_PJ_275 dd_PJ_look_197 ?_
    exact pj_iret C Q P h dd_PJ_look_200
  refine pj_sw h (fun c11 h => ?_) (fun c11 h => ?_)
  · refine pj_swI (nI 11) (200) 201 C dd_PJ_look_1 c11 (by decide) ?_
    refine pj_aload_n C dd_PJ_look_201 rfl hl 0 rfl ?_
    refine pj_getR C P 0 (LC0 hB) rfl fl_PJ_10 dd_PJ_look_202 ?_
    refine pj_getR C P 1 (LC1 hB) rfl fl_PJ_189 dd_PJ_look_205 ?_
    obtain ⟨r12, z11, e10, h⟩ := pj_cE h
    refine pj_cVi (st := []) [] C P 11 (LC11 hB) rfl (ct_Wool_total hB e10) cl_PJ_276 rfl (by decide) (by decide) hl.1 (Nat.le_of_ble_eq_true rfl) dd_PJ_look_208 (fun H lo P => ?_)
    exact pj_iret C Q P h dd_PJ_look_211
  have u0 := pj_nI c0 (n := 0) (by decide)
  have u1 := pj_nI c1 (n := 1) (by decide)
  have u2 := pj_nI c2 (n := 2) (by decide)
  have u3 := pj_nI c3 (n := 3) (by decide)
  have u4 := pj_nI c4 (n := 4) (by decide)
  have u5 := pj_nI c5 (n := 5) (by decide)
  have u6 := pj_nI c6 (n := 6) (by decide)
  have u7 := pj_nI c7 (n := 7) (by decide)
  have u8 := pj_nI c8 (n := 8) (by decide)
  have u9 := pj_nI c9 (n := 9) (by decide)
  have u10 := pj_nI c10 (n := 10) (by decide)
  have u11 := pj_nI c11 (n := 11) (by decide)
  refine pj_swO 212 C dd_PJ_look_1 (by omega) (by decide) ?_
  refine pj_iconst (v := (-1 : Int32)) C dd_PJ_look_212 rfl ?_
  exact pj_iret C Q P h dd_PJ_look_213
