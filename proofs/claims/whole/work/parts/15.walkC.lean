theorem dd_Reader_read_0 : pj_d cX3_read 0 (.aload_n 0) 1 1 := ⟨by decide +kernel, rfl⟩
theorem dd_Reader_read_1 : pj_d cX3_read 1 (.iconst 0) 1 2 := ⟨by decide +kernel, rfl⟩
theorem dd_Reader_read_2 : pj_d cX3_read 2 (.putfield 28) 3 5 := ⟨by decide +kernel, rfl⟩
theorem dd_Reader_read_5 : pj_d cX3_read 5 (.aload_n 0) 1 6 := ⟨by decide +kernel, rfl⟩
theorem dd_Reader_read_6 : pj_d cX3_read 6 (.iconst (-1)) 1 7 := ⟨by decide +kernel, rfl⟩
theorem dd_Reader_read_7 : pj_d cX3_read 7 (.putfield 24) 3 10 := ⟨by decide +kernel, rfl⟩
theorem dd_Reader_read_10 : pj_d cX3_read 10 (.aload_n 0) 1 11 := ⟨by decide +kernel, rfl⟩
theorem dd_Reader_read_11 : pj_d cX3_read 11 (.iconst 0) 1 12 := ⟨by decide +kernel, rfl⟩
theorem dd_Reader_read_12 : pj_d cX3_read 12 (.putfield 31) 3 15 := ⟨by decide +kernel, rfl⟩
theorem dd_Reader_read_15 : pj_d cX3_read 15 (.aload_n 0) 1 16 := ⟨by decide +kernel, rfl⟩
theorem dd_Reader_read_16 : pj_d cX3_read 16 (.iconst 0) 1 17 := ⟨by decide +kernel, rfl⟩
theorem dd_Reader_read_17 : pj_d cX3_read 17 (.putfield 34) 3 20 := ⟨by decide +kernel, rfl⟩
theorem dd_Reader_read_20 : pj_d cX3_read 20 (.aload_n 0) 1 21 := ⟨by decide +kernel, rfl⟩
theorem dd_Reader_read_21 : pj_d cX3_read 21 (.iconst 0) 1 22 := ⟨by decide +kernel, rfl⟩
theorem dd_Reader_read_22 : pj_d cX3_read 22 (.putfield 37) 3 25 := ⟨by decide +kernel, rfl⟩
theorem dd_Reader_read_25 : pj_d cX3_read 25 (.aload_n 0) 1 26 := ⟨by decide +kernel, rfl⟩
theorem dd_Reader_read_26 : pj_d cX3_read 26 (.aload_n 1) 1 27 := ⟨by decide +kernel, rfl⟩
theorem dd_Reader_read_27 : pj_d cX3_read 27 (.invokevirtual 40) 3 30 := ⟨by decide +kernel, rfl⟩
theorem dd_Reader_read_30 : pj_d cX3_read 30 (.iconst 0) 1 31 := ⟨by decide +kernel, rfl⟩
theorem dd_Reader_read_31 : pj_d cX3_read 31 (.istore_n 3) 1 32 := ⟨by decide +kernel, rfl⟩
theorem dd_Reader_read_32 : pj_d cX3_read 32 (.iload_n 3) 1 33 := ⟨by decide +kernel, rfl⟩
theorem dd_Reader_read_33 : pj_d cX3_read 33 (.bipush 16) 2 35 := ⟨by decide +kernel, rfl⟩
theorem dd_Reader_read_35 : pj_dj cX3_read 35 (.if_icmp .gt 25) 25 38 60 := ⟨by decide +kernel, rfl, by decide⟩
theorem dd_Reader_read_38 : pj_d cX3_read 38 (.aload_n 0) 1 39 := ⟨by decide +kernel, rfl⟩
theorem dd_Reader_read_39 : pj_d cX3_read 39 (.invokevirtual 44) 3 42 := ⟨by decide +kernel, rfl⟩
theorem dd_Reader_read_42 : pj_dj cX3_read 42 (.ifCond .eq 18) 18 45 60 := ⟨by decide +kernel, rfl, by decide⟩
theorem dd_Reader_read_45 : pj_d cX3_read 45 (.aload_n 0) 1 46 := ⟨by decide +kernel, rfl⟩
theorem dd_Reader_read_46 : pj_d cX3_read 46 (.invokevirtual 48) 3 49 := ⟨by decide +kernel, rfl⟩
theorem dd_Reader_read_49 : pj_dj cX3_read 49 (.ifCond .ne 5) 5 52 54 := ⟨by decide +kernel, rfl, by decide⟩
theorem dd_Reader_read_52 : pj_d cX3_read 52 (.iconst 0) 1 53 := ⟨by decide +kernel, rfl⟩
theorem dd_Reader_read_53 : pj_d cX3_read 53 (.ireturn) 1 54 := ⟨by decide +kernel, rfl⟩
theorem dd_Reader_read_54 : pj_d cX3_read 54 (.iinc 3 1) 3 57 := ⟨by decide +kernel, rfl⟩
theorem dd_Reader_read_57 : pj_dj cX3_read 57 (.goto (-25)) (-25) 60 32 := ⟨by decide +kernel, rfl, by decide⟩
theorem dd_Reader_read_60 : pj_d cX3_read 60 (.aload_n 2) 1 61 := ⟨by decide +kernel, rfl⟩
theorem dd_Reader_read_61 : pj_d cX3_read 61 (.aload_n 0) 1 62 := ⟨by decide +kernel, rfl⟩
theorem dd_Reader_read_62 : pj_d cX3_read 62 (.getfield 21) 3 65 := ⟨by decide +kernel, rfl⟩
theorem dd_Reader_read_65 : pj_d cX3_read 65 (.aload_n 0) 1 66 := ⟨by decide +kernel, rfl⟩
theorem dd_Reader_read_66 : pj_d cX3_read 66 (.getfield 34) 3 69 := ⟨by decide +kernel, rfl⟩
theorem dd_Reader_read_69 : pj_d cX3_read 69 (.aload_n 0) 1 70 := ⟨by decide +kernel, rfl⟩
theorem dd_Reader_read_70 : pj_d cX3_read 70 (.getfield 37) 3 73 := ⟨by decide +kernel, rfl⟩
theorem dd_Reader_read_73 : pj_d cX3_read 73 (.invokevirtual 52) 3 76 := ⟨by decide +kernel, rfl⟩
theorem dd_Reader_read_76 : pj_d cX3_read 76 (.iconst 1) 1 77 := ⟨by decide +kernel, rfl⟩
theorem dd_Reader_read_77 : pj_d cX3_read 77 (.ireturn) 1 78 := ⟨by decide +kernel, rfl⟩
set_option maxHeartbeats 4000000 in
set_option maxRecDepth 100000 in
theorem bt_Reader_read_60 {B : pj_B} {A : Nat → Prop} {K : pj_K} {r0 : Int32} {z0 : pj_S} (hB : B.2.2.2.1 = pj_LC) (C : pj_C B A K cX3_read 4 RX3 30) (Q : pj_Qi B A K (some .boolean) r0 z0)   (z : pj_S) (H : Heap) (lo : List Loc) (ls : Array Slot) (h : Reader_read_60 z = some (r0, z0)) (P : pj_P B A K z H lo) (hl : lv_has ls 4 [(0, .ref (B.2.1 5)), (2, .ref (B.2.1 9))]) : pj_W K H lo 60 ls [] := by
  unfold Reader_read_60 at h
  refine pj_aload_n C dd_Reader_read_60 rfl hl 1 rfl ?_
  refine pj_aload_n C dd_Reader_read_61 rfl hl 0 rfl ?_
  refine pj_getR C P 5 (LC5 hB) rfl fl_Reader_21 dd_Reader_read_62 ?_
  refine pj_aload_n C dd_Reader_read_65 rfl hl 0 rfl ?_
  refine pj_getI C P 5 (LC5 hB) rfl fl_Reader_34 dd_Reader_read_66 ?_
  refine pj_aload_n C dd_Reader_read_69 rfl hl 0 rfl ?_
  refine pj_getI C P 5 (LC5 hB) rfl fl_Reader_37 dd_Reader_read_70 ?_
  obtain ⟨r3, z2, e1, h⟩ := pj_cE h
  refine pj_cVv (st := []) [.ref (B.2.1 27), .int (z.1 5 6), .int (z.1 5 7)] C P 9 (LC9 hB) rfl (ct_Law_take hB e1) cl_Reader_52 rfl (by decide) (by decide) hl.1 (Nat.le_of_ble_eq_true rfl) dd_Reader_read_73 (fun H lo P => ?_)
  refine pj_iconst (v := (nI 1)) C dd_Reader_read_76 rfl ?_
  exact pj_zret C Q P h dd_Reader_read_77
set_option maxHeartbeats 4000000 in
set_option maxRecDepth 100000 in
theorem bt_Reader_read_32 {B : pj_B} {A : Nat → Prop} {K : pj_K} {r0 : Int32} {z0 : pj_S} (hB : B.2.2.2.1 = pj_LC) (C : pj_C B A K cX3_read 4 RX3 30) (Q : pj_Qi B A K (some .boolean) r0 z0) (s32 : Int32 → pj_S → Option (Int32 × pj_S)) (k32 : ∀ (v3 : Int32) (z : pj_S) (H : Heap) (lo : List Loc) (ls : Array Slot), s32 v3 z = some (r0, z0) → pj_P B A K z H lo → lv_has ls 4 [(0, .ref (B.2.1 5)), (2, .ref (B.2.1 9)), (3, .int v3)] → pj_W K H lo 32 ls []) (v3 : Int32) (z : pj_S) (H : Heap) (lo : List Loc) (ls : Array Slot) (h : Reader_read_32 s32 v3 z = some (r0, z0)) (P : pj_P B A K z H lo) (hl : lv_has ls 4 [(0, .ref (B.2.1 5)), (2, .ref (B.2.1 9)), (3, .int v3)]) : pj_W K H lo 32 ls [] := by
  unfold Reader_read_32 at h
  refine pj_iload_n C dd_Reader_read_32 rfl hl 2 rfl ?_
  refine pj_bipush (v := (nI 16)) C dd_Reader_read_33 rfl ?_
  refine pj_ic_gt C h dd_Reader_read_35 (fun h => ?_) (fun h => ?_)
  · exact bt_Reader_read_60 hB C Q _ _ _ _ h P (lv_sub hl [0, 1] rfl)
  · refine pj_aload_n C dd_Reader_read_38 rfl hl 0 rfl ?_
    obtain ⟨r3, z2, e1, h⟩ := pj_cE h
    refine pj_cVi (st := []) [] C P 5 (LC5 hB) rfl (ct_Reader_token hB e1) cl_Reader_44 rfl (by decide) (by decide) hl.1 (Nat.le_of_ble_eq_true rfl) dd_Reader_read_39 (fun H lo P => ?_)
    refine pj_if_eq C h dd_Reader_read_42 (fun h => ?_) (fun h => ?_)
    · exact bt_Reader_read_60 hB C Q _ _ _ _ h P (lv_sub hl [0, 1] rfl)
    · refine pj_aload_n C dd_Reader_read_45 rfl hl 0 rfl ?_
      obtain ⟨r6, z5, e4, h⟩ := pj_cE h
      refine pj_cVi (st := []) [] C P 5 (LC5 hB) rfl (ct_Reader_readLine hB e4) cl_Reader_48 rfl (by decide) (by decide) hl.1 (Nat.le_of_ble_eq_true rfl) dd_Reader_read_46 (fun H lo P => ?_)
      refine pj_if_ne C h dd_Reader_read_49 (fun h => ?_) (fun h => ?_)
      · refine pj_iinc (v := (nI 1)) [(0, .ref (B.2.1 5)), (2, .ref (B.2.1 9))] C h rfl dd_Reader_read_54 hl 2 rfl (by decide) rfl (fun x7 ls h hl => ?_)
        refine pj_goto C dd_Reader_read_57 ?_
        exact k32 _ _ _ _ _ h P (lv_sub hl [1, 2, 0] rfl)
      · refine pj_iconst (v := (nI 0)) C dd_Reader_read_52 rfl ?_
        exact pj_zret C Q P h dd_Reader_read_53
theorem lt_Reader_read_32 {B : pj_B} {A : Nat → Prop} {K : pj_K} {r0 : Int32} {z0 : pj_S} (hB : B.2.2.2.1 = pj_LC) (C : pj_C B A K cX3_read 4 RX3 30) (Q : pj_Qi B A K (some .boolean) r0 z0)  : ∀ (n : Nat) (v3 : Int32) (z : pj_S) (H : Heap) (lo : List Loc) (ls : Array Slot), pj_lp1 Reader_read_32 n v3 z = some (r0, z0) → pj_P B A K z H lo → lv_has ls 4 [(0, .ref (B.2.1 5)), (2, .ref (B.2.1 9)), (3, .int v3)] → pj_W K H lo 32 ls [] := by
  intro n
  induction n with
  | zero => intro v3 z H lo ls h; rw [pj_lp1_0] at h; cases h
  | succ n ih =>
    intro v3 z H lo ls h P hl
    rw [pj_lp1_s] at h
    exact bt_Reader_read_32 hB C Q   (pj_lp1 Reader_read_32 n) ih v3 z H lo ls h P hl
set_option maxHeartbeats 4000000 in
set_option maxRecDepth 100000 in
theorem ct_Reader_read {l : Launch} {B : pj_B} (hB : B.2.2.2.1 = pj_LC)  {z : pj_S} {r0 : Int32} {z0 : pj_S} (h : Reader_read z = some (r0, z0)) : pj_Mi l yX3_read cX3_read 4 (some .boolean) 30 [.ref (B.2.1 5), .ref (B.2.1 4), .ref (B.2.1 9)] B z r0 z0 := by
  refine pj_meti (own := RX3) (by decide +kernel) rfl (Nat.le_of_ble_eq_true rfl) ?_
  intro A K hK C Q H lo ls P hl
  have hl : lv_has ls 4 [(0, .ref (B.2.1 5)), (1, .ref (B.2.1 4)), (2, .ref (B.2.1 9))] := hl
  unfold Reader_read at h
  refine pj_aload_n C dd_Reader_read_0 rfl hl 0 rfl ?_
  refine pj_iconst (v := (nI 0)) C dd_Reader_read_1 rfl ?_
  refine pj_putI C P 5 (LC5 hB) rfl fl_Reader_28 rfl fy_3_8 h dd_Reader_read_2 (fun H lo z1 h P => ?_)
  refine pj_aload_n C dd_Reader_read_5 rfl hl 0 rfl ?_
  refine pj_iconst (v := (-1 : Int32)) C dd_Reader_read_6 rfl ?_
  refine pj_putI C P 5 (LC5 hB) rfl fl_Reader_24 rfl fy_3_9 h dd_Reader_read_7 (fun H lo z2 h P => ?_)
  refine pj_aload_n C dd_Reader_read_10 rfl hl 0 rfl ?_
  refine pj_iconst (v := (nI 0)) C dd_Reader_read_11 rfl ?_
  refine pj_putI C P 5 (LC5 hB) rfl fl_Reader_31 rfl fy_3_5 h dd_Reader_read_12 (fun H lo z3 h P => ?_)
  refine pj_aload_n C dd_Reader_read_15 rfl hl 0 rfl ?_
  refine pj_iconst (v := (nI 0)) C dd_Reader_read_16 rfl ?_
  refine pj_putI C P 5 (LC5 hB) rfl fl_Reader_34 rfl fy_3_6 h dd_Reader_read_17 (fun H lo z4 h P => ?_)
  refine pj_aload_n C dd_Reader_read_20 rfl hl 0 rfl ?_
  refine pj_iconst (v := (nI 0)) C dd_Reader_read_21 rfl ?_
  refine pj_putI C P 5 (LC5 hB) rfl fl_Reader_37 rfl fy_3_7 h dd_Reader_read_22 (fun H lo z5 h P => ?_)
  refine pj_aload_n C dd_Reader_read_25 rfl hl 0 rfl ?_
  refine pj_aload_n C dd_Reader_read_26 rfl hl 1 rfl ?_
  obtain ⟨r8, z7, e6, h⟩ := pj_cE h
  refine pj_cVv (st := []) [.ref (B.2.1 4)] C P 5 (LC5 hB) rfl (ct_Reader_scan hB e6) cl_Reader_40 rfl (by decide) (by decide) hl.1 (Nat.le_of_ble_eq_true rfl) dd_Reader_read_27 (fun H lo P => ?_)
  refine pj_iconst (v := (nI 0)) C dd_Reader_read_30 rfl ?_
  refine pj_istore_n [(3, .int (nI 0)), (0, .ref (B.2.1 5)), (1, .ref (B.2.1 4)), (2, .ref (B.2.1 9))] C dd_Reader_read_31 rfl hl (by decide) rfl (fun ls hl => ?_)
  exact lt_Reader_read_32 hB C Q 4000 _ _ _ _ _ h P (lv_sub hl [1, 3, 0] rfl)
theorem dd_PJ_text_0 : pj_d cX10_text 0 (.aload_n 0) 1 1 := ⟨by decide +kernel, rfl⟩
theorem dd_PJ_text_1 : pj_d cX10_text 1 (.getfield 36) 3 4 := ⟨by decide +kernel, rfl⟩
theorem dd_PJ_text_4 : pj_d cX10_text 4 (.aload_n 0) 1 5 := ⟨by decide +kernel, rfl⟩
theorem dd_PJ_text_5 : pj_d cX10_text 5 (.getfield 29) 3 8 := ⟨by decide +kernel, rfl⟩
theorem dd_PJ_text_8 : pj_d cX10_text 8 (.aload_n 0) 1 9 := ⟨by decide +kernel, rfl⟩
theorem dd_PJ_text_9 : pj_d cX10_text 9 (.getfield 10) 3 12 := ⟨by decide +kernel, rfl⟩
theorem dd_PJ_text_12 : pj_d cX10_text 12 (.getfield 129) 3 15 := ⟨by decide +kernel, rfl⟩
theorem dd_PJ_text_15 : pj_d cX10_text 15 (.invokevirtual 133) 3 18 := ⟨by decide +kernel, rfl⟩
theorem dd_PJ_text_18 : pj_d cX10_text 18 (.istore_n 1) 1 19 := ⟨by decide +kernel, rfl⟩
theorem dd_PJ_text_19 : pj_d cX10_text 19 (.aload_n 0) 1 20 := ⟨by decide +kernel, rfl⟩
theorem dd_PJ_text_20 : pj_d cX10_text 20 (.getfield 29) 3 23 := ⟨by decide +kernel, rfl⟩
theorem dd_PJ_text_23 : pj_d cX10_text 23 (.iconst 0) 1 24 := ⟨by decide +kernel, rfl⟩
theorem dd_PJ_text_24 : pj_d cX10_text 24 (.putfield 126) 3 27 := ⟨by decide +kernel, rfl⟩
theorem dd_PJ_text_27 : pj_d cX10_text 27 (.iload_n 1) 1 28 := ⟨by decide +kernel, rfl⟩
theorem dd_PJ_text_28 : pj_dj cX10_text 28 (.ifCond .eq 16) 16 31 44 := ⟨by decide +kernel, rfl, by decide⟩
theorem dd_PJ_text_31 : pj_d cX10_text 31 (.aload_n 0) 1 32 := ⟨by decide +kernel, rfl⟩
theorem dd_PJ_text_32 : pj_d cX10_text 32 (.getfield 10) 3 35 := ⟨by decide +kernel, rfl⟩
theorem dd_PJ_text_35 : pj_d cX10_text 35 (.getfield 129) 3 38 := ⟨by decide +kernel, rfl⟩
theorem dd_PJ_text_38 : pj_d cX10_text 38 (.getfield 137) 3 41 := ⟨by decide +kernel, rfl⟩
theorem dd_PJ_text_41 : pj_dj cX10_text 41 (.goto 4) 4 44 45 := ⟨by decide +kernel, rfl, by decide⟩
theorem dd_PJ_text_44 : pj_d cX10_text 44 (.iconst (-1)) 1 45 := ⟨by decide +kernel, rfl⟩
theorem dd_PJ_text_45 : pj_d cX10_text 45 (.ireturn) 1 46 := ⟨by decide +kernel, rfl⟩
set_option maxHeartbeats 4000000 in
set_option maxRecDepth 100000 in
theorem ct_PJ_text {l : Launch} {B : pj_B} (hB : B.2.2.2.1 = pj_LC)  {z : pj_S} {r0 : Int32} {z0 : pj_S} (h : PJ_text z = some (r0, z0)) : pj_Mi l yX10_text cX10_text 2 (some .int) 31 [.ref (B.2.1 0)] B z r0 z0 := by
  refine pj_meti (own := RX10) (by decide +kernel) rfl (Nat.le_of_ble_eq_true rfl) ?_
  intro A K hK C Q H lo ls P hl
  have hl : lv_has ls 2 [(0, .ref (B.2.1 0))] := hl
  unfold PJ_text at h
  refine pj_aload_n C dd_PJ_text_0 rfl hl 0 rfl ?_
  refine pj_getR C P 0 (LC0 hB) rfl fl_PJ_36 dd_PJ_text_1 ?_
  refine pj_aload_n C dd_PJ_text_4 rfl hl 0 rfl ?_
  refine pj_getR C P 0 (LC0 hB) rfl fl_PJ_29 dd_PJ_text_5 ?_
  refine pj_aload_n C dd_PJ_text_8 rfl hl 0 rfl ?_
  refine pj_getR C P 0 (LC0 hB) rfl fl_PJ_10 dd_PJ_text_9 ?_
  refine pj_getR C P 1 (LC1 hB) rfl fl_PJ_129 dd_PJ_text_12 ?_
  obtain ⟨r3, z2, e1, h⟩ := pj_cE h
  refine pj_cVi (st := []) [.ref (B.2.1 4), .ref (B.2.1 9)] C P 5 (LC5 hB) rfl (ct_Reader_read hB e1) cl_PJ_133 rfl (by decide) (by decide) hl.1 (Nat.le_of_ble_eq_true rfl) dd_PJ_text_15 (fun H lo P => ?_)
  refine pj_istore_n [(1, .int r3), (0, .ref (B.2.1 0))] C dd_PJ_text_18 rfl hl (by decide) rfl (fun ls hl => ?_)
  refine pj_aload_n C dd_PJ_text_19 rfl hl 1 rfl ?_
  refine pj_getR C P 0 (LC0 hB) rfl fl_PJ_29 dd_PJ_text_20 ?_
  refine pj_iconst (v := (nI 0)) C dd_PJ_text_23 rfl ?_
  refine pj_putI C P 4 (LC4 hB) rfl fl_PJ_126 rfl fy_7_1 h dd_PJ_text_24 (fun H lo z4 h P => ?_)
  refine pj_iload_n C dd_PJ_text_27 rfl hl 0 rfl ?_
  refine pj_if_eq C h dd_PJ_text_28 (fun h => ?_) (fun h => ?_)
  · refine pj_iconst (v := (-1 : Int32)) C dd_PJ_text_44 rfl ?_
    exact pj_iret C Q P h dd_PJ_text_45
  · refine pj_aload_n C dd_PJ_text_31 rfl hl 1 rfl ?_
    refine pj_getR C P 0 (LC0 hB) rfl fl_PJ_10 dd_PJ_text_32 ?_
    refine pj_getR C P 1 (LC1 hB) rfl fl_PJ_129 dd_PJ_text_35 ?_
    refine pj_getI C P 9 (LC9 hB) rfl fl_PJ_137 dd_PJ_text_38 ?_
    refine pj_goto C dd_PJ_text_41 ?_
    exact pj_iret C Q P h dd_PJ_text_45
theorem dd_PJ_fault_0 : pj_d cX10_fault 0 (.iload_n 1) 1 1 := ⟨by decide +kernel, rfl⟩
theorem dd_PJ_fault_1 : pj_dj cX10_fault 1 (.ifCond .ne 11) 11 4 12 := ⟨by decide +kernel, rfl, by decide⟩
theorem dd_PJ_fault_4 : pj_d cX10_fault 4 (.aload_n 0) 1 5 := ⟨by decide +kernel, rfl⟩
theorem dd_PJ_fault_5 : pj_d cX10_fault 5 (.getfield 36) 3 8 := ⟨by decide +kernel, rfl⟩
theorem dd_PJ_fault_8 : pj_d cX10_fault 8 (.getfield 142) 3 11 := ⟨by decide +kernel, rfl⟩
theorem dd_PJ_fault_11 : pj_d cX10_fault 11 (.ireturn) 1 12 := ⟨by decide +kernel, rfl⟩
theorem dd_PJ_fault_12 : pj_d cX10_fault 12 (.iload_n 1) 1 13 := ⟨by decide +kernel, rfl⟩
theorem dd_PJ_fault_13 : pj_d cX10_fault 13 (.iconst 1) 1 14 := ⟨by decide +kernel, rfl⟩
theorem dd_PJ_fault_14 : pj_dj cX10_fault 14 (.if_icmp .ne 13) 13 17 27 := ⟨by decide +kernel, rfl, by decide⟩
theorem dd_PJ_fault_17 : pj_d cX10_fault 17 (.aload_n 0) 1 18 := ⟨by decide +kernel, rfl⟩
theorem dd_PJ_fault_18 : pj_d cX10_fault 18 (.getfield 36) 3 21 := ⟨by decide +kernel, rfl⟩
theorem dd_PJ_fault_21 : pj_d cX10_fault 21 (.getfield 145) 3 24 := ⟨by decide +kernel, rfl⟩
theorem dd_PJ_fault_24 : pj_dj cX10_fault 24 (.goto 4) 4 27 28 := ⟨by decide +kernel, rfl, by decide⟩
theorem dd_PJ_fault_27 : pj_d cX10_fault 27 (.iconst (-1)) 1 28 := ⟨by decide +kernel, rfl⟩
theorem dd_PJ_fault_28 : pj_d cX10_fault 28 (.ireturn) 1 29 := ⟨by decide +kernel, rfl⟩
set_option maxHeartbeats 4000000 in
set_option maxRecDepth 100000 in
theorem ct_PJ_fault {l : Launch} {B : pj_B} (hB : B.2.2.2.1 = pj_LC) {v1 : Int32} {z : pj_S} {r0 : Int32} {z0 : pj_S} (h : PJ_fault v1 z = some (r0, z0)) : pj_Mi l yX10_fault cX10_fault 2 (some .int) 1 [.ref (B.2.1 0), .int v1] B z r0 z0 := by
  refine pj_meti (own := RX10) (by decide +kernel) rfl (Nat.le_of_ble_eq_true rfl) ?_
  intro A K hK C Q H lo ls P hl
  have hl : lv_has ls 2 [(0, .ref (B.2.1 0)), (1, .int v1)] := hl
  unfold PJ_fault at h
  refine pj_iload_n C dd_PJ_fault_0 rfl hl 1 rfl ?_
  refine pj_if_ne C h dd_PJ_fault_1 (fun h => ?_) (fun h => ?_)
  · refine pj_iload_n C dd_PJ_fault_12 rfl hl 1 rfl ?_
    refine pj_iconst (v := (nI 1)) C dd_PJ_fault_13 rfl ?_
    refine pj_ic_ne C h dd_PJ_fault_14 (fun h => ?_) (fun h => ?_)
    · refine pj_iconst (v := (-1 : Int32)) C dd_PJ_fault_27 rfl ?_
      exact pj_iret C Q P h dd_PJ_fault_28
    · refine pj_aload_n C dd_PJ_fault_17 rfl hl 0 rfl ?_
      refine pj_getR C P 0 (LC0 hB) rfl fl_PJ_36 dd_PJ_fault_18 ?_
      refine pj_getI C P 5 (LC5 hB) rfl fl_PJ_145 dd_PJ_fault_21 ?_
      refine pj_goto C dd_PJ_fault_24 ?_
      exact pj_iret C Q P h dd_PJ_fault_28
  · refine pj_aload_n C dd_PJ_fault_4 rfl hl 0 rfl ?_
    refine pj_getR C P 0 (LC0 hB) rfl fl_PJ_36 dd_PJ_fault_5 ?_
    refine pj_getI C P 5 (LC5 hB) rfl fl_PJ_142 dd_PJ_fault_8 ?_
    exact pj_iret C Q P h dd_PJ_fault_11
theorem dd_Fabric_placeOf_0 : pj_d cX1_placeOf 0 (.iload_n 1) 1 1 := ⟨by decide +kernel, rfl⟩
theorem dd_Fabric_placeOf_1 : pj_d cX1_placeOf 1 (.bipush 7) 2 3 := ⟨by decide +kernel, rfl⟩
theorem dd_Fabric_placeOf_3 : pj_d cX1_placeOf 3 (.iand) 1 4 := ⟨by decide +kernel, rfl⟩
theorem dd_Fabric_placeOf_4 : pj_d cX1_placeOf 4 (.istore_n 2) 1 5 := ⟨by decide +kernel, rfl⟩
theorem dd_Fabric_placeOf_5 : pj_d cX1_placeOf 5 (.iload_n 1) 1 6 := ⟨by decide +kernel, rfl⟩
theorem dd_Fabric_placeOf_6 : pj_d cX1_placeOf 6 (.iconst 3) 1 7 := ⟨by decide +kernel, rfl⟩
theorem dd_Fabric_placeOf_7 : pj_d cX1_placeOf 7 (.ishr) 1 8 := ⟨by decide +kernel, rfl⟩
theorem dd_Fabric_placeOf_8 : pj_d cX1_placeOf 8 (.istore_n 3) 1 9 := ⟨by decide +kernel, rfl⟩
theorem dd_Fabric_placeOf_9 : pj_d cX1_placeOf 9 (.iload_n 3) 1 10 := ⟨by decide +kernel, rfl⟩
theorem dd_Fabric_placeOf_10 : pj_d cX1_placeOf 10 (.aload_n 0) 1 11 := ⟨by decide +kernel, rfl⟩
theorem dd_Fabric_placeOf_11 : pj_d cX1_placeOf 11 (.getfield 9) 3 14 := ⟨by decide +kernel, rfl⟩
theorem dd_Fabric_placeOf_14 : pj_d cX1_placeOf 14 (.imul) 1 15 := ⟨by decide +kernel, rfl⟩
theorem dd_Fabric_placeOf_15 : pj_d cX1_placeOf 15 (.iload_n 3) 1 16 := ⟨by decide +kernel, rfl⟩
theorem dd_Fabric_placeOf_16 : pj_d cX1_placeOf 16 (.iconst 1) 1 17 := ⟨by decide +kernel, rfl⟩
theorem dd_Fabric_placeOf_17 : pj_d cX1_placeOf 17 (.iand) 1 18 := ⟨by decide +kernel, rfl⟩
theorem dd_Fabric_placeOf_18 : pj_dj cX1_placeOf 18 (.ifCond .ne 7) 7 21 25 := ⟨by decide +kernel, rfl, by decide⟩
theorem dd_Fabric_placeOf_21 : pj_d cX1_placeOf 21 (.iload_n 2) 1 22 := ⟨by decide +kernel, rfl⟩
theorem dd_Fabric_placeOf_22 : pj_dj cX1_placeOf 22 (.goto 11) 11 25 33 := ⟨by decide +kernel, rfl, by decide⟩
theorem dd_Fabric_placeOf_25 : pj_d cX1_placeOf 25 (.aload_n 0) 1 26 := ⟨by decide +kernel, rfl⟩
theorem dd_Fabric_placeOf_26 : pj_d cX1_placeOf 26 (.getfield 9) 3 29 := ⟨by decide +kernel, rfl⟩
theorem dd_Fabric_placeOf_29 : pj_d cX1_placeOf 29 (.iconst 1) 1 30 := ⟨by decide +kernel, rfl⟩
theorem dd_Fabric_placeOf_30 : pj_d cX1_placeOf 30 (.isub) 1 31 := ⟨by decide +kernel, rfl⟩
theorem dd_Fabric_placeOf_31 : pj_d cX1_placeOf 31 (.iload_n 2) 1 32 := ⟨by decide +kernel, rfl⟩
theorem dd_Fabric_placeOf_32 : pj_d cX1_placeOf 32 (.isub) 1 33 := ⟨by decide +kernel, rfl⟩
theorem dd_Fabric_placeOf_33 : pj_d cX1_placeOf 33 (.iadd) 1 34 := ⟨by decide +kernel, rfl⟩
theorem dd_Fabric_placeOf_34 : pj_d cX1_placeOf 34 (.ireturn) 1 35 := ⟨by decide +kernel, rfl⟩
set_option maxHeartbeats 4000000 in
set_option maxRecDepth 100000 in
theorem bt_Fabric_placeOf_33 {B : pj_B} {A : Nat → Prop} {K : pj_K} {r0 : Int32} {z0 : pj_S} (hB : B.2.2.2.1 = pj_LC) (C : pj_C B A K cX1_placeOf 4 RX1 1) (Q : pj_Qi B A K (some .int) r0 z0)  (t0 : Int32) (t1 : Int32) (z : pj_S) (H : Heap) (lo : List Loc) (ls : Array Slot) (h : Fabric_placeOf_33 t0 t1 z = some (r0, z0)) (P : pj_P B A K z H lo) (hl : lv_has ls 4 []) : pj_W K H lo 33 ls [.int t0, .int t1] := by
  unfold Fabric_placeOf_33 at h
  refine pj_iadd C dd_Fabric_placeOf_33 ?_
  exact pj_iret C Q P h dd_Fabric_placeOf_34
set_option maxHeartbeats 4000000 in
set_option maxRecDepth 100000 in
theorem ct_Fabric_placeOf {l : Launch} {B : pj_B} (hB : B.2.2.2.1 = pj_LC) {v1 : Int32} {z : pj_S} {r0 : Int32} {z0 : pj_S} (h : Fabric_placeOf v1 z = some (r0, z0)) : pj_Mi l yX1_placeOf cX1_placeOf 4 (some .int) 1 [.ref (B.2.1 8), .int v1] B z r0 z0 := by
  refine pj_meti (own := RX1) (by decide +kernel) rfl (Nat.le_of_ble_eq_true rfl) ?_
  intro A K hK C Q H lo ls P hl
  have hl : lv_has ls 4 [(0, .ref (B.2.1 8)), (1, .int v1)] := hl
  unfold Fabric_placeOf at h
  refine pj_iload_n C dd_Fabric_placeOf_0 rfl hl 1 rfl ?_
  refine pj_bipush (v := (nI 7)) C dd_Fabric_placeOf_1 rfl ?_
  refine pj_iand C dd_Fabric_placeOf_3 ?_
  refine pj_istb_n [(0, .ref (B.2.1 8)), (1, .int v1)] C h dd_Fabric_placeOf_4 rfl hl (by decide) rfl (fun x1 ls h hl => ?_)
  refine pj_iload_n C dd_Fabric_placeOf_5 rfl hl 2 rfl ?_
  refine pj_iconst (v := (nI 3)) C dd_Fabric_placeOf_6 rfl ?_
  refine pj_ishr C dd_Fabric_placeOf_7 ?_
  refine pj_istb_n [(2, .int x1), (0, .ref (B.2.1 8)), (1, .int v1)] C h dd_Fabric_placeOf_8 rfl hl (by decide) rfl (fun x2 ls h hl => ?_)
  refine pj_iload_n C dd_Fabric_placeOf_9 rfl hl 0 rfl ?_
  refine pj_aload_n C dd_Fabric_placeOf_10 rfl hl 2 rfl ?_
  refine pj_getI C P 8 (LC8 hB) rfl fl_Fabric_9 dd_Fabric_placeOf_11 ?_
  refine pj_imul C dd_Fabric_placeOf_14 ?_
  refine pj_iload_n C dd_Fabric_placeOf_15 rfl hl 0 rfl ?_
  refine pj_iconst (v := (nI 1)) C dd_Fabric_placeOf_16 rfl ?_
  refine pj_iand C dd_Fabric_placeOf_17 ?_
  refine pj_if_ne C h dd_Fabric_placeOf_18 (fun h => ?_) (fun h => ?_)
  · refine pj_aload_n C dd_Fabric_placeOf_25 rfl hl 2 rfl ?_
    refine pj_getI C P 8 (LC8 hB) rfl fl_Fabric_9 dd_Fabric_placeOf_26 ?_
    refine pj_iconst (v := (nI 1)) C dd_Fabric_placeOf_29 rfl ?_
    refine pj_isub C dd_Fabric_placeOf_30 ?_
    refine pj_iload_n C dd_Fabric_placeOf_31 rfl hl 1 rfl ?_
    refine pj_isub C dd_Fabric_placeOf_32 ?_
    exact bt_Fabric_placeOf_33 hB C Q _ _ _ _ _ _ h P (lv_sub hl [] rfl)
  · refine pj_iload_n C dd_Fabric_placeOf_21 rfl hl 1 rfl ?_
    refine pj_goto C dd_Fabric_placeOf_22 ?_
    exact bt_Fabric_placeOf_33 hB C Q _ _ _ _ _ _ h P (lv_sub hl [] rfl)
theorem dd_PJ_of_0 : pj_d cX10_of 0 (.aload_n 0) 1 1 := ⟨by decide +kernel, rfl⟩
theorem dd_PJ_of_1 : pj_d cX10_of 1 (.getfield 10) 3 4 := ⟨by decide +kernel, rfl⟩
theorem dd_PJ_of_4 : pj_d cX10_of 4 (.getfield 65) 3 7 := ⟨by decide +kernel, rfl⟩
theorem dd_PJ_of_7 : pj_d cX10_of 7 (.astore_n 3) 1 8 := ⟨by decide +kernel, rfl⟩
theorem dd_PJ_of_8 : pj_d cX10_of 8 (.aload_n 3) 1 9 := ⟨by decide +kernel, rfl⟩
theorem dd_PJ_of_9 : pj_d cX10_of 9 (.iload_n 1) 1 10 := ⟨by decide +kernel, rfl⟩
theorem dd_PJ_of_10 : pj_d cX10_of 10 (.invokevirtual 148) 3 13 := ⟨by decide +kernel, rfl⟩
theorem dd_PJ_of_13 : pj_dj cX10_of 13 (.ifCond .ne 5) 5 16 18 := ⟨by decide +kernel, rfl, by decide⟩
theorem dd_PJ_of_16 : pj_d cX10_of 16 (.iconst (-1)) 1 17 := ⟨by decide +kernel, rfl⟩
theorem dd_PJ_of_17 : pj_d cX10_of 17 (.ireturn) 1 18 := ⟨by decide +kernel, rfl⟩
theorem dd_PJ_of_18 : pj_d cX10_of 18 (.iload_n 2) 1 19 := ⟨by decide +kernel, rfl⟩
theorem dd_PJ_of_19 : pj_d cX10_of 19 (.tableswitch 133 0 6 #[41, 47, 56, 65, 82, 88, 124]) 41 60 := ⟨by decide +kernel, rfl⟩
theorem dd_PJ_of_60 : pj_d cX10_of 60 (.aload_n 3) 1 61 := ⟨by decide +kernel, rfl⟩
theorem dd_PJ_of_61 : pj_d cX10_of 61 (.iload_n 1) 1 62 := ⟨by decide +kernel, rfl⟩
theorem dd_PJ_of_62 : pj_d cX10_of 62 (.invokevirtual 151) 3 65 := ⟨by decide +kernel, rfl⟩
theorem dd_PJ_of_65 : pj_d cX10_of 65 (.ireturn) 1 66 := ⟨by decide +kernel, rfl⟩
theorem dd_PJ_of_66 : pj_d cX10_of 66 (.aload_n 3) 1 67 := ⟨by decide +kernel, rfl⟩
theorem dd_PJ_of_67 : pj_d cX10_of 67 (.getfield 155) 3 70 := ⟨by decide +kernel, rfl⟩
theorem dd_PJ_of_70 : pj_d cX10_of 70 (.iload_n 1) 1 71 := ⟨by decide +kernel, rfl⟩
theorem dd_PJ_of_71 : pj_d cX10_of 71 (.invokestatic 158) 3 74 := ⟨by decide +kernel, rfl⟩
theorem dd_PJ_of_74 : pj_d cX10_of 74 (.ireturn) 1 75 := ⟨by decide +kernel, rfl⟩
theorem dd_PJ_of_75 : pj_d cX10_of 75 (.aload_n 3) 1 76 := ⟨by decide +kernel, rfl⟩
theorem dd_PJ_of_76 : pj_d cX10_of 76 (.getfield 162) 3 79 := ⟨by decide +kernel, rfl⟩
theorem dd_PJ_of_79 : pj_d cX10_of 79 (.iload_n 1) 1 80 := ⟨by decide +kernel, rfl⟩
theorem dd_PJ_of_80 : pj_d cX10_of 80 (.invokestatic 158) 3 83 := ⟨by decide +kernel, rfl⟩
theorem dd_PJ_of_83 : pj_d cX10_of 83 (.ireturn) 1 84 := ⟨by decide +kernel, rfl⟩
theorem dd_PJ_of_84 : pj_d cX10_of 84 (.aload_n 3) 1 85 := ⟨by decide +kernel, rfl⟩
theorem dd_PJ_of_85 : pj_d cX10_of 85 (.aload_n 3) 1 86 := ⟨by decide +kernel, rfl⟩
theorem dd_PJ_of_86 : pj_d cX10_of 86 (.getfield 155) 3 89 := ⟨by decide +kernel, rfl⟩
theorem dd_PJ_of_89 : pj_d cX10_of 89 (.aload_n 3) 1 90 := ⟨by decide +kernel, rfl⟩
theorem dd_PJ_of_90 : pj_d cX10_of 90 (.getfield 162) 3 93 := ⟨by decide +kernel, rfl⟩
theorem dd_PJ_of_93 : pj_d cX10_of 93 (.invokevirtual 165) 3 96 := ⟨by decide +kernel, rfl⟩
theorem dd_PJ_of_96 : pj_d cX10_of 96 (.iload_n 1) 1 97 := ⟨by decide +kernel, rfl⟩
theorem dd_PJ_of_97 : pj_d cX10_of 97 (.invokestatic 158) 3 100 := ⟨by decide +kernel, rfl⟩
theorem dd_PJ_of_100 : pj_d cX10_of 100 (.ireturn) 1 101 := ⟨by decide +kernel, rfl⟩
theorem dd_PJ_of_101 : pj_d cX10_of 101 (.aload_n 3) 1 102 := ⟨by decide +kernel, rfl⟩
theorem dd_PJ_of_102 : pj_d cX10_of 102 (.iload_n 1) 1 103 := ⟨by decide +kernel, rfl⟩
theorem dd_PJ_of_103 : pj_d cX10_of 103 (.invokevirtual 169) 3 106 := ⟨by decide +kernel, rfl⟩
theorem dd_PJ_of_106 : pj_d cX10_of 106 (.ireturn) 1 107 := ⟨by decide +kernel, rfl⟩
theorem dd_PJ_of_107 : pj_d cX10_of 107 (.aload_n 3) 1 108 := ⟨by decide +kernel, rfl⟩
theorem dd_PJ_of_108 : pj_d cX10_of 108 (.invokevirtual 172) 3 111 := ⟨by decide +kernel, rfl⟩
theorem dd_PJ_of_111 : pj_d cX10_of 111 (.iload_n 1) 1 112 := ⟨by decide +kernel, rfl⟩
theorem dd_PJ_of_112 : pj_d cX10_of 112 (.invokestatic 158) 3 115 := ⟨by decide +kernel, rfl⟩
theorem dd_PJ_of_115 : pj_d cX10_of 115 (.iconst 1) 1 116 := ⟨by decide +kernel, rfl⟩
theorem dd_PJ_of_116 : pj_dj cX10_of 116 (.if_icmp .ne 25) 25 119 141 := ⟨by decide +kernel, rfl, by decide⟩
theorem dd_PJ_of_119 : pj_d cX10_of 119 (.aload_n 0) 1 120 := ⟨by decide +kernel, rfl⟩
theorem dd_PJ_of_120 : pj_d cX10_of 120 (.getfield 10) 3 123 := ⟨by decide +kernel, rfl⟩
theorem dd_PJ_of_123 : pj_d cX10_of 123 (.getfield 129) 3 126 := ⟨by decide +kernel, rfl⟩
theorem dd_PJ_of_126 : pj_d cX10_of 126 (.aload_n 3) 1 127 := ⟨by decide +kernel, rfl⟩
theorem dd_PJ_of_127 : pj_d cX10_of 127 (.aload_n 0) 1 128 := ⟨by decide +kernel, rfl⟩
theorem dd_PJ_of_128 : pj_d cX10_of 128 (.getfield 10) 3 131 := ⟨by decide +kernel, rfl⟩
theorem dd_PJ_of_131 : pj_d cX10_of 131 (.getfield 111) 3 134 := ⟨by decide +kernel, rfl⟩
theorem dd_PJ_of_134 : pj_d cX10_of 134 (.iload_n 1) 1 135 := ⟨by decide +kernel, rfl⟩
theorem dd_PJ_of_135 : pj_d cX10_of 135 (.invokevirtual 176) 3 138 := ⟨by decide +kernel, rfl⟩
theorem dd_PJ_of_138 : pj_dj cX10_of 138 (.goto 4) 4 141 142 := ⟨by decide +kernel, rfl, by decide⟩
theorem dd_PJ_of_141 : pj_d cX10_of 141 (.iconst 0) 1 142 := ⟨by decide +kernel, rfl⟩
theorem dd_PJ_of_142 : pj_d cX10_of 142 (.ireturn) 1 143 := ⟨by decide +kernel, rfl⟩
theorem dd_PJ_of_143 : pj_d cX10_of 143 (.aload_n 3) 1 144 := ⟨by decide +kernel, rfl⟩
theorem dd_PJ_of_144 : pj_d cX10_of 144 (.getfield 180) 3 147 := ⟨by decide +kernel, rfl⟩
theorem dd_PJ_of_147 : pj_d cX10_of 147 (.iload_n 1) 1 148 := ⟨by decide +kernel, rfl⟩
theorem dd_PJ_of_148 : pj_d cX10_of 148 (.invokestatic 158) 3 151 := ⟨by decide +kernel, rfl⟩
theorem dd_PJ_of_151 : pj_d cX10_of 151 (.ireturn) 1 152 := ⟨by decide +kernel, rfl⟩
theorem dd_PJ_of_152 : pj_d cX10_of 152 (.iconst (-1)) 1 153 := ⟨by decide +kernel, rfl⟩
theorem dd_PJ_of_153 : pj_d cX10_of 153 (.ireturn) 1 154 := ⟨by decide +kernel, rfl⟩
set_option maxHeartbeats 4000000 in
set_option maxRecDepth 100000 in
theorem ct_PJ_of {l : Launch} {B : pj_B} (hB : B.2.2.2.1 = pj_LC) {v1 : Int32} {v2 : Int32} {z : pj_S} {r0 : Int32} {z0 : pj_S} (h : PJ_of v1 v2 z = some (r0, z0)) : pj_Mi l yX10_of cX10_of 4 (some .int) 6 [.ref (B.2.1 0), .int v1, .int v2] B z r0 z0 := by
  refine pj_meti (own := RX10) (by decide +kernel) rfl (Nat.le_of_ble_eq_true rfl) ?_
  intro A K hK C Q H lo ls P hl
  have hl : lv_has ls 4 [(0, .ref (B.2.1 0)), (1, .int v1), (2, .int v2)] := hl
  unfold PJ_of at h
  refine pj_aload_n C dd_PJ_of_0 rfl hl 0 rfl ?_
  refine pj_getR C P 0 (LC0 hB) rfl fl_PJ_10 dd_PJ_of_1 ?_
  refine pj_getR C P 1 (LC1 hB) rfl fl_PJ_65 dd_PJ_of_4 ?_
  refine pj_astore_n [(3, .ref (B.2.1 8)), (0, .ref (B.2.1 0)), (1, .int v1), (2, .int v2)] C dd_PJ_of_7 rfl hl (by decide) rfl (fun ls hl => ?_)
  refine pj_aload_n C dd_PJ_of_8 rfl hl 0 rfl ?_
  refine pj_iload_n C dd_PJ_of_9 rfl hl 2 rfl ?_
  obtain ⟨r3, z2, e1, h⟩ := pj_cE h
  refine pj_cVi (st := []) [.int v1] C P 8 (LC8 hB) rfl (ct_Fabric_has hB e1) cl_PJ_148 rfl (by decide) (by decide) hl.1 (Nat.le_of_ble_eq_true rfl) dd_PJ_of_10 (fun H lo P => ?_)
  refine pj_if_ne C h dd_PJ_of_13 (fun h => ?_) (fun h => ?_)
  · refine pj_iload_n C dd_PJ_of_18 rfl hl 3 rfl ?_
    refine pj_sw h (fun c0 h => ?_) (fun c0 h => ?_)
    · refine pj_swI (nI 0) (41) 60 C dd_PJ_of_19 c0 (by decide) ?_
      refine pj_aload_n C dd_PJ_of_60 rfl hl 0 rfl ?_
      refine pj_iload_n C dd_PJ_of_61 rfl hl 2 rfl ?_
      obtain ⟨r6, z5, e4, h⟩ := pj_cE h
      refine pj_cVi (st := []) [.int v1] C P 8 (LC8 hB) rfl (ct_Fabric_kindOf hB e4) cl_PJ_151 rfl (by decide) (by decide) hl.1 (Nat.le_of_ble_eq_true rfl) dd_PJ_of_62 (fun H lo P => ?_)
      exact pj_iret C Q P h dd_PJ_of_65
    refine pj_sw h (fun c1 h => ?_) (fun c1 h => ?_)
    · refine pj_swI (nI 1) (47) 66 C dd_PJ_of_19 c1 (by decide) ?_
      refine pj_aload_n C dd_PJ_of_66 rfl hl 0 rfl ?_
      refine pj_getJ C P 8 (LC8 hB) rfl fl_PJ_155 dd_PJ_of_67 ?_
      refine pj_iload_n C dd_PJ_of_70 rfl hl 2 rfl ?_
      obtain ⟨r9, z8, e7, h⟩ := pj_cE h
      refine pj_cSi (st := []) [.long (z2.2 8 6), .int v1] C P (ct_PJ_bitOf hB e7) cl_PJ_158 rfl (by decide) (by decide) hl.1 (Nat.le_of_ble_eq_true rfl) dd_PJ_of_71 (fun H lo P => ?_)
      exact pj_iret C Q P h dd_PJ_of_74
    refine pj_sw h (fun c2 h => ?_) (fun c2 h => ?_)
    · refine pj_swI (nI 2) (56) 75 C dd_PJ_of_19 c2 (by decide) ?_
      refine pj_aload_n C dd_PJ_of_75 rfl hl 0 rfl ?_
      refine pj_getJ C P 8 (LC8 hB) rfl fl_PJ_162 dd_PJ_of_76 ?_
      refine pj_iload_n C dd_PJ_of_79 rfl hl 2 rfl ?_
      obtain ⟨r12, z11, e10, h⟩ := pj_cE h
      refine pj_cSi (st := []) [.long (z2.2 8 7), .int v1] C P (ct_PJ_bitOf hB e10) cl_PJ_158 rfl (by decide) (by decide) hl.1 (Nat.le_of_ble_eq_true rfl) dd_PJ_of_80 (fun H lo P => ?_)
      exact pj_iret C Q P h dd_PJ_of_83
    refine pj_sw h (fun c3 h => ?_) (fun c3 h => ?_)
    · refine pj_swI (nI 3) (65) 84 C dd_PJ_of_19 c3 (by decide) ?_
      refine pj_aload_n C dd_PJ_of_84 rfl hl 0 rfl ?_
      refine pj_aload_n C dd_PJ_of_85 rfl hl 0 rfl ?_
      refine pj_getJ C P 8 (LC8 hB) rfl fl_PJ_155 dd_PJ_of_86 ?_
      refine pj_aload_n C dd_PJ_of_89 rfl hl 0 rfl ?_
      refine pj_getJ C P 8 (LC8 hB) rfl fl_PJ_162 dd_PJ_of_90 ?_
      obtain ⟨r15, z14, e13, h⟩ := pj_cE h
      refine pj_cVl (st := []) [.long (z2.2 8 6), .long (z2.2 8 7)] C P 8 (LC8 hB) rfl (ct_Fabric_heldOf hB e13) cl_PJ_165 rfl (by decide) (by decide) hl.1 (Nat.le_of_ble_eq_true rfl) dd_PJ_of_93 (fun H lo P => ?_)
      refine pj_iload_n C dd_PJ_of_96 rfl hl 2 rfl ?_
      obtain ⟨r18, z17, e16, h⟩ := pj_cE h
      refine pj_cSi (st := []) [.long r15, .int v1] C P (ct_PJ_bitOf hB e16) cl_PJ_158 rfl (by decide) (by decide) hl.1 (Nat.le_of_ble_eq_true rfl) dd_PJ_of_97 (fun H lo P => ?_)
      exact pj_iret C Q P h dd_PJ_of_100
    refine pj_sw h (fun c4 h => ?_) (fun c4 h => ?_)
    · refine pj_swI (nI 4) (82) 101 C dd_PJ_of_19 c4 (by decide) ?_
      refine pj_aload_n C dd_PJ_of_101 rfl hl 0 rfl ?_
      refine pj_iload_n C dd_PJ_of_102 rfl hl 2 rfl ?_
      obtain ⟨r21, z20, e19, h⟩ := pj_cE h
      refine pj_cVi (st := []) [.int v1] C P 8 (LC8 hB) rfl (ct_Fabric_placeOf hB e19) cl_PJ_169 rfl (by decide) (by decide) hl.1 (Nat.le_of_ble_eq_true rfl) dd_PJ_of_103 (fun H lo P => ?_)
      exact pj_iret C Q P h dd_PJ_of_106
    refine pj_sw h (fun c5 h => ?_) (fun c5 h => ?_)
    · refine pj_swI (nI 5) (88) 107 C dd_PJ_of_19 c5 (by decide) ?_
      refine pj_aload_n C dd_PJ_of_107 rfl hl 0 rfl ?_
      obtain ⟨r24, z23, e22, h⟩ := pj_cE h
      refine pj_cVl (st := []) [] C P 8 (LC8 hB) rfl (ct_Fabric_loose hB e22) cl_PJ_172 rfl (by decide) (by decide) hl.1 (Nat.le_of_ble_eq_true rfl) dd_PJ_of_108 (fun H lo P => ?_)
      refine pj_iload_n C dd_PJ_of_111 rfl hl 2 rfl ?_
      obtain ⟨r27, z26, e25, h⟩ := pj_cE h
      refine pj_cSi (st := []) [.long r24, .int v1] C P (ct_PJ_bitOf hB e25) cl_PJ_158 rfl (by decide) (by decide) hl.1 (Nat.le_of_ble_eq_true rfl) dd_PJ_of_112 (fun H lo P => ?_)
      refine pj_iconst (v := (nI 1)) C dd_PJ_of_115 rfl ?_
      refine pj_ic_ne C h dd_PJ_of_116 (fun h => ?_) (fun h => ?_)
      · refine pj_iconst (v := (nI 0)) C dd_PJ_of_141 rfl ?_
        exact pj_iret C Q P h dd_PJ_of_142
      · refine pj_aload_n C dd_PJ_of_119 rfl hl 1 rfl ?_
        refine pj_getR C P 0 (LC0 hB) rfl fl_PJ_10 dd_PJ_of_120 ?_
        refine pj_getR C P 1 (LC1 hB) rfl fl_PJ_129 dd_PJ_of_123 ?_
        refine pj_aload_n C dd_PJ_of_126 rfl hl 0 rfl ?_
        refine pj_aload_n C dd_PJ_of_127 rfl hl 1 rfl ?_
        refine pj_getR C P 0 (LC0 hB) rfl fl_PJ_10 dd_PJ_of_128 ?_
        refine pj_getI C P 1 (LC1 hB) rfl fl_PJ_111 dd_PJ_of_131 ?_
        refine pj_iload_n C dd_PJ_of_134 rfl hl 2 rfl ?_
        obtain ⟨r30, z29, e28, h⟩ := pj_cE h
        refine pj_cVi (st := []) [.ref (B.2.1 8), .int (z26.1 1 4), .int v1] C P 9 (LC9 hB) rfl (ct_Law_oddsOf hB e28) cl_PJ_176 rfl (by decide) (by decide) hl.1 (Nat.le_of_ble_eq_true rfl) dd_PJ_of_135 (fun H lo P => ?_)
        refine pj_goto C dd_PJ_of_138 ?_
        exact pj_iret C Q P h dd_PJ_of_142
    refine pj_sw h (fun c6 h => ?_) (fun c6 h => ?_)
    · refine pj_swI (nI 6) (124) 143 C dd_PJ_of_19 c6 (by decide) ?_
      refine pj_aload_n C dd_PJ_of_143 rfl hl 0 rfl ?_
      refine pj_getJ C P 8 (LC8 hB) rfl fl_PJ_180 dd_PJ_of_144 ?_
      refine pj_iload_n C dd_PJ_of_147 rfl hl 2 rfl ?_
      obtain ⟨r33, z32, e31, h⟩ := pj_cE h
      refine pj_cSi (st := []) [.long (z2.2 8 8), .int v1] C P (ct_PJ_bitOf hB e31) cl_PJ_158 rfl (by decide) (by decide) hl.1 (Nat.le_of_ble_eq_true rfl) dd_PJ_of_148 (fun H lo P => ?_)
      exact pj_iret C Q P h dd_PJ_of_151
    have u0 := pj_nI c0 (n := 0) (by decide)
    have u1 := pj_nI c1 (n := 1) (by decide)
    have u2 := pj_nI c2 (n := 2) (by decide)
    have u3 := pj_nI c3 (n := 3) (by decide)
    have u4 := pj_nI c4 (n := 4) (by decide)
    have u5 := pj_nI c5 (n := 5) (by decide)
    have u6 := pj_nI c6 (n := 6) (by decide)
    refine pj_swO 152 C dd_PJ_of_19 (by omega) (by decide) ?_
    refine pj_iconst (v := (-1 : Int32)) C dd_PJ_of_152 rfl ?_
    exact pj_iret C Q P h dd_PJ_of_153
  · refine pj_iconst (v := (-1 : Int32)) C dd_PJ_of_16 rfl ?_
    exact pj_iret C Q P h dd_PJ_of_17
theorem dd_PJ_at_0 : pj_d cX10_at 0 (.aload_n 0) 1 1 := ⟨by decide +kernel, rfl⟩
theorem dd_PJ_at_1 : pj_d cX10_at 1 (.getfield 10) 3 4 := ⟨by decide +kernel, rfl⟩
theorem dd_PJ_at_4 : pj_d cX10_at 4 (.getfield 65) 3 7 := ⟨by decide +kernel, rfl⟩
theorem dd_PJ_at_7 : pj_d cX10_at 7 (.astore_n 3) 1 8 := ⟨by decide +kernel, rfl⟩
theorem dd_PJ_at_8 : pj_d cX10_at 8 (.iload_n 1) 1 9 := ⟨by decide +kernel, rfl⟩
theorem dd_PJ_at_9 : pj_dj cX10_at 9 (.ifCond .lt 11) 11 12 20 := ⟨by decide +kernel, rfl, by decide⟩
theorem dd_PJ_at_12 : pj_d cX10_at 12 (.iload_n 1) 1 13 := ⟨by decide +kernel, rfl⟩
theorem dd_PJ_at_13 : pj_d cX10_at 13 (.aload_n 3) 1 14 := ⟨by decide +kernel, rfl⟩
theorem dd_PJ_at_14 : pj_d cX10_at 14 (.invokevirtual 183) 3 17 := ⟨by decide +kernel, rfl⟩
theorem dd_PJ_at_17 : pj_dj cX10_at 17 (.if_icmp .lt 5) 5 20 22 := ⟨by decide +kernel, rfl, by decide⟩
theorem dd_PJ_at_20 : pj_d cX10_at 20 (.iconst (-1)) 1 21 := ⟨by decide +kernel, rfl⟩
theorem dd_PJ_at_21 : pj_d cX10_at 21 (.ireturn) 1 22 := ⟨by decide +kernel, rfl⟩
theorem dd_PJ_at_22 : pj_d cX10_at 22 (.iload_n 2) 1 23 := ⟨by decide +kernel, rfl⟩
theorem dd_PJ_at_23 : pj_d cX10_at 23 (.tableswitch 74 0 3 #[29, 35, 44, 59]) 29 52 := ⟨by decide +kernel, rfl⟩
theorem dd_PJ_at_52 : pj_d cX10_at 52 (.aload_n 3) 1 53 := ⟨by decide +kernel, rfl⟩
theorem dd_PJ_at_53 : pj_d cX10_at 53 (.iload_n 1) 1 54 := ⟨by decide +kernel, rfl⟩
theorem dd_PJ_at_54 : pj_d cX10_at 54 (.invokevirtual 186) 3 57 := ⟨by decide +kernel, rfl⟩
theorem dd_PJ_at_57 : pj_d cX10_at 57 (.ireturn) 1 58 := ⟨by decide +kernel, rfl⟩
theorem dd_PJ_at_58 : pj_d cX10_at 58 (.aload_n 3) 1 59 := ⟨by decide +kernel, rfl⟩
theorem dd_PJ_at_59 : pj_d cX10_at 59 (.getfield 92) 3 62 := ⟨by decide +kernel, rfl⟩
theorem dd_PJ_at_62 : pj_d cX10_at 62 (.iload_n 1) 1 63 := ⟨by decide +kernel, rfl⟩
theorem dd_PJ_at_63 : pj_d cX10_at 63 (.invokestatic 158) 3 66 := ⟨by decide +kernel, rfl⟩
theorem dd_PJ_at_66 : pj_d cX10_at 66 (.ireturn) 1 67 := ⟨by decide +kernel, rfl⟩
theorem dd_PJ_at_67 : pj_d cX10_at 67 (.aload_n 3) 1 68 := ⟨by decide +kernel, rfl⟩
theorem dd_PJ_at_68 : pj_d cX10_at 68 (.iload_n 1) 1 69 := ⟨by decide +kernel, rfl⟩
theorem dd_PJ_at_69 : pj_d cX10_at 69 (.iconst 0) 1 70 := ⟨by decide +kernel, rfl⟩
theorem dd_PJ_at_70 : pj_d cX10_at 70 (.invokevirtual 96) 3 73 := ⟨by decide +kernel, rfl⟩
theorem dd_PJ_at_73 : pj_dj cX10_at 73 (.ifCond .eq 7) 7 76 80 := ⟨by decide +kernel, rfl, by decide⟩
theorem dd_PJ_at_76 : pj_d cX10_at 76 (.iconst 1) 1 77 := ⟨by decide +kernel, rfl⟩
theorem dd_PJ_at_77 : pj_dj cX10_at 77 (.goto 4) 4 80 81 := ⟨by decide +kernel, rfl, by decide⟩
theorem dd_PJ_at_80 : pj_d cX10_at 80 (.iconst 0) 1 81 := ⟨by decide +kernel, rfl⟩
theorem dd_PJ_at_81 : pj_d cX10_at 81 (.ireturn) 1 82 := ⟨by decide +kernel, rfl⟩
theorem dd_PJ_at_82 : pj_d cX10_at 82 (.aload_n 3) 1 83 := ⟨by decide +kernel, rfl⟩
theorem dd_PJ_at_83 : pj_d cX10_at 83 (.iload_n 1) 1 84 := ⟨by decide +kernel, rfl⟩
theorem dd_PJ_at_84 : pj_d cX10_at 84 (.iconst 1) 1 85 := ⟨by decide +kernel, rfl⟩
theorem dd_PJ_at_85 : pj_d cX10_at 85 (.invokevirtual 96) 3 88 := ⟨by decide +kernel, rfl⟩
theorem dd_PJ_at_88 : pj_dj cX10_at 88 (.ifCond .eq 7) 7 91 95 := ⟨by decide +kernel, rfl, by decide⟩
theorem dd_PJ_at_91 : pj_d cX10_at 91 (.iconst 1) 1 92 := ⟨by decide +kernel, rfl⟩
theorem dd_PJ_at_92 : pj_dj cX10_at 92 (.goto 4) 4 95 96 := ⟨by decide +kernel, rfl, by decide⟩
theorem dd_PJ_at_95 : pj_d cX10_at 95 (.iconst 0) 1 96 := ⟨by decide +kernel, rfl⟩
theorem dd_PJ_at_96 : pj_d cX10_at 96 (.ireturn) 1 97 := ⟨by decide +kernel, rfl⟩
theorem dd_PJ_at_97 : pj_d cX10_at 97 (.iconst (-1)) 1 98 := ⟨by decide +kernel, rfl⟩
theorem dd_PJ_at_98 : pj_d cX10_at 98 (.ireturn) 1 99 := ⟨by decide +kernel, rfl⟩
set_option maxHeartbeats 4000000 in
set_option maxRecDepth 100000 in
theorem ct_PJ_at {l : Launch} {B : pj_B} (hB : B.2.2.2.1 = pj_LC) {v1 : Int32} {v2 : Int32} {z : pj_S} {r0 : Int32} {z0 : pj_S} (h : PJ_at v1 v2 z = some (r0, z0)) : pj_Mi l yX10_at cX10_at 4 (some .int) 3 [.ref (B.2.1 0), .int v1, .int v2] B z r0 z0 := by
  refine pj_meti (own := RX10) (by decide +kernel) rfl (Nat.le_of_ble_eq_true rfl) ?_
  intro A K hK C Q H lo ls P hl
  have hl : lv_has ls 4 [(0, .ref (B.2.1 0)), (1, .int v1), (2, .int v2)] := hl
  unfold PJ_at at h
  refine pj_aload_n C dd_PJ_at_0 rfl hl 0 rfl ?_
  refine pj_getR C P 0 (LC0 hB) rfl fl_PJ_10 dd_PJ_at_1 ?_
  refine pj_getR C P 1 (LC1 hB) rfl fl_PJ_65 dd_PJ_at_4 ?_
  refine pj_astore_n [(3, .ref (B.2.1 8)), (0, .ref (B.2.1 0)), (1, .int v1), (2, .int v2)] C dd_PJ_at_7 rfl hl (by decide) rfl (fun ls hl => ?_)
  refine pj_iload_n C dd_PJ_at_8 rfl hl 2 rfl ?_
  refine pj_if_lt C h dd_PJ_at_9 (fun h => ?_) (fun h => ?_)
  · refine pj_iconst (v := (-1 : Int32)) C dd_PJ_at_20 rfl ?_
    exact pj_iret C Q P h dd_PJ_at_21
  · refine pj_iload_n C dd_PJ_at_12 rfl hl 2 rfl ?_
    refine pj_aload_n C dd_PJ_at_13 rfl hl 0 rfl ?_
    obtain ⟨r3, z2, e1, h⟩ := pj_cE h
    refine pj_cVi (st := [.int v1]) [] C P 8 (LC8 hB) rfl (ct_Fabric_places hB e1) cl_PJ_183 rfl (by decide) (by decide) hl.1 (Nat.le_of_ble_eq_true rfl) dd_PJ_at_14 (fun H lo P => ?_)
    refine pj_ic_lt C h dd_PJ_at_17 (fun h => ?_) (fun h => ?_)
    · refine pj_iload_n C dd_PJ_at_22 rfl hl 3 rfl ?_
      refine pj_sw h (fun c0 h => ?_) (fun c0 h => ?_)
      · refine pj_swI (nI 0) (29) 52 C dd_PJ_at_23 c0 (by decide) ?_
        refine pj_aload_n C dd_PJ_at_52 rfl hl 0 rfl ?_
        refine pj_iload_n C dd_PJ_at_53 rfl hl 2 rfl ?_
        obtain ⟨r6, z5, e4, h⟩ := pj_cE h
        refine pj_cVi (st := []) [.int v1] C P 8 (LC8 hB) rfl (ct_Fabric_stitchAt hB e4) cl_PJ_186 rfl (by decide) (by decide) hl.1 (Nat.le_of_ble_eq_true rfl) dd_PJ_at_54 (fun H lo P => ?_)
        exact pj_iret C Q P h dd_PJ_at_57
      refine pj_sw h (fun c1 h => ?_) (fun c1 h => ?_)
      · refine pj_swI (nI 1) (35) 58 C dd_PJ_at_23 c1 (by decide) ?_
        refine pj_aload_n C dd_PJ_at_58 rfl hl 0 rfl ?_
        refine pj_getJ C P 8 (LC8 hB) rfl fl_PJ_92 dd_PJ_at_59 ?_
        refine pj_iload_n C dd_PJ_at_62 rfl hl 2 rfl ?_
        obtain ⟨r9, z8, e7, h⟩ := pj_cE h
        refine pj_cSi (st := []) [.long (z2.2 8 9), .int v1] C P (ct_PJ_bitOf hB e7) cl_PJ_158 rfl (by decide) (by decide) hl.1 (Nat.le_of_ble_eq_true rfl) dd_PJ_at_63 (fun H lo P => ?_)
        exact pj_iret C Q P h dd_PJ_at_66
      refine pj_sw h (fun c2 h => ?_) (fun c2 h => ?_)
      · refine pj_swI (nI 2) (44) 67 C dd_PJ_at_23 c2 (by decide) ?_
        refine pj_aload_n C dd_PJ_at_67 rfl hl 0 rfl ?_
        refine pj_iload_n C dd_PJ_at_68 rfl hl 2 rfl ?_
        refine pj_iconst (v := (nI 0)) C dd_PJ_at_69 rfl ?_
        obtain ⟨r12, z11, e10, h⟩ := pj_cE h
        refine pj_cVi (st := []) [.int v1, .int (nI 0)] C P 8 (LC8 hB) rfl (ct_Fabric_isEnd hB e10) cl_PJ_96 rfl (by decide) (by decide) hl.1 (Nat.le_of_ble_eq_true rfl) dd_PJ_at_70 (fun H lo P => ?_)
        refine pj_if_eq C h dd_PJ_at_73 (fun h => ?_) (fun h => ?_)
        · refine pj_iconst (v := (nI 0)) C dd_PJ_at_80 rfl ?_
          exact pj_iret C Q P h dd_PJ_at_81
        · refine pj_iconst (v := (nI 1)) C dd_PJ_at_76 rfl ?_
          refine pj_goto C dd_PJ_at_77 ?_
          exact pj_iret C Q P h dd_PJ_at_81
      refine pj_sw h (fun c3 h => ?_) (fun c3 h => ?_)
      · refine pj_swI (nI 3) (59) 82 C dd_PJ_at_23 c3 (by decide) ?_
        refine pj_aload_n C dd_PJ_at_82 rfl hl 0 rfl ?_
        refine pj_iload_n C dd_PJ_at_83 rfl hl 2 rfl ?_
        refine pj_iconst (v := (nI 1)) C dd_PJ_at_84 rfl ?_
        obtain ⟨r15, z14, e13, h⟩ := pj_cE h
        refine pj_cVi (st := []) [.int v1, .int (nI 1)] C P 8 (LC8 hB) rfl (ct_Fabric_isEnd hB e13) cl_PJ_96 rfl (by decide) (by decide) hl.1 (Nat.le_of_ble_eq_true rfl) dd_PJ_at_85 (fun H lo P => ?_)
        refine pj_if_eq C h dd_PJ_at_88 (fun h => ?_) (fun h => ?_)
        · refine pj_iconst (v := (nI 0)) C dd_PJ_at_95 rfl ?_
          exact pj_iret C Q P h dd_PJ_at_96
        · refine pj_iconst (v := (nI 1)) C dd_PJ_at_91 rfl ?_
          refine pj_goto C dd_PJ_at_92 ?_
          exact pj_iret C Q P h dd_PJ_at_96
      have u0 := pj_nI c0 (n := 0) (by decide)
      have u1 := pj_nI c1 (n := 1) (by decide)
      have u2 := pj_nI c2 (n := 2) (by decide)
      have u3 := pj_nI c3 (n := 3) (by decide)
      refine pj_swO 97 C dd_PJ_at_23 (by omega) (by decide) ?_
      refine pj_iconst (v := (-1 : Int32)) C dd_PJ_at_97 rfl ?_
      exact pj_iret C Q P h dd_PJ_at_98
    · refine pj_iconst (v := (-1 : Int32)) C dd_PJ_at_20 rfl ?_
      exact pj_iret C Q P h dd_PJ_at_21
theorem dd_Wool_lengthOf_0 : pj_d cX9_lengthOf 0 (.iload_n 1) 1 1 := ⟨by decide +kernel, rfl⟩
theorem dd_Wool_lengthOf_1 : pj_dj cX9_lengthOf 1 (.ifCond .lt 26) 26 4 27 := ⟨by decide +kernel, rfl, by decide⟩
theorem dd_Wool_lengthOf_4 : pj_d cX9_lengthOf 4 (.iload_n 1) 1 5 := ⟨by decide +kernel, rfl⟩
theorem dd_Wool_lengthOf_5 : pj_d cX9_lengthOf 5 (.aload_n 0) 1 6 := ⟨by decide +kernel, rfl⟩
theorem dd_Wool_lengthOf_6 : pj_d cX9_lengthOf 6 (.getfield 21) 3 9 := ⟨by decide +kernel, rfl⟩
theorem dd_Wool_lengthOf_9 : pj_dj cX9_lengthOf 9 (.if_icmp .ge 18) 18 12 27 := ⟨by decide +kernel, rfl, by decide⟩
theorem dd_Wool_lengthOf_12 : pj_d cX9_lengthOf 12 (.iload_n 1) 1 13 := ⟨by decide +kernel, rfl⟩
theorem dd_Wool_lengthOf_13 : pj_d cX9_lengthOf 13 (.bipush 20) 2 15 := ⟨by decide +kernel, rfl⟩
theorem dd_Wool_lengthOf_15 : pj_dj cX9_lengthOf 15 (.if_icmp .ge 12) 12 18 27 := ⟨by decide +kernel, rfl, by decide⟩
theorem dd_Wool_lengthOf_18 : pj_d cX9_lengthOf 18 (.aload_n 0) 1 19 := ⟨by decide +kernel, rfl⟩
theorem dd_Wool_lengthOf_19 : pj_d cX9_lengthOf 19 (.getfield 9) 3 22 := ⟨by decide +kernel, rfl⟩
theorem dd_Wool_lengthOf_22 : pj_d cX9_lengthOf 22 (.iload_n 1) 1 23 := ⟨by decide +kernel, rfl⟩
theorem dd_Wool_lengthOf_23 : pj_d cX9_lengthOf 23 (.iaload) 1 24 := ⟨by decide +kernel, rfl⟩
theorem dd_Wool_lengthOf_24 : pj_dj cX9_lengthOf 24 (.goto 4) 4 27 28 := ⟨by decide +kernel, rfl, by decide⟩
theorem dd_Wool_lengthOf_27 : pj_d cX9_lengthOf 27 (.iconst (-1)) 1 28 := ⟨by decide +kernel, rfl⟩
theorem dd_Wool_lengthOf_28 : pj_d cX9_lengthOf 28 (.ireturn) 1 29 := ⟨by decide +kernel, rfl⟩
set_option maxHeartbeats 4000000 in
set_option maxRecDepth 100000 in
theorem ct_Wool_lengthOf {l : Launch} {B : pj_B} (hB : B.2.2.2.1 = pj_LC) {v1 : Int32} {z : pj_S} {r0 : Int32} {z0 : pj_S} (h : Wool_lengthOf v1 z = some (r0, z0)) : pj_Mi l yX9_lengthOf cX9_lengthOf 2 (some .int) 1 [.ref (B.2.1 11), .int v1] B z r0 z0 := by
  refine pj_meti (own := RX9) (by decide +kernel) rfl (Nat.le_of_ble_eq_true rfl) ?_
  intro A K hK C Q H lo ls P hl
  have hl : lv_has ls 2 [(0, .ref (B.2.1 11)), (1, .int v1)] := hl
  unfold Wool_lengthOf at h
  refine pj_iload_n C dd_Wool_lengthOf_0 rfl hl 1 rfl ?_
  refine pj_if_lt C h dd_Wool_lengthOf_1 (fun h => ?_) (fun h => ?_)
  · refine pj_iconst (v := (-1 : Int32)) C dd_Wool_lengthOf_27 rfl ?_
    exact pj_iret C Q P h dd_Wool_lengthOf_28
  · refine pj_iload_n C dd_Wool_lengthOf_4 rfl hl 1 rfl ?_
    refine pj_aload_n C dd_Wool_lengthOf_5 rfl hl 0 rfl ?_
    refine pj_getI C P 11 (LC11 hB) rfl fl_Wool_21 dd_Wool_lengthOf_6 ?_
    refine pj_ic_ge C h dd_Wool_lengthOf_9 (fun h => ?_) (fun h => ?_)
    · refine pj_iconst (v := (-1 : Int32)) C dd_Wool_lengthOf_27 rfl ?_
      exact pj_iret C Q P h dd_Wool_lengthOf_28
    · refine pj_iload_n C dd_Wool_lengthOf_12 rfl hl 1 rfl ?_
      refine pj_bipush (v := (nI 20)) C dd_Wool_lengthOf_13 rfl ?_
      refine pj_ic_ge C h dd_Wool_lengthOf_15 (fun h => ?_) (fun h => ?_)
      · refine pj_iconst (v := (-1 : Int32)) C dd_Wool_lengthOf_27 rfl ?_
        exact pj_iret C Q P h dd_Wool_lengthOf_28
      · refine pj_aload_n C dd_Wool_lengthOf_18 rfl hl 0 rfl ?_
        refine pj_getR C P 11 (LC11 hB) rfl fl_Wool_9 dd_Wool_lengthOf_19 ?_
        refine pj_iload_n C dd_Wool_lengthOf_22 rfl hl 1 rfl ?_
        refine pj_iald C P 34 (LC34 hB) h dd_Wool_lengthOf_23 (fun h => ?_)
        refine pj_goto C dd_Wool_lengthOf_24 ?_
        exact pj_iret C Q P h dd_Wool_lengthOf_28
theorem dd_PJ_wound_0 : pj_d cX10_wound 0 (.aload_n 0) 1 1 := ⟨by decide +kernel, rfl⟩
theorem dd_PJ_wound_1 : pj_d cX10_wound 1 (.getfield 10) 3 4 := ⟨by decide +kernel, rfl⟩
theorem dd_PJ_wound_4 : pj_d cX10_wound 4 (.getfield 189) 3 7 := ⟨by decide +kernel, rfl⟩
theorem dd_PJ_wound_7 : pj_d cX10_wound 7 (.iload_n 1) 1 8 := ⟨by decide +kernel, rfl⟩
theorem dd_PJ_wound_8 : pj_d cX10_wound 8 (.invokevirtual 193) 3 11 := ⟨by decide +kernel, rfl⟩
theorem dd_PJ_wound_11 : pj_d cX10_wound 11 (.ireturn) 1 12 := ⟨by decide +kernel, rfl⟩
set_option maxHeartbeats 4000000 in
set_option maxRecDepth 100000 in
theorem ct_PJ_wound {l : Launch} {B : pj_B} (hB : B.2.2.2.1 = pj_LC) {v1 : Int32} {z : pj_S} {r0 : Int32} {z0 : pj_S} (h : PJ_wound v1 z = some (r0, z0)) : pj_Mi l yX10_wound cX10_wound 2 (some .int) 2 [.ref (B.2.1 0), .int v1] B z r0 z0 := by
  refine pj_meti (own := RX10) (by decide +kernel) rfl (Nat.le_of_ble_eq_true rfl) ?_
  intro A K hK C Q H lo ls P hl
  have hl : lv_has ls 2 [(0, .ref (B.2.1 0)), (1, .int v1)] := hl
  unfold PJ_wound at h
  refine pj_aload_n C dd_PJ_wound_0 rfl hl 0 rfl ?_
  refine pj_getR C P 0 (LC0 hB) rfl fl_PJ_10 dd_PJ_wound_1 ?_
  refine pj_getR C P 1 (LC1 hB) rfl fl_PJ_189 dd_PJ_wound_4 ?_
  refine pj_iload_n C dd_PJ_wound_7 rfl hl 1 rfl ?_
  obtain ⟨r3, z2, e1, h⟩ := pj_cE h
  refine pj_cVi (st := []) [.int v1] C P 11 (LC11 hB) rfl (ct_Wool_lengthOf hB e1) cl_PJ_193 rfl (by decide) (by decide) hl.1 (Nat.le_of_ble_eq_true rfl) dd_PJ_wound_8 (fun H lo P => ?_)
  exact pj_iret C Q P h dd_PJ_wound_11
theorem dd_Book_read_0 : pj_d cX0_read 0 (.iload_n 1) 1 1 := ⟨by decide +kernel, rfl⟩
theorem dd_Book_read_1 : pj_dj cX0_read 1 (.ifCond .lt 17) 17 4 18 := ⟨by decide +kernel, rfl, by decide⟩
theorem dd_Book_read_4 : pj_d cX0_read 4 (.iload_n 1) 1 5 := ⟨by decide +kernel, rfl⟩
theorem dd_Book_read_5 : pj_d cX0_read 5 (.aload_n 0) 1 6 := ⟨by decide +kernel, rfl⟩
theorem dd_Book_read_6 : pj_d cX0_read 6 (.getfield 27) 3 9 := ⟨by decide +kernel, rfl⟩
theorem dd_Book_read_9 : pj_dj cX0_read 9 (.if_icmp .ge 9) 9 12 18 := ⟨by decide +kernel, rfl, by decide⟩
theorem dd_Book_read_12 : pj_d cX0_read 12 (.iload_n 1) 1 13 := ⟨by decide +kernel, rfl⟩
theorem dd_Book_read_13 : pj_d cX0_read 13 (.bipush 100) 2 15 := ⟨by decide +kernel, rfl⟩
theorem dd_Book_read_15 : pj_dj cX0_read 15 (.if_icmp .lt 5) 5 18 20 := ⟨by decide +kernel, rfl, by decide⟩
theorem dd_Book_read_18 : pj_d cX0_read 18 (.iconst (-1)) 1 19 := ⟨by decide +kernel, rfl⟩
theorem dd_Book_read_19 : pj_d cX0_read 19 (.ireturn) 1 20 := ⟨by decide +kernel, rfl⟩
theorem dd_Book_read_20 : pj_d cX0_read 20 (.iload_n 2) 1 21 := ⟨by decide +kernel, rfl⟩
theorem dd_Book_read_21 : pj_d cX0_read 21 (.tableswitch 48 0 2 #[27, 34, 41]) 27 48 := ⟨by decide +kernel, rfl⟩
theorem dd_Book_read_48 : pj_d cX0_read 48 (.aload_n 0) 1 49 := ⟨by decide +kernel, rfl⟩
theorem dd_Book_read_49 : pj_d cX0_read 49 (.getfield 9) 3 52 := ⟨by decide +kernel, rfl⟩
theorem dd_Book_read_52 : pj_d cX0_read 52 (.iload_n 1) 1 53 := ⟨by decide +kernel, rfl⟩
theorem dd_Book_read_53 : pj_d cX0_read 53 (.iaload) 1 54 := ⟨by decide +kernel, rfl⟩
theorem dd_Book_read_54 : pj_d cX0_read 54 (.ireturn) 1 55 := ⟨by decide +kernel, rfl⟩
theorem dd_Book_read_55 : pj_d cX0_read 55 (.aload_n 0) 1 56 := ⟨by decide +kernel, rfl⟩
theorem dd_Book_read_56 : pj_d cX0_read 56 (.getfield 15) 3 59 := ⟨by decide +kernel, rfl⟩
theorem dd_Book_read_59 : pj_d cX0_read 59 (.iload_n 1) 1 60 := ⟨by decide +kernel, rfl⟩
theorem dd_Book_read_60 : pj_d cX0_read 60 (.iaload) 1 61 := ⟨by decide +kernel, rfl⟩
theorem dd_Book_read_61 : pj_d cX0_read 61 (.ireturn) 1 62 := ⟨by decide +kernel, rfl⟩
theorem dd_Book_read_62 : pj_d cX0_read 62 (.aload_n 0) 1 63 := ⟨by decide +kernel, rfl⟩
theorem dd_Book_read_63 : pj_d cX0_read 63 (.getfield 18) 3 66 := ⟨by decide +kernel, rfl⟩
theorem dd_Book_read_66 : pj_d cX0_read 66 (.iload_n 1) 1 67 := ⟨by decide +kernel, rfl⟩
theorem dd_Book_read_67 : pj_d cX0_read 67 (.iaload) 1 68 := ⟨by decide +kernel, rfl⟩
theorem dd_Book_read_68 : pj_d cX0_read 68 (.ireturn) 1 69 := ⟨by decide +kernel, rfl⟩
theorem dd_Book_read_69 : pj_d cX0_read 69 (.iconst (-1)) 1 70 := ⟨by decide +kernel, rfl⟩
theorem dd_Book_read_70 : pj_d cX0_read 70 (.ireturn) 1 71 := ⟨by decide +kernel, rfl⟩
set_option maxHeartbeats 4000000 in
set_option maxRecDepth 100000 in
theorem ct_Book_read {l : Launch} {B : pj_B} (hB : B.2.2.2.1 = pj_LC) {v1 : Int32} {v2 : Int32} {z : pj_S} {r0 : Int32} {z0 : pj_S} (h : Book_read v1 v2 z = some (r0, z0)) : pj_Mi l yX0_read cX0_read 3 (some .int) 1 [.ref (B.2.1 10), .int v1, .int v2] B z r0 z0 := by
  refine pj_meti (own := RX0) (by decide +kernel) rfl (Nat.le_of_ble_eq_true rfl) ?_
  intro A K hK C Q H lo ls P hl
  have hl : lv_has ls 3 [(0, .ref (B.2.1 10)), (1, .int v1), (2, .int v2)] := hl
  unfold Book_read at h
  refine pj_iload_n C dd_Book_read_0 rfl hl 1 rfl ?_
  refine pj_if_lt C h dd_Book_read_1 (fun h => ?_) (fun h => ?_)
  · refine pj_iconst (v := (-1 : Int32)) C dd_Book_read_18 rfl ?_
    exact pj_iret C Q P h dd_Book_read_19
  · refine pj_iload_n C dd_Book_read_4 rfl hl 1 rfl ?_
    refine pj_aload_n C dd_Book_read_5 rfl hl 0 rfl ?_
    refine pj_getI C P 10 (LC10 hB) rfl fl_Book_27 dd_Book_read_6 ?_
    refine pj_ic_ge C h dd_Book_read_9 (fun h => ?_) (fun h => ?_)
    · refine pj_iconst (v := (-1 : Int32)) C dd_Book_read_18 rfl ?_
      exact pj_iret C Q P h dd_Book_read_19
    · refine pj_iload_n C dd_Book_read_12 rfl hl 1 rfl ?_
      refine pj_bipush (v := (nI 100)) C dd_Book_read_13 rfl ?_
      refine pj_ic_lt C h dd_Book_read_15 (fun h => ?_) (fun h => ?_)
      · refine pj_iload_n C dd_Book_read_20 rfl hl 2 rfl ?_
        refine pj_sw h (fun c0 h => ?_) (fun c0 h => ?_)
        · refine pj_swI (nI 0) (27) 48 C dd_Book_read_21 c0 (by decide) ?_
          refine pj_aload_n C dd_Book_read_48 rfl hl 0 rfl ?_
          refine pj_getR C P 10 (LC10 hB) rfl fl_Book_9 dd_Book_read_49 ?_
          refine pj_iload_n C dd_Book_read_52 rfl hl 1 rfl ?_
          refine pj_iald C P 31 (LC31 hB) h dd_Book_read_53 (fun h => ?_)
          exact pj_iret C Q P h dd_Book_read_54
        refine pj_sw h (fun c1 h => ?_) (fun c1 h => ?_)
        · refine pj_swI (nI 1) (34) 55 C dd_Book_read_21 c1 (by decide) ?_
          refine pj_aload_n C dd_Book_read_55 rfl hl 0 rfl ?_
          refine pj_getR C P 10 (LC10 hB) rfl fl_Book_15 dd_Book_read_56 ?_
          refine pj_iload_n C dd_Book_read_59 rfl hl 1 rfl ?_
          refine pj_iald C P 32 (LC32 hB) h dd_Book_read_60 (fun h => ?_)
          exact pj_iret C Q P h dd_Book_read_61
        refine pj_sw h (fun c2 h => ?_) (fun c2 h => ?_)
        · refine pj_swI (nI 2) (41) 62 C dd_Book_read_21 c2 (by decide) ?_
          refine pj_aload_n C dd_Book_read_62 rfl hl 0 rfl ?_
          refine pj_getR C P 10 (LC10 hB) rfl fl_Book_18 dd_Book_read_63 ?_
          refine pj_iload_n C dd_Book_read_66 rfl hl 1 rfl ?_
          refine pj_iald C P 33 (LC33 hB) h dd_Book_read_67 (fun h => ?_)
          exact pj_iret C Q P h dd_Book_read_68
        have u0 := pj_nI c0 (n := 0) (by decide)
        have u1 := pj_nI c1 (n := 1) (by decide)
        have u2 := pj_nI c2 (n := 2) (by decide)
        refine pj_swO 69 C dd_Book_read_21 (by omega) (by decide) ?_
        refine pj_iconst (v := (-1 : Int32)) C dd_Book_read_69 rfl ?_
        exact pj_iret C Q P h dd_Book_read_70
      · refine pj_iconst (v := (-1 : Int32)) C dd_Book_read_18 rfl ?_
        exact pj_iret C Q P h dd_Book_read_19
theorem dd_PJ_book_0 : pj_d cX10_book 0 (.aload_n 0) 1 1 := ⟨by decide +kernel, rfl⟩
theorem dd_PJ_book_1 : pj_d cX10_book 1 (.getfield 10) 3 4 := ⟨by decide +kernel, rfl⟩
theorem dd_PJ_book_4 : pj_d cX10_book 4 (.getfield 198) 3 7 := ⟨by decide +kernel, rfl⟩
theorem dd_PJ_book_7 : pj_d cX10_book 7 (.iload_n 1) 1 8 := ⟨by decide +kernel, rfl⟩
theorem dd_PJ_book_8 : pj_d cX10_book 8 (.iload_n 2) 1 9 := ⟨by decide +kernel, rfl⟩
theorem dd_PJ_book_9 : pj_d cX10_book 9 (.invokevirtual 202) 3 12 := ⟨by decide +kernel, rfl⟩
theorem dd_PJ_book_12 : pj_d cX10_book 12 (.ireturn) 1 13 := ⟨by decide +kernel, rfl⟩
set_option maxHeartbeats 4000000 in
set_option maxRecDepth 100000 in
theorem ct_PJ_book {l : Launch} {B : pj_B} (hB : B.2.2.2.1 = pj_LC) {v1 : Int32} {v2 : Int32} {z : pj_S} {r0 : Int32} {z0 : pj_S} (h : PJ_book v1 v2 z = some (r0, z0)) : pj_Mi l yX10_book cX10_book 3 (some .int) 2 [.ref (B.2.1 0), .int v1, .int v2] B z r0 z0 := by
  refine pj_meti (own := RX10) (by decide +kernel) rfl (Nat.le_of_ble_eq_true rfl) ?_
  intro A K hK C Q H lo ls P hl
  have hl : lv_has ls 3 [(0, .ref (B.2.1 0)), (1, .int v1), (2, .int v2)] := hl
  unfold PJ_book at h
  refine pj_aload_n C dd_PJ_book_0 rfl hl 0 rfl ?_
  refine pj_getR C P 0 (LC0 hB) rfl fl_PJ_10 dd_PJ_book_1 ?_
  refine pj_getR C P 1 (LC1 hB) rfl fl_PJ_198 dd_PJ_book_4 ?_
  refine pj_iload_n C dd_PJ_book_7 rfl hl 1 rfl ?_
  refine pj_iload_n C dd_PJ_book_8 rfl hl 2 rfl ?_
  obtain ⟨r3, z2, e1, h⟩ := pj_cE h
  refine pj_cVi (st := []) [.int v1, .int v2] C P 10 (LC10 hB) rfl (ct_Book_read hB e1) cl_PJ_202 rfl (by decide) (by decide) hl.1 (Nat.le_of_ble_eq_true rfl) dd_PJ_book_9 (fun H lo P => ?_)
  exact pj_iret C Q P h dd_PJ_book_12
theorem dd_Fabric_inTheEnd_0 : pj_d cX1_inTheEnd 0 (.lload_n 1) 1 1 := ⟨by decide +kernel, rfl⟩
theorem dd_Fabric_inTheEnd_1 : pj_d cX1_inTheEnd 1 (.lstore 5) 2 3 := ⟨by decide +kernel, rfl⟩
theorem dd_Fabric_inTheEnd_3 : pj_d cX1_inTheEnd 3 (.iconst 0) 1 4 := ⟨by decide +kernel, rfl⟩
theorem dd_Fabric_inTheEnd_4 : pj_d cX1_inTheEnd 4 (.istore 7) 2 6 := ⟨by decide +kernel, rfl⟩
theorem dd_Fabric_inTheEnd_6 : pj_d cX1_inTheEnd 6 (.iload 7) 2 8 := ⟨by decide +kernel, rfl⟩
theorem dd_Fabric_inTheEnd_8 : pj_d cX1_inTheEnd 8 (.aload_n 0) 1 9 := ⟨by decide +kernel, rfl⟩
theorem dd_Fabric_inTheEnd_9 : pj_d cX1_inTheEnd 9 (.getfield 15) 3 12 := ⟨by decide +kernel, rfl⟩
theorem dd_Fabric_inTheEnd_12 : pj_dj cX1_inTheEnd 12 (.if_icmp .ge 33) 33 15 45 := ⟨by decide +kernel, rfl, by decide⟩
theorem dd_Fabric_inTheEnd_15 : pj_d cX1_inTheEnd 15 (.aload_n 0) 1 16 := ⟨by decide +kernel, rfl⟩
theorem dd_Fabric_inTheEnd_16 : pj_d cX1_inTheEnd 16 (.lload 5) 2 18 := ⟨by decide +kernel, rfl⟩
theorem dd_Fabric_inTheEnd_18 : pj_d cX1_inTheEnd 18 (.lload_n 3) 1 19 := ⟨by decide +kernel, rfl⟩
theorem dd_Fabric_inTheEnd_19 : pj_d cX1_inTheEnd 19 (.invokevirtual 66) 3 22 := ⟨by decide +kernel, rfl⟩
theorem dd_Fabric_inTheEnd_22 : pj_d cX1_inTheEnd 22 (.lstore 8) 2 24 := ⟨by decide +kernel, rfl⟩
theorem dd_Fabric_inTheEnd_24 : pj_d cX1_inTheEnd 24 (.lload 8) 2 26 := ⟨by decide +kernel, rfl⟩
theorem dd_Fabric_inTheEnd_26 : pj_d cX1_inTheEnd 26 (.lload 5) 2 28 := ⟨by decide +kernel, rfl⟩
theorem dd_Fabric_inTheEnd_28 : pj_d cX1_inTheEnd 28 (.lcmp) 1 29 := ⟨by decide +kernel, rfl⟩
theorem dd_Fabric_inTheEnd_29 : pj_dj cX1_inTheEnd 29 (.ifCond .ne 6) 6 32 35 := ⟨by decide +kernel, rfl, by decide⟩
theorem dd_Fabric_inTheEnd_32 : pj_d cX1_inTheEnd 32 (.lload 5) 2 34 := ⟨by decide +kernel, rfl⟩
theorem dd_Fabric_inTheEnd_34 : pj_d cX1_inTheEnd 34 (.lreturn) 1 35 := ⟨by decide +kernel, rfl⟩
theorem dd_Fabric_inTheEnd_35 : pj_d cX1_inTheEnd 35 (.lload 8) 2 37 := ⟨by decide +kernel, rfl⟩
theorem dd_Fabric_inTheEnd_37 : pj_d cX1_inTheEnd 37 (.lstore 5) 2 39 := ⟨by decide +kernel, rfl⟩
theorem dd_Fabric_inTheEnd_39 : pj_d cX1_inTheEnd 39 (.iinc 7 1) 3 42 := ⟨by decide +kernel, rfl⟩
theorem dd_Fabric_inTheEnd_42 : pj_dj cX1_inTheEnd 42 (.goto (-36)) (-36) 45 6 := ⟨by decide +kernel, rfl, by decide⟩
theorem dd_Fabric_inTheEnd_45 : pj_d cX1_inTheEnd 45 (.lload 5) 2 47 := ⟨by decide +kernel, rfl⟩
theorem dd_Fabric_inTheEnd_47 : pj_d cX1_inTheEnd 47 (.lreturn) 1 48 := ⟨by decide +kernel, rfl⟩
set_option maxHeartbeats 4000000 in
set_option maxRecDepth 100000 in
theorem bt_Fabric_inTheEnd_32 {B : pj_B} {A : Nat → Prop} {K : pj_K} {r0 : Int64} {z0 : pj_S} (hB : B.2.2.2.1 = pj_LC) (C : pj_C B A K cX1_inTheEnd 10 RX1 3) (Q : pj_Ql B A K (some .long) r0 z0)  (v5 : Int64) (z : pj_S) (H : Heap) (lo : List Loc) (ls : Array Slot) (h : Fabric_inTheEnd_32 v5 z = some (r0, z0)) (P : pj_P B A K z H lo) (hl : lv_has ls 10 [(5, .long v5)]) : pj_W K H lo 32 ls [] := by
  unfold Fabric_inTheEnd_32 at h
  refine pj_lload C dd_Fabric_inTheEnd_32 hl 0 rfl ?_
  exact pj_lret C Q P h dd_Fabric_inTheEnd_34
set_option maxHeartbeats 4000000 in
set_option maxRecDepth 100000 in
theorem bt_Fabric_inTheEnd_45 {B : pj_B} {A : Nat → Prop} {K : pj_K} {r0 : Int64} {z0 : pj_S} (hB : B.2.2.2.1 = pj_LC) (C : pj_C B A K cX1_inTheEnd 10 RX1 3) (Q : pj_Ql B A K (some .long) r0 z0)  (v5 : Int64) (z : pj_S) (H : Heap) (lo : List Loc) (ls : Array Slot) (h : Fabric_inTheEnd_45 v5 z = some (r0, z0)) (P : pj_P B A K z H lo) (hl : lv_has ls 10 [(5, .long v5)]) : pj_W K H lo 45 ls [] := by
  unfold Fabric_inTheEnd_45 at h
  refine pj_lload C dd_Fabric_inTheEnd_45 hl 0 rfl ?_
  exact pj_lret C Q P h dd_Fabric_inTheEnd_47
set_option maxHeartbeats 4000000 in
set_option maxRecDepth 100000 in
theorem bt_Fabric_inTheEnd_6 {B : pj_B} {A : Nat → Prop} {K : pj_K} {r0 : Int64} {z0 : pj_S} (hB : B.2.2.2.1 = pj_LC) (C : pj_C B A K cX1_inTheEnd 10 RX1 3) (Q : pj_Ql B A K (some .long) r0 z0) (s6 : Int64 → Int64 → Int32 → pj_S → Option (Int64 × pj_S)) (k6 : ∀ (v3 : Int64) (v5 : Int64) (v7 : Int32) (z : pj_S) (H : Heap) (lo : List Loc) (ls : Array Slot), s6 v3 v5 v7 z = some (r0, z0) → pj_P B A K z H lo → lv_has ls 10 [(0, .ref (B.2.1 8)), (3, .long v3), (5, .long v5), (7, .int v7)] → pj_W K H lo 6 ls []) (v3 : Int64) (v5 : Int64) (v7 : Int32) (z : pj_S) (H : Heap) (lo : List Loc) (ls : Array Slot) (h : Fabric_inTheEnd_6 s6 v3 v5 v7 z = some (r0, z0)) (P : pj_P B A K z H lo) (hl : lv_has ls 10 [(0, .ref (B.2.1 8)), (3, .long v3), (5, .long v5), (7, .int v7)]) : pj_W K H lo 6 ls [] := by
  unfold Fabric_inTheEnd_6 at h
  refine pj_iload C dd_Fabric_inTheEnd_6 hl 3 rfl ?_
  refine pj_aload_n C dd_Fabric_inTheEnd_8 rfl hl 0 rfl ?_
  refine pj_getI C P 8 (LC8 hB) rfl fl_Fabric_15 dd_Fabric_inTheEnd_9 ?_
  refine pj_ic_ge C h dd_Fabric_inTheEnd_12 (fun h => ?_) (fun h => ?_)
  · exact bt_Fabric_inTheEnd_45 hB C Q _ _ _ _ _ h P (lv_sub hl [2] rfl)
  · refine pj_aload_n C dd_Fabric_inTheEnd_15 rfl hl 0 rfl ?_
    refine pj_lload C dd_Fabric_inTheEnd_16 hl 2 rfl ?_
    refine pj_lload_n C dd_Fabric_inTheEnd_18 rfl hl 1 rfl ?_
    obtain ⟨r3, z2, e1, h⟩ := pj_cE h
    refine pj_cVl (st := []) [.long v5, .long v3] C P 8 (LC8 hB) rfl (ct_Fabric_heldOf hB e1) cl_Fabric_66 rfl (by decide) (by decide) hl.1 (Nat.le_of_ble_eq_true rfl) dd_Fabric_inTheEnd_19 (fun H lo P => ?_)
    refine pj_lstore [(8, .long r3), (0, .ref (B.2.1 8)), (3, .long v3), (5, .long v5), (7, .int v7)] C dd_Fabric_inTheEnd_22 hl (by decide) rfl (fun ls hl => ?_)
    refine pj_lload C dd_Fabric_inTheEnd_24 hl 0 rfl ?_
    refine pj_lload C dd_Fabric_inTheEnd_26 hl 3 rfl ?_
    refine pj_lcmp C dd_Fabric_inTheEnd_28 ?_
    refine pj_if_ne C h dd_Fabric_inTheEnd_29 (fun h => ?_) (fun h => ?_)
    · refine pj_lload C dd_Fabric_inTheEnd_35 hl 0 rfl ?_
      refine pj_lstore [(5, .long r3), (8, .long r3), (0, .ref (B.2.1 8)), (3, .long v3), (7, .int v7)] C dd_Fabric_inTheEnd_37 hl (by decide) rfl (fun ls hl => ?_)
      refine pj_iinc (v := (nI 1)) [(5, .long r3), (8, .long r3), (0, .ref (B.2.1 8)), (3, .long v3)] C h rfl dd_Fabric_inTheEnd_39 hl 4 rfl (by decide) rfl (fun x4 ls h hl => ?_)
      refine pj_goto C dd_Fabric_inTheEnd_42 ?_
      exact k6 _ _ _ _ _ _ _ h P (lv_sub hl [3, 4, 1, 0] rfl)
    · exact bt_Fabric_inTheEnd_32 hB C Q _ _ _ _ _ h P (lv_sub hl [3] rfl)
theorem lt_Fabric_inTheEnd_6 {B : pj_B} {A : Nat → Prop} {K : pj_K} {r0 : Int64} {z0 : pj_S} (hB : B.2.2.2.1 = pj_LC) (C : pj_C B A K cX1_inTheEnd 10 RX1 3) (Q : pj_Ql B A K (some .long) r0 z0)  : ∀ (n : Nat) (v3 : Int64) (v5 : Int64) (v7 : Int32) (z : pj_S) (H : Heap) (lo : List Loc) (ls : Array Slot), pj_lp3 Fabric_inTheEnd_6 n v3 v5 v7 z = some (r0, z0) → pj_P B A K z H lo → lv_has ls 10 [(0, .ref (B.2.1 8)), (3, .long v3), (5, .long v5), (7, .int v7)] → pj_W K H lo 6 ls [] := by
  intro n
  induction n with
  | zero => intro v3 v5 v7 z H lo ls h; rw [pj_lp3_0] at h; cases h
  | succ n ih =>
    intro v3 v5 v7 z H lo ls h P hl
    rw [pj_lp3_s] at h
    exact bt_Fabric_inTheEnd_6 hB C Q   (pj_lp3 Fabric_inTheEnd_6 n) ih v3 v5 v7 z H lo ls h P hl
set_option maxHeartbeats 4000000 in
set_option maxRecDepth 100000 in
theorem ct_Fabric_inTheEnd {l : Launch} {B : pj_B} (hB : B.2.2.2.1 = pj_LC) {v1 : Int64} {v3 : Int64} {z : pj_S} {r0 : Int64} {z0 : pj_S} (h : Fabric_inTheEnd v1 v3 z = some (r0, z0)) : pj_Ml l yX1_inTheEnd cX1_inTheEnd 10 (some .long) 3 [.ref (B.2.1 8), .long v1, .long v3] B z r0 z0 := by
  refine pj_metl (own := RX1) (by decide +kernel) rfl (Nat.le_of_ble_eq_true rfl) ?_
  intro A K hK C Q H lo ls P hl
  have hl : lv_has ls 10 [(0, .ref (B.2.1 8)), (1, .long v1), (3, .long v3)] := hl
  unfold Fabric_inTheEnd at h
  refine pj_lload_n C dd_Fabric_inTheEnd_0 rfl hl 1 rfl ?_
  refine pj_lstore [(5, .long v1), (0, .ref (B.2.1 8)), (1, .long v1), (3, .long v3)] C dd_Fabric_inTheEnd_1 hl (by decide) rfl (fun ls hl => ?_)
  refine pj_iconst (v := (nI 0)) C dd_Fabric_inTheEnd_3 rfl ?_
  refine pj_istore [(7, .int (nI 0)), (5, .long v1), (0, .ref (B.2.1 8)), (1, .long v1), (3, .long v3)] C dd_Fabric_inTheEnd_4 hl (by decide) rfl (fun ls hl => ?_)
  exact lt_Fabric_inTheEnd_6 hB C Q 4000 _ _ _ _ _ _ _ h P (lv_sub hl [2, 4, 1, 0] rfl)
theorem dd_PJ_numberIn_0 : pj_d cX10_numberIn 0 (.iconst 0) 1 1 := ⟨by decide +kernel, rfl⟩
theorem dd_PJ_numberIn_1 : pj_d cX10_numberIn 1 (.istore_n 3) 1 2 := ⟨by decide +kernel, rfl⟩
theorem dd_PJ_numberIn_2 : pj_d cX10_numberIn 2 (.iconst 0) 1 3 := ⟨by decide +kernel, rfl⟩
theorem dd_PJ_numberIn_3 : pj_d cX10_numberIn 3 (.istore 4) 2 5 := ⟨by decide +kernel, rfl⟩
theorem dd_PJ_numberIn_5 : pj_d cX10_numberIn 5 (.iload 4) 2 7 := ⟨by decide +kernel, rfl⟩
theorem dd_PJ_numberIn_7 : pj_d cX10_numberIn 7 (.bipush 48) 2 9 := ⟨by decide +kernel, rfl⟩
theorem dd_PJ_numberIn_9 : pj_dj cX10_numberIn 9 (.if_icmp .ge 30) 30 12 39 := ⟨by decide +kernel, rfl, by decide⟩
theorem dd_PJ_numberIn_12 : pj_d cX10_numberIn 12 (.lload_n 0) 1 13 := ⟨by decide +kernel, rfl⟩
theorem dd_PJ_numberIn_13 : pj_d cX10_numberIn 13 (.iload 4) 2 15 := ⟨by decide +kernel, rfl⟩
theorem dd_PJ_numberIn_15 : pj_d cX10_numberIn 15 (.invokestatic 158) 3 18 := ⟨by decide +kernel, rfl⟩
theorem dd_PJ_numberIn_18 : pj_d cX10_numberIn 18 (.iconst 1) 1 19 := ⟨by decide +kernel, rfl⟩
theorem dd_PJ_numberIn_19 : pj_dj cX10_numberIn 19 (.if_icmp .ne 14) 14 22 33 := ⟨by decide +kernel, rfl, by decide⟩
theorem dd_PJ_numberIn_22 : pj_d cX10_numberIn 22 (.iload_n 3) 1 23 := ⟨by decide +kernel, rfl⟩
theorem dd_PJ_numberIn_23 : pj_d cX10_numberIn 23 (.iload_n 2) 1 24 := ⟨by decide +kernel, rfl⟩
theorem dd_PJ_numberIn_24 : pj_dj cX10_numberIn 24 (.if_icmp .ne 6) 6 27 30 := ⟨by decide +kernel, rfl, by decide⟩
theorem dd_PJ_numberIn_27 : pj_d cX10_numberIn 27 (.iload 4) 2 29 := ⟨by decide +kernel, rfl⟩
theorem dd_PJ_numberIn_29 : pj_d cX10_numberIn 29 (.ireturn) 1 30 := ⟨by decide +kernel, rfl⟩
theorem dd_PJ_numberIn_30 : pj_d cX10_numberIn 30 (.iinc 3 1) 3 33 := ⟨by decide +kernel, rfl⟩
theorem dd_PJ_numberIn_33 : pj_d cX10_numberIn 33 (.iinc 4 1) 3 36 := ⟨by decide +kernel, rfl⟩
theorem dd_PJ_numberIn_36 : pj_dj cX10_numberIn 36 (.goto (-31)) (-31) 39 5 := ⟨by decide +kernel, rfl, by decide⟩
theorem dd_PJ_numberIn_39 : pj_d cX10_numberIn 39 (.iconst (-1)) 1 40 := ⟨by decide +kernel, rfl⟩
theorem dd_PJ_numberIn_40 : pj_d cX10_numberIn 40 (.ireturn) 1 41 := ⟨by decide +kernel, rfl⟩
set_option maxHeartbeats 4000000 in
set_option maxRecDepth 100000 in
theorem bt_PJ_numberIn_33 {B : pj_B} {A : Nat → Prop} {K : pj_K} {r0 : Int32} {z0 : pj_S} (hB : B.2.2.2.1 = pj_LC) (C : pj_C B A K cX10_numberIn 5 RX10 2) (Q : pj_Qi B A K (some .int) r0 z0) (s5 : Int64 → Int32 → Int32 → Int32 → pj_S → Option (Int32 × pj_S)) (k5 : ∀ (v0 : Int64) (v2 : Int32) (v3 : Int32) (v4 : Int32) (z : pj_S) (H : Heap) (lo : List Loc) (ls : Array Slot), s5 v0 v2 v3 v4 z = some (r0, z0) → pj_P B A K z H lo → lv_has ls 5 [(0, .long v0), (2, .int v2), (3, .int v3), (4, .int v4)] → pj_W K H lo 5 ls []) (v0 : Int64) (v2 : Int32) (v3 : Int32) (v4 : Int32) (z : pj_S) (H : Heap) (lo : List Loc) (ls : Array Slot) (h : PJ_numberIn_33 s5 v0 v2 v3 v4 z = some (r0, z0)) (P : pj_P B A K z H lo) (hl : lv_has ls 5 [(0, .long v0), (2, .int v2), (3, .int v3), (4, .int v4)]) : pj_W K H lo 33 ls [] := by
  unfold PJ_numberIn_33 at h
  refine pj_iinc (v := (nI 1)) [(0, .long v0), (2, .int v2), (3, .int v3)] C h rfl dd_PJ_numberIn_33 hl 3 rfl (by decide) rfl (fun x1 ls h hl => ?_)
  refine pj_goto C dd_PJ_numberIn_36 ?_
  exact k5 _ _ _ _ _ _ _ _ h P (lv_sub hl [1, 2, 3, 0] rfl)
set_option maxHeartbeats 4000000 in
set_option maxRecDepth 100000 in
theorem bt_PJ_numberIn_27 {B : pj_B} {A : Nat → Prop} {K : pj_K} {r0 : Int32} {z0 : pj_S} (hB : B.2.2.2.1 = pj_LC) (C : pj_C B A K cX10_numberIn 5 RX10 2) (Q : pj_Qi B A K (some .int) r0 z0)  (v4 : Int32) (z : pj_S) (H : Heap) (lo : List Loc) (ls : Array Slot) (h : PJ_numberIn_27 v4 z = some (r0, z0)) (P : pj_P B A K z H lo) (hl : lv_has ls 5 [(4, .int v4)]) : pj_W K H lo 27 ls [] := by
  unfold PJ_numberIn_27 at h
  refine pj_iload C dd_PJ_numberIn_27 hl 0 rfl ?_
  exact pj_iret C Q P h dd_PJ_numberIn_29
set_option maxHeartbeats 4000000 in
set_option maxRecDepth 100000 in
theorem bt_PJ_numberIn_5 {B : pj_B} {A : Nat → Prop} {K : pj_K} {r0 : Int32} {z0 : pj_S} (hB : B.2.2.2.1 = pj_LC) (C : pj_C B A K cX10_numberIn 5 RX10 2) (Q : pj_Qi B A K (some .int) r0 z0) (s5 : Int64 → Int32 → Int32 → Int32 → pj_S → Option (Int32 × pj_S)) (k5 : ∀ (v0 : Int64) (v2 : Int32) (v3 : Int32) (v4 : Int32) (z : pj_S) (H : Heap) (lo : List Loc) (ls : Array Slot), s5 v0 v2 v3 v4 z = some (r0, z0) → pj_P B A K z H lo → lv_has ls 5 [(0, .long v0), (2, .int v2), (3, .int v3), (4, .int v4)] → pj_W K H lo 5 ls []) (v0 : Int64) (v2 : Int32) (v3 : Int32) (v4 : Int32) (z : pj_S) (H : Heap) (lo : List Loc) (ls : Array Slot) (h : PJ_numberIn_5 s5 v0 v2 v3 v4 z = some (r0, z0)) (P : pj_P B A K z H lo) (hl : lv_has ls 5 [(0, .long v0), (2, .int v2), (3, .int v3), (4, .int v4)]) : pj_W K H lo 5 ls [] := by
  unfold PJ_numberIn_5 at h
  refine pj_iload C dd_PJ_numberIn_5 hl 3 rfl ?_
  refine pj_bipush (v := (nI 48)) C dd_PJ_numberIn_7 rfl ?_
  refine pj_ic_ge C h dd_PJ_numberIn_9 (fun h => ?_) (fun h => ?_)
  · refine pj_iconst (v := (-1 : Int32)) C dd_PJ_numberIn_39 rfl ?_
    exact pj_iret C Q P h dd_PJ_numberIn_40
  · refine pj_lload_n C dd_PJ_numberIn_12 rfl hl 0 rfl ?_
    refine pj_iload C dd_PJ_numberIn_13 hl 3 rfl ?_
    obtain ⟨r3, z2, e1, h⟩ := pj_cE h
    refine pj_cSi (st := []) [.long v0, .int v4] C P (ct_PJ_bitOf hB e1) cl_PJ_158 rfl (by decide) (by decide) hl.1 (Nat.le_of_ble_eq_true rfl) dd_PJ_numberIn_15 (fun H lo P => ?_)
    refine pj_iconst (v := (nI 1)) C dd_PJ_numberIn_18 rfl ?_
    refine pj_ic_ne C h dd_PJ_numberIn_19 (fun h => ?_) (fun h => ?_)
    · exact bt_PJ_numberIn_33 hB C Q s5 k5 _ _ _ _ _ _ _ _ h P (lv_sub hl [0, 1, 2, 3] rfl)
    · refine pj_iload_n C dd_PJ_numberIn_22 rfl hl 2 rfl ?_
      refine pj_iload_n C dd_PJ_numberIn_23 rfl hl 1 rfl ?_
      refine pj_ic_ne C h dd_PJ_numberIn_24 (fun h => ?_) (fun h => ?_)
      · refine pj_iinc (v := (nI 1)) [(0, .long v0), (2, .int v2), (4, .int v4)] C h rfl dd_PJ_numberIn_30 hl 2 rfl (by decide) rfl (fun x4 ls h hl => ?_)
        exact bt_PJ_numberIn_33 hB C Q s5 k5 _ _ _ _ _ _ _ _ h P (lv_sub hl [1, 2, 0, 3] rfl)
      · exact bt_PJ_numberIn_27 hB C Q _ _ _ _ _ h P (lv_sub hl [3] rfl)
theorem lt_PJ_numberIn_5 {B : pj_B} {A : Nat → Prop} {K : pj_K} {r0 : Int32} {z0 : pj_S} (hB : B.2.2.2.1 = pj_LC) (C : pj_C B A K cX10_numberIn 5 RX10 2) (Q : pj_Qi B A K (some .int) r0 z0)  : ∀ (n : Nat) (v0 : Int64) (v2 : Int32) (v3 : Int32) (v4 : Int32) (z : pj_S) (H : Heap) (lo : List Loc) (ls : Array Slot), pj_lp4 PJ_numberIn_5 n v0 v2 v3 v4 z = some (r0, z0) → pj_P B A K z H lo → lv_has ls 5 [(0, .long v0), (2, .int v2), (3, .int v3), (4, .int v4)] → pj_W K H lo 5 ls [] := by
  intro n
  induction n with
  | zero => intro v0 v2 v3 v4 z H lo ls h; rw [pj_lp4_0] at h; cases h
  | succ n ih =>
    intro v0 v2 v3 v4 z H lo ls h P hl
    rw [pj_lp4_s] at h
    exact bt_PJ_numberIn_5 hB C Q   (pj_lp4 PJ_numberIn_5 n) ih v0 v2 v3 v4 z H lo ls h P hl
set_option maxHeartbeats 4000000 in
set_option maxRecDepth 100000 in
theorem ct_PJ_numberIn {l : Launch} {B : pj_B} (hB : B.2.2.2.1 = pj_LC) {v0 : Int64} {v2 : Int32} {z : pj_S} {r0 : Int32} {z0 : pj_S} (h : PJ_numberIn v0 v2 z = some (r0, z0)) : pj_Mi l yX10_numberIn cX10_numberIn 5 (some .int) 2 [.long v0, .int v2] B z r0 z0 := by
  refine pj_meti (own := RX10) (by decide +kernel) rfl (Nat.le_of_ble_eq_true rfl) ?_
  intro A K hK C Q H lo ls P hl
  have hl : lv_has ls 5 [(0, .long v0), (2, .int v2)] := hl
  unfold PJ_numberIn at h
  refine pj_iconst (v := (nI 0)) C dd_PJ_numberIn_0 rfl ?_
  refine pj_istore_n [(3, .int (nI 0)), (0, .long v0), (2, .int v2)] C dd_PJ_numberIn_1 rfl hl (by decide) rfl (fun ls hl => ?_)
  refine pj_iconst (v := (nI 0)) C dd_PJ_numberIn_2 rfl ?_
  refine pj_istore [(4, .int (nI 0)), (3, .int (nI 0)), (0, .long v0), (2, .int v2)] C dd_PJ_numberIn_3 hl (by decide) rfl (fun ls hl => ?_)
  exact lt_PJ_numberIn_5 hB C Q 4000 _ _ _ _ _ _ _ _ h P (lv_sub hl [2, 3, 1, 0] rfl)
theorem dd_PJ_runs_0 : pj_d cX10_runs 0 (.aload_n 0) 1 1 := ⟨by decide +kernel, rfl⟩
theorem dd_PJ_runs_1 : pj_d cX10_runs 1 (.getfield 10) 3 4 := ⟨by decide +kernel, rfl⟩
theorem dd_PJ_runs_4 : pj_d cX10_runs 4 (.getfield 65) 3 7 := ⟨by decide +kernel, rfl⟩
theorem dd_PJ_runs_7 : pj_d cX10_runs 7 (.astore_n 3) 1 8 := ⟨by decide +kernel, rfl⟩
theorem dd_PJ_runs_8 : pj_d cX10_runs 8 (.aload_n 3) 1 9 := ⟨by decide +kernel, rfl⟩
theorem dd_PJ_runs_9 : pj_d cX10_runs 9 (.iload_n 1) 1 10 := ⟨by decide +kernel, rfl⟩
theorem dd_PJ_runs_10 : pj_d cX10_runs 10 (.invokevirtual 79) 3 13 := ⟨by decide +kernel, rfl⟩
theorem dd_PJ_runs_13 : pj_dj cX10_runs 13 (.ifCond .ne 5) 5 16 18 := ⟨by decide +kernel, rfl, by decide⟩
theorem dd_PJ_runs_16 : pj_d cX10_runs 16 (.iconst (-1)) 1 17 := ⟨by decide +kernel, rfl⟩
theorem dd_PJ_runs_17 : pj_d cX10_runs 17 (.ireturn) 1 18 := ⟨by decide +kernel, rfl⟩
theorem dd_PJ_runs_18 : pj_d cX10_runs 18 (.aload_n 3) 1 19 := ⟨by decide +kernel, rfl⟩
theorem dd_PJ_runs_19 : pj_d cX10_runs 19 (.getfield 155) 3 22 := ⟨by decide +kernel, rfl⟩
theorem dd_PJ_runs_22 : pj_d cX10_runs 22 (.lconst 1) 1 23 := ⟨by decide +kernel, rfl⟩
theorem dd_PJ_runs_23 : pj_d cX10_runs 23 (.iload_n 1) 1 24 := ⟨by decide +kernel, rfl⟩
theorem dd_PJ_runs_24 : pj_d cX10_runs 24 (.lshl) 1 25 := ⟨by decide +kernel, rfl⟩
theorem dd_PJ_runs_25 : pj_d cX10_runs 25 (.ldc2_w 207) 3 28 := ⟨by decide +kernel, rfl⟩
theorem dd_PJ_runs_28 : pj_d cX10_runs 28 (.lxor) 1 29 := ⟨by decide +kernel, rfl⟩
theorem dd_PJ_runs_29 : pj_d cX10_runs 29 (.land) 1 30 := ⟨by decide +kernel, rfl⟩
theorem dd_PJ_runs_30 : pj_d cX10_runs 30 (.lstore 4) 2 32 := ⟨by decide +kernel, rfl⟩
theorem dd_PJ_runs_32 : pj_d cX10_runs 32 (.lload 4) 2 34 := ⟨by decide +kernel, rfl⟩
theorem dd_PJ_runs_34 : pj_d cX10_runs 34 (.aload_n 3) 1 35 := ⟨by decide +kernel, rfl⟩
theorem dd_PJ_runs_35 : pj_d cX10_runs 35 (.lload 4) 2 37 := ⟨by decide +kernel, rfl⟩
theorem dd_PJ_runs_37 : pj_d cX10_runs 37 (.aload_n 3) 1 38 := ⟨by decide +kernel, rfl⟩
theorem dd_PJ_runs_38 : pj_d cX10_runs 38 (.getfield 162) 3 41 := ⟨by decide +kernel, rfl⟩
theorem dd_PJ_runs_41 : pj_d cX10_runs 41 (.invokevirtual 209) 3 44 := ⟨by decide +kernel, rfl⟩
theorem dd_PJ_runs_44 : pj_d cX10_runs 44 (.ldc2_w 207) 3 47 := ⟨by decide +kernel, rfl⟩
theorem dd_PJ_runs_47 : pj_d cX10_runs 47 (.lxor) 1 48 := ⟨by decide +kernel, rfl⟩
theorem dd_PJ_runs_48 : pj_d cX10_runs 48 (.land) 1 49 := ⟨by decide +kernel, rfl⟩
theorem dd_PJ_runs_49 : pj_d cX10_runs 49 (.lstore 6) 2 51 := ⟨by decide +kernel, rfl⟩
theorem dd_PJ_runs_51 : pj_d cX10_runs 51 (.iload_n 2) 1 52 := ⟨by decide +kernel, rfl⟩
theorem dd_PJ_runs_52 : pj_dj cX10_runs 52 (.ifCond .ne 9) 9 55 61 := ⟨by decide +kernel, rfl, by decide⟩
theorem dd_PJ_runs_55 : pj_d cX10_runs 55 (.lload 6) 2 57 := ⟨by decide +kernel, rfl⟩
theorem dd_PJ_runs_57 : pj_d cX10_runs 57 (.invokestatic 212) 3 60 := ⟨by decide +kernel, rfl⟩
theorem dd_PJ_runs_60 : pj_d cX10_runs 60 (.ireturn) 1 61 := ⟨by decide +kernel, rfl⟩
theorem dd_PJ_runs_61 : pj_d cX10_runs 61 (.iload_n 2) 1 62 := ⟨by decide +kernel, rfl⟩
theorem dd_PJ_runs_62 : pj_d cX10_runs 62 (.iconst 1) 1 63 := ⟨by decide +kernel, rfl⟩
theorem dd_PJ_runs_63 : pj_dj cX10_runs 63 (.if_icmp .ne 21) 21 66 84 := ⟨by decide +kernel, rfl, by decide⟩
theorem dd_PJ_runs_66 : pj_d cX10_runs 66 (.lload 6) 2 68 := ⟨by decide +kernel, rfl⟩
theorem dd_PJ_runs_68 : pj_d cX10_runs 68 (.lconst 0) 1 69 := ⟨by decide +kernel, rfl⟩
theorem dd_PJ_runs_69 : pj_d cX10_runs 69 (.lcmp) 1 70 := ⟨by decide +kernel, rfl⟩
theorem dd_PJ_runs_70 : pj_dj cX10_runs 70 (.ifCond .eq 14) 14 73 84 := ⟨by decide +kernel, rfl, by decide⟩
theorem dd_PJ_runs_73 : pj_d cX10_runs 73 (.lload 6) 2 75 := ⟨by decide +kernel, rfl⟩
theorem dd_PJ_runs_75 : pj_d cX10_runs 75 (.iconst 0) 1 76 := ⟨by decide +kernel, rfl⟩
theorem dd_PJ_runs_76 : pj_d cX10_runs 76 (.invokestatic 218) 3 79 := ⟨by decide +kernel, rfl⟩
theorem dd_PJ_runs_79 : pj_d cX10_runs 79 (.iconst 3) 1 80 := ⟨by decide +kernel, rfl⟩
theorem dd_PJ_runs_80 : pj_d cX10_runs 80 (.ishr) 1 81 := ⟨by decide +kernel, rfl⟩
theorem dd_PJ_runs_81 : pj_dj cX10_runs 81 (.goto 4) 4 84 85 := ⟨by decide +kernel, rfl, by decide⟩
theorem dd_PJ_runs_84 : pj_d cX10_runs 84 (.iconst (-1)) 1 85 := ⟨by decide +kernel, rfl⟩
theorem dd_PJ_runs_85 : pj_d cX10_runs 85 (.ireturn) 1 86 := ⟨by decide +kernel, rfl⟩
set_option maxHeartbeats 4000000 in
set_option maxRecDepth 100000 in
theorem ct_PJ_runs {l : Launch} {B : pj_B} (hB : B.2.2.2.1 = pj_LC) {v1 : Int32} {v2 : Int32} {z : pj_S} {r0 : Int32} {z0 : pj_S} (h : PJ_runs v1 v2 z = some (r0, z0)) : pj_Mi l yX10_runs cX10_runs 8 (some .int) 4 [.ref (B.2.1 0), .int v1, .int v2] B z r0 z0 := by
  refine pj_meti (own := RX10) (by decide +kernel) rfl (Nat.le_of_ble_eq_true rfl) ?_
  intro A K hK C Q H lo ls P hl
  have hl : lv_has ls 8 [(0, .ref (B.2.1 0)), (1, .int v1), (2, .int v2)] := hl
  unfold PJ_runs at h
  refine pj_aload_n C dd_PJ_runs_0 rfl hl 0 rfl ?_
  refine pj_getR C P 0 (LC0 hB) rfl fl_PJ_10 dd_PJ_runs_1 ?_
  refine pj_getR C P 1 (LC1 hB) rfl fl_PJ_65 dd_PJ_runs_4 ?_
  refine pj_astore_n [(3, .ref (B.2.1 8)), (0, .ref (B.2.1 0)), (1, .int v1), (2, .int v2)] C dd_PJ_runs_7 rfl hl (by decide) rfl (fun ls hl => ?_)
  refine pj_aload_n C dd_PJ_runs_8 rfl hl 0 rfl ?_
  refine pj_iload_n C dd_PJ_runs_9 rfl hl 2 rfl ?_
  obtain ⟨r3, z2, e1, h⟩ := pj_cE h
  refine pj_cVi (st := []) [.int v1] C P 8 (LC8 hB) rfl (ct_Fabric_isHere hB e1) cl_PJ_79 rfl (by decide) (by decide) hl.1 (Nat.le_of_ble_eq_true rfl) dd_PJ_runs_10 (fun H lo P => ?_)
  refine pj_if_ne C h dd_PJ_runs_13 (fun h => ?_) (fun h => ?_)
  · refine pj_aload_n C dd_PJ_runs_18 rfl hl 0 rfl ?_
    refine pj_getJ C P 8 (LC8 hB) rfl fl_PJ_155 dd_PJ_runs_19 ?_
    refine pj_lconst (v := (1 : Int64)) C dd_PJ_runs_22 rfl ?_
    refine pj_iload_n C dd_PJ_runs_23 rfl hl 2 rfl ?_
    refine pj_lshl C dd_PJ_runs_24 ?_
    refine pj_ldc2 (v := (-1 : Int64)) C co_PJ_207 dd_PJ_runs_25 ?_
    refine pj_lxor C dd_PJ_runs_28 ?_
    refine pj_land C dd_PJ_runs_29 ?_
    refine pj_lstb [(3, .ref (B.2.1 8)), (0, .ref (B.2.1 0)), (1, .int v1), (2, .int v2)] C h dd_PJ_runs_30 hl (by decide) rfl (fun x4 ls h hl => ?_)
    refine pj_lload C dd_PJ_runs_32 hl 0 rfl ?_
    refine pj_aload_n C dd_PJ_runs_34 rfl hl 1 rfl ?_
    refine pj_lload C dd_PJ_runs_35 hl 0 rfl ?_
    refine pj_aload_n C dd_PJ_runs_37 rfl hl 1 rfl ?_
    refine pj_getJ C P 8 (LC8 hB) rfl fl_PJ_162 dd_PJ_runs_38 ?_
    obtain ⟨r7, z6, e5, h⟩ := pj_cE h
    refine pj_cVl (st := [.long x4]) [.long x4, .long (z2.2 8 7)] C P 8 (LC8 hB) rfl (ct_Fabric_inTheEnd hB e5) cl_PJ_209 rfl (by decide) (by decide) hl.1 (Nat.le_of_ble_eq_true rfl) dd_PJ_runs_41 (fun H lo P => ?_)
    refine pj_ldc2 (v := (-1 : Int64)) C co_PJ_207 dd_PJ_runs_44 ?_
    refine pj_lxor C dd_PJ_runs_47 ?_
    refine pj_land C dd_PJ_runs_48 ?_
    refine pj_lstb [(4, .long x4), (3, .ref (B.2.1 8)), (0, .ref (B.2.1 0)), (1, .int v1), (2, .int v2)] C h dd_PJ_runs_49 hl (by decide) rfl (fun x8 ls h hl => ?_)
    refine pj_iload_n C dd_PJ_runs_51 rfl hl 5 rfl ?_
    refine pj_if_ne C h dd_PJ_runs_52 (fun h => ?_) (fun h => ?_)
    · refine pj_iload_n C dd_PJ_runs_61 rfl hl 5 rfl ?_
      refine pj_iconst (v := (nI 1)) C dd_PJ_runs_62 rfl ?_
      refine pj_ic_ne C h dd_PJ_runs_63 (fun h => ?_) (fun h => ?_)
      · refine pj_iconst (v := (-1 : Int32)) C dd_PJ_runs_84 rfl ?_
        exact pj_iret C Q P h dd_PJ_runs_85
      · refine pj_lload C dd_PJ_runs_66 hl 0 rfl ?_
        refine pj_lconst (v := (0 : Int64)) C dd_PJ_runs_68 rfl ?_
        refine pj_lcmp C dd_PJ_runs_69 ?_
        refine pj_if_eq C h dd_PJ_runs_70 (fun h => ?_) (fun h => ?_)
        · refine pj_iconst (v := (-1 : Int32)) C dd_PJ_runs_84 rfl ?_
          exact pj_iret C Q P h dd_PJ_runs_85
        · refine pj_lload C dd_PJ_runs_73 hl 0 rfl ?_
          refine pj_iconst (v := (nI 0)) C dd_PJ_runs_75 rfl ?_
          obtain ⟨r11, z10, e9, h⟩ := pj_cE h
          refine pj_cSi (st := []) [.long x8, .int (nI 0)] C P (ct_PJ_numberIn hB e9) cl_PJ_218 rfl (by decide) (by decide) hl.1 (Nat.le_of_ble_eq_true rfl) dd_PJ_runs_76 (fun H lo P => ?_)
          refine pj_iconst (v := (nI 3)) C dd_PJ_runs_79 rfl ?_
          refine pj_ishr C dd_PJ_runs_80 ?_
          refine pj_goto C dd_PJ_runs_81 ?_
          exact pj_iret C Q P h dd_PJ_runs_85
    · refine pj_lload C dd_PJ_runs_55 hl 0 rfl ?_
      obtain ⟨r14, z13, e12, h⟩ := pj_cE h
      refine pj_cSi (st := []) [.long x8] C P (ct_JLong_bitCount hB e12) cl_PJ_212 rfl (by decide) (by decide) hl.1 (Nat.le_of_ble_eq_true rfl) dd_PJ_runs_57 (fun H lo P => ?_)
      exact pj_iret C Q P h dd_PJ_runs_60
  · refine pj_iconst (v := (-1 : Int32)) C dd_PJ_runs_16 rfl ?_
    exact pj_iret C Q P h dd_PJ_runs_17
theorem dd_Saver_goingWith_0 : pj_d cX6_goingWith 0 (.aload_n 0) 1 1 := ⟨by decide +kernel, rfl⟩
theorem dd_Saver_goingWith_1 : pj_d cX6_goingWith 1 (.getfield 9) 3 4 := ⟨by decide +kernel, rfl⟩
theorem dd_Saver_goingWith_4 : pj_d cX6_goingWith 4 (.aload_n 0) 1 5 := ⟨by decide +kernel, rfl⟩
theorem dd_Saver_goingWith_5 : pj_d cX6_goingWith 5 (.aload_n 0) 1 6 := ⟨by decide +kernel, rfl⟩
theorem dd_Saver_goingWith_6 : pj_d cX6_goingWith 6 (.getfield 9) 3 9 := ⟨by decide +kernel, rfl⟩
theorem dd_Saver_goingWith_9 : pj_d cX6_goingWith 9 (.aload_n 0) 1 10 := ⟨by decide +kernel, rfl⟩
theorem dd_Saver_goingWith_10 : pj_d cX6_goingWith 10 (.getfield 15) 3 13 := ⟨by decide +kernel, rfl⟩
theorem dd_Saver_goingWith_13 : pj_d cX6_goingWith 13 (.lload_n 1) 1 14 := ⟨by decide +kernel, rfl⟩
theorem dd_Saver_goingWith_14 : pj_d cX6_goingWith 14 (.lor) 1 15 := ⟨by decide +kernel, rfl⟩
theorem dd_Saver_goingWith_15 : pj_d cX6_goingWith 15 (.invokevirtual 49) 3 18 := ⟨by decide +kernel, rfl⟩
theorem dd_Saver_goingWith_18 : pj_d cX6_goingWith 18 (.ldc2_w 18) 3 21 := ⟨by decide +kernel, rfl⟩
theorem dd_Saver_goingWith_21 : pj_d cX6_goingWith 21 (.lxor) 1 22 := ⟨by decide +kernel, rfl⟩
theorem dd_Saver_goingWith_22 : pj_d cX6_goingWith 22 (.land) 1 23 := ⟨by decide +kernel, rfl⟩
theorem dd_Saver_goingWith_23 : pj_d cX6_goingWith 23 (.lreturn) 1 24 := ⟨by decide +kernel, rfl⟩
set_option maxHeartbeats 4000000 in
set_option maxRecDepth 100000 in
theorem ct_Saver_goingWith {l : Launch} {B : pj_B} (hB : B.2.2.2.1 = pj_LC) {v1 : Int64} {z : pj_S} {r0 : Int64} {z0 : pj_S} (h : Saver_goingWith v1 z = some (r0, z0)) : pj_Ml l yX6_goingWith cX6_goingWith 3 (some .long) 4 [.ref (B.2.1 8), .long v1] B z r0 z0 := by
  refine pj_metl (own := RX6) (by decide +kernel) rfl (Nat.le_of_ble_eq_true rfl) ?_
  intro A K hK C Q H lo ls P hl
  have hl : lv_has ls 3 [(0, .ref (B.2.1 8)), (1, .long v1)] := hl
  unfold Saver_goingWith at h
  refine pj_aload_n C dd_Saver_goingWith_0 rfl hl 0 rfl ?_
  refine pj_getJ C P 8 (LC8 hB) rfl fl_Saver_9 dd_Saver_goingWith_1 ?_
  refine pj_aload_n C dd_Saver_goingWith_4 rfl hl 0 rfl ?_
  refine pj_aload_n C dd_Saver_goingWith_5 rfl hl 0 rfl ?_
  refine pj_getJ C P 8 (LC8 hB) rfl fl_Saver_9 dd_Saver_goingWith_6 ?_
  refine pj_aload_n C dd_Saver_goingWith_9 rfl hl 0 rfl ?_
  refine pj_getJ C P 8 (LC8 hB) rfl fl_Saver_15 dd_Saver_goingWith_10 ?_
  refine pj_lload_n C dd_Saver_goingWith_13 rfl hl 1 rfl ?_
  refine pj_lor C dd_Saver_goingWith_14 ?_
  obtain ⟨r3, z2, e1, h⟩ := pj_cE h
  refine pj_cVl (st := [.long (z.2 8 6)]) [.long (z.2 8 6), .long ((z.2 8 7) ||| v1)] C P 8 (LC8 hB) rfl (ct_Fabric_inTheEnd hB e1) cl_Saver_49 rfl (by decide) (by decide) hl.1 (Nat.le_of_ble_eq_true rfl) dd_Saver_goingWith_15 (fun H lo P => ?_)
  refine pj_ldc2 (v := (-1 : Int64)) C co_Saver_18 dd_Saver_goingWith_18 ?_
  refine pj_lxor C dd_Saver_goingWith_21 ?_
  refine pj_land C dd_Saver_goingWith_22 ?_
  exact pj_lret C Q P h dd_Saver_goingWith_23
theorem dd_Saver_choose_0 : pj_d cX6_choose 0 (.iload 4) 2 2 := ⟨by decide +kernel, rfl⟩
theorem dd_Saver_choose_2 : pj_dj cX6_choose 2 (.ifCond .gt 31) 31 5 33 := ⟨by decide +kernel, rfl, by decide⟩
theorem dd_Saver_choose_5 : pj_d cX6_choose 5 (.lload 7) 2 7 := ⟨by decide +kernel, rfl⟩
theorem dd_Saver_choose_7 : pj_d cX6_choose 7 (.invokestatic 29) 3 10 := ⟨by decide +kernel, rfl⟩
theorem dd_Saver_choose_10 : pj_d cX6_choose 10 (.aload_n 0) 1 11 := ⟨by decide +kernel, rfl⟩
theorem dd_Saver_choose_11 : pj_d cX6_choose 11 (.getfield 20) 3 14 := ⟨by decide +kernel, rfl⟩
theorem dd_Saver_choose_14 : pj_dj cX6_choose 14 (.if_icmp .ge 18) 18 17 32 := ⟨by decide +kernel, rfl, by decide⟩
theorem dd_Saver_choose_17 : pj_d cX6_choose 17 (.aload_n 0) 1 18 := ⟨by decide +kernel, rfl⟩
theorem dd_Saver_choose_18 : pj_d cX6_choose 18 (.lload 7) 2 20 := ⟨by decide +kernel, rfl⟩
theorem dd_Saver_choose_20 : pj_d cX6_choose 20 (.invokestatic 29) 3 23 := ⟨by decide +kernel, rfl⟩
theorem dd_Saver_choose_23 : pj_d cX6_choose 23 (.putfield 20) 3 26 := ⟨by decide +kernel, rfl⟩
theorem dd_Saver_choose_26 : pj_d cX6_choose 26 (.aload_n 0) 1 27 := ⟨by decide +kernel, rfl⟩
theorem dd_Saver_choose_27 : pj_d cX6_choose 27 (.lload 5) 2 29 := ⟨by decide +kernel, rfl⟩
theorem dd_Saver_choose_29 : pj_d cX6_choose 29 (.putfield 26) 3 32 := ⟨by decide +kernel, rfl⟩
theorem dd_Saver_choose_32 : pj_d cX6_choose 32 (.return_) 1 33 := ⟨by decide +kernel, rfl⟩
theorem dd_Saver_choose_33 : pj_d cX6_choose 33 (.iconst 0) 1 34 := ⟨by decide +kernel, rfl⟩
theorem dd_Saver_choose_34 : pj_d cX6_choose 34 (.istore 9) 2 36 := ⟨by decide +kernel, rfl⟩
theorem dd_Saver_choose_36 : pj_d cX6_choose 36 (.iload 9) 2 38 := ⟨by decide +kernel, rfl⟩
theorem dd_Saver_choose_38 : pj_d cX6_choose 38 (.bipush 48) 2 40 := ⟨by decide +kernel, rfl⟩
theorem dd_Saver_choose_40 : pj_dj cX6_choose 40 (.if_icmp .ge 89) 89 43 129 := ⟨by decide +kernel, rfl, by decide⟩
theorem dd_Saver_choose_43 : pj_d cX6_choose 43 (.aload_n 0) 1 44 := ⟨by decide +kernel, rfl⟩
theorem dd_Saver_choose_44 : pj_d cX6_choose 44 (.getfield 20) 3 47 := ⟨by decide +kernel, rfl⟩
theorem dd_Saver_choose_47 : pj_dj cX6_choose 47 (.ifCond .le 82) 82 50 129 := ⟨by decide +kernel, rfl, by decide⟩
theorem dd_Saver_choose_50 : pj_d cX6_choose 50 (.lconst 1) 1 51 := ⟨by decide +kernel, rfl⟩
theorem dd_Saver_choose_51 : pj_d cX6_choose 51 (.iload 9) 2 53 := ⟨by decide +kernel, rfl⟩
theorem dd_Saver_choose_53 : pj_d cX6_choose 53 (.lshl) 1 54 := ⟨by decide +kernel, rfl⟩
theorem dd_Saver_choose_54 : pj_d cX6_choose 54 (.lstore 10) 2 56 := ⟨by decide +kernel, rfl⟩
theorem dd_Saver_choose_56 : pj_d cX6_choose 56 (.lload_n 2) 1 57 := ⟨by decide +kernel, rfl⟩
theorem dd_Saver_choose_57 : pj_d cX6_choose 57 (.lload 10) 2 59 := ⟨by decide +kernel, rfl⟩
theorem dd_Saver_choose_59 : pj_d cX6_choose 59 (.land) 1 60 := ⟨by decide +kernel, rfl⟩
theorem dd_Saver_choose_60 : pj_d cX6_choose 60 (.lconst 0) 1 61 := ⟨by decide +kernel, rfl⟩
theorem dd_Saver_choose_61 : pj_d cX6_choose 61 (.lcmp) 1 62 := ⟨by decide +kernel, rfl⟩
theorem dd_Saver_choose_62 : pj_dj cX6_choose 62 (.ifCond .eq 61) 61 65 123 := ⟨by decide +kernel, rfl, by decide⟩
theorem dd_Saver_choose_65 : pj_d cX6_choose 65 (.lload 7) 2 67 := ⟨by decide +kernel, rfl⟩
theorem dd_Saver_choose_67 : pj_d cX6_choose 67 (.lload 10) 2 69 := ⟨by decide +kernel, rfl⟩
theorem dd_Saver_choose_69 : pj_d cX6_choose 69 (.land) 1 70 := ⟨by decide +kernel, rfl⟩
theorem dd_Saver_choose_70 : pj_d cX6_choose 70 (.lconst 0) 1 71 := ⟨by decide +kernel, rfl⟩
theorem dd_Saver_choose_71 : pj_d cX6_choose 71 (.lcmp) 1 72 := ⟨by decide +kernel, rfl⟩
theorem dd_Saver_choose_72 : pj_dj cX6_choose 72 (.ifCond .ne 8) 8 75 80 := ⟨by decide +kernel, rfl, by decide⟩
theorem dd_Saver_choose_75 : pj_d cX6_choose 75 (.lload 7) 2 77 := ⟨by decide +kernel, rfl⟩
theorem dd_Saver_choose_77 : pj_dj cX6_choose 77 (.goto 12) 12 80 89 := ⟨by decide +kernel, rfl, by decide⟩
theorem dd_Saver_choose_80 : pj_d cX6_choose 80 (.aload_n 1) 1 81 := ⟨by decide +kernel, rfl⟩
theorem dd_Saver_choose_81 : pj_d cX6_choose 81 (.lload 5) 2 83 := ⟨by decide +kernel, rfl⟩
theorem dd_Saver_choose_83 : pj_d cX6_choose 83 (.lload 10) 2 85 := ⟨by decide +kernel, rfl⟩
theorem dd_Saver_choose_85 : pj_d cX6_choose 85 (.lor) 1 86 := ⟨by decide +kernel, rfl⟩
theorem dd_Saver_choose_86 : pj_d cX6_choose 86 (.invokestatic 41) 3 89 := ⟨by decide +kernel, rfl⟩
theorem dd_Saver_choose_89 : pj_d cX6_choose 89 (.lstore 12) 2 91 := ⟨by decide +kernel, rfl⟩
theorem dd_Saver_choose_91 : pj_d cX6_choose 91 (.lload_n 2) 1 92 := ⟨by decide +kernel, rfl⟩
theorem dd_Saver_choose_92 : pj_d cX6_choose 92 (.lload 10) 2 94 := ⟨by decide +kernel, rfl⟩
theorem dd_Saver_choose_94 : pj_d cX6_choose 94 (.iconst 1) 1 95 := ⟨by decide +kernel, rfl⟩
theorem dd_Saver_choose_95 : pj_d cX6_choose 95 (.lshl) 1 96 := ⟨by decide +kernel, rfl⟩
theorem dd_Saver_choose_96 : pj_d cX6_choose 96 (.lconst 1) 1 97 := ⟨by decide +kernel, rfl⟩
theorem dd_Saver_choose_97 : pj_d cX6_choose 97 (.lsub) 1 98 := ⟨by decide +kernel, rfl⟩
theorem dd_Saver_choose_98 : pj_d cX6_choose 98 (.ldc2_w 18) 3 101 := ⟨by decide +kernel, rfl⟩
theorem dd_Saver_choose_101 : pj_d cX6_choose 101 (.lxor) 1 102 := ⟨by decide +kernel, rfl⟩
theorem dd_Saver_choose_102 : pj_d cX6_choose 102 (.land) 1 103 := ⟨by decide +kernel, rfl⟩
theorem dd_Saver_choose_103 : pj_d cX6_choose 103 (.lstore 14) 2 105 := ⟨by decide +kernel, rfl⟩
theorem dd_Saver_choose_105 : pj_d cX6_choose 105 (.aload_n 0) 1 106 := ⟨by decide +kernel, rfl⟩
theorem dd_Saver_choose_106 : pj_d cX6_choose 106 (.aload_n 1) 1 107 := ⟨by decide +kernel, rfl⟩
theorem dd_Saver_choose_107 : pj_d cX6_choose 107 (.lload 14) 2 109 := ⟨by decide +kernel, rfl⟩
theorem dd_Saver_choose_109 : pj_d cX6_choose 109 (.iload 4) 2 111 := ⟨by decide +kernel, rfl⟩
theorem dd_Saver_choose_111 : pj_d cX6_choose 111 (.iconst 1) 1 112 := ⟨by decide +kernel, rfl⟩
theorem dd_Saver_choose_112 : pj_d cX6_choose 112 (.isub) 1 113 := ⟨by decide +kernel, rfl⟩
theorem dd_Saver_choose_113 : pj_d cX6_choose 113 (.lload 5) 2 115 := ⟨by decide +kernel, rfl⟩
theorem dd_Saver_choose_115 : pj_d cX6_choose 115 (.lload 10) 2 117 := ⟨by decide +kernel, rfl⟩
theorem dd_Saver_choose_117 : pj_d cX6_choose 117 (.lor) 1 118 := ⟨by decide +kernel, rfl⟩
theorem dd_Saver_choose_118 : pj_d cX6_choose 118 (.lload 12) 2 120 := ⟨by decide +kernel, rfl⟩
theorem dd_Saver_choose_120 : pj_d cX6_choose 120 (.invokevirtual 45) 3 123 := ⟨by decide +kernel, rfl⟩
theorem dd_Saver_choose_123 : pj_d cX6_choose 123 (.iinc 9 1) 3 126 := ⟨by decide +kernel, rfl⟩
theorem dd_Saver_choose_126 : pj_dj cX6_choose 126 (.goto (-90)) (-90) 129 36 := ⟨by decide +kernel, rfl, by decide⟩
theorem dd_Saver_choose_129 : pj_d cX6_choose 129 (.return_) 1 130 := ⟨by decide +kernel, rfl⟩
set_option maxHeartbeats 4000000 in
set_option maxRecDepth 100000 in
theorem bt_Saver_choose_123 {lv0 : Nat} {B : pj_B} {A : Nat → Prop} {K : pj_K} {r0 : Unit} {z0 : pj_S} (hB : B.2.2.2.1 = pj_LC) (C : pj_C B A K cX6_choose 16 RX6 (lv0 + 1)) (Q : pj_Qv B A K none r0 z0) (hlv : 4 ≤ lv0) {sR : Int64 → Int32 → Int64 → Int64 → pj_S → Option (Unit × pj_S)} (hR : ∀ (v2 : Int64) (v4 : Int32) (v5 : Int64) (v7 : Int64) (z : pj_S) (r : Unit) (z2 : pj_S), sR v2 v4 v5 v7 z = some (r, z2) → pj_Mv K.2.1 yX6_choose cX6_choose 16 none lv0 [.ref (B.2.1 7), .ref (B.2.1 8), .long v2, .int v4, .long v5, .long v7] B z r z2) (s36 : Int64 → Int32 → Int64 → Int64 → Int32 → pj_S → Option (Unit × pj_S)) (k36 : ∀ (v2 : Int64) (v4 : Int32) (v5 : Int64) (v7 : Int64) (v9 : Int32) (z : pj_S) (H : Heap) (lo : List Loc) (ls : Array Slot), s36 v2 v4 v5 v7 v9 z = some (r0, z0) → pj_P B A K z H lo → lv_has ls 16 [(0, .ref (B.2.1 7)), (1, .ref (B.2.1 8)), (2, .long v2), (4, .int v4), (5, .long v5), (7, .long v7), (9, .int v9)] → pj_W K H lo 36 ls []) (v2 : Int64) (v4 : Int32) (v5 : Int64) (v7 : Int64) (v9 : Int32) (z : pj_S) (H : Heap) (lo : List Loc) (ls : Array Slot) (h : Saver_choose_123 sR s36 v2 v4 v5 v7 v9 z = some (r0, z0)) (P : pj_P B A K z H lo) (hl : lv_has ls 16 [(0, .ref (B.2.1 7)), (1, .ref (B.2.1 8)), (2, .long v2), (4, .int v4), (5, .long v5), (7, .long v7), (9, .int v9)]) : pj_W K H lo 123 ls [] := by
  unfold Saver_choose_123 at h
  refine pj_iinc (v := (nI 1)) [(0, .ref (B.2.1 7)), (1, .ref (B.2.1 8)), (2, .long v2), (4, .int v4), (5, .long v5), (7, .long v7)] C h rfl dd_Saver_choose_123 hl 6 rfl (by decide) rfl (fun x1 ls h hl => ?_)
  refine pj_goto C dd_Saver_choose_126 ?_
  exact k36 _ _ _ _ _ _ _ _ _ h P (lv_sub hl [1, 2, 3, 4, 5, 6, 0] rfl)
set_option maxHeartbeats 4000000 in
set_option maxRecDepth 100000 in
theorem bt_Saver_choose_89 {lv0 : Nat} {B : pj_B} {A : Nat → Prop} {K : pj_K} {r0 : Unit} {z0 : pj_S} (hB : B.2.2.2.1 = pj_LC) (C : pj_C B A K cX6_choose 16 RX6 (lv0 + 1)) (Q : pj_Qv B A K none r0 z0) (hlv : 4 ≤ lv0) {sR : Int64 → Int32 → Int64 → Int64 → pj_S → Option (Unit × pj_S)} (hR : ∀ (v2 : Int64) (v4 : Int32) (v5 : Int64) (v7 : Int64) (z : pj_S) (r : Unit) (z2 : pj_S), sR v2 v4 v5 v7 z = some (r, z2) → pj_Mv K.2.1 yX6_choose cX6_choose 16 none lv0 [.ref (B.2.1 7), .ref (B.2.1 8), .long v2, .int v4, .long v5, .long v7] B z r z2) (s36 : Int64 → Int32 → Int64 → Int64 → Int32 → pj_S → Option (Unit × pj_S)) (k36 : ∀ (v2 : Int64) (v4 : Int32) (v5 : Int64) (v7 : Int64) (v9 : Int32) (z : pj_S) (H : Heap) (lo : List Loc) (ls : Array Slot), s36 v2 v4 v5 v7 v9 z = some (r0, z0) → pj_P B A K z H lo → lv_has ls 16 [(0, .ref (B.2.1 7)), (1, .ref (B.2.1 8)), (2, .long v2), (4, .int v4), (5, .long v5), (7, .long v7), (9, .int v9)] → pj_W K H lo 36 ls []) (v2 : Int64) (v4 : Int32) (v5 : Int64) (v7 : Int64) (v9 : Int32) (v10 : Int64) (t0 : Int64) (z : pj_S) (H : Heap) (lo : List Loc) (ls : Array Slot) (h : Saver_choose_89 sR s36 v2 v4 v5 v7 v9 v10 t0 z = some (r0, z0)) (P : pj_P B A K z H lo) (hl : lv_has ls 16 [(0, .ref (B.2.1 7)), (1, .ref (B.2.1 8)), (2, .long v2), (4, .int v4), (5, .long v5), (7, .long v7), (9, .int v9), (10, .long v10)]) : pj_W K H lo 89 ls [.long t0] := by
  unfold Saver_choose_89 at h
  refine pj_lstore [(12, .long t0), (0, .ref (B.2.1 7)), (1, .ref (B.2.1 8)), (2, .long v2), (4, .int v4), (5, .long v5), (7, .long v7), (9, .int v9), (10, .long v10)] C dd_Saver_choose_89 hl (by decide) rfl (fun ls hl => ?_)
  refine pj_lload_n C dd_Saver_choose_91 rfl hl 3 rfl ?_
  refine pj_lload C dd_Saver_choose_92 hl 8 rfl ?_
  refine pj_iconst (v := (nI 1)) C dd_Saver_choose_94 rfl ?_
  refine pj_lshl C dd_Saver_choose_95 ?_
  refine pj_lconst (v := (1 : Int64)) C dd_Saver_choose_96 rfl ?_
  refine pj_lsub C dd_Saver_choose_97 ?_
  refine pj_ldc2 (v := (-1 : Int64)) C co_Saver_18 dd_Saver_choose_98 ?_
  refine pj_lxor C dd_Saver_choose_101 ?_
  refine pj_land C dd_Saver_choose_102 ?_
  refine pj_lstb [(12, .long t0), (0, .ref (B.2.1 7)), (1, .ref (B.2.1 8)), (2, .long v2), (4, .int v4), (5, .long v5), (7, .long v7), (9, .int v9), (10, .long v10)] C h dd_Saver_choose_103 hl (by decide) rfl (fun x1 ls h hl => ?_)
  refine pj_aload_n C dd_Saver_choose_105 rfl hl 2 rfl ?_
  refine pj_aload_n C dd_Saver_choose_106 rfl hl 3 rfl ?_
  refine pj_lload C dd_Saver_choose_107 hl 0 rfl ?_
  refine pj_iload C dd_Saver_choose_109 hl 5 rfl ?_
  refine pj_iconst (v := (nI 1)) C dd_Saver_choose_111 rfl ?_
  refine pj_isub C dd_Saver_choose_112 ?_
  refine pj_lload C dd_Saver_choose_113 hl 6 rfl ?_
  refine pj_lload C dd_Saver_choose_115 hl 9 rfl ?_
  refine pj_lor C dd_Saver_choose_117 ?_
  refine pj_lload C dd_Saver_choose_118 hl 1 rfl ?_
  obtain ⟨r4, z3, e2, h⟩ := pj_cE h
  refine pj_cVv (st := []) [.ref (B.2.1 8), .long x1, .int (v4 - (nI 1)), .long (v5 ||| v10), .long t0] C P 7 (LC7 hB) rfl (hR _ _ _ _ _ _ _ e2) cl_Saver_45 rfl (by omega) (by decide) hl.1 (Nat.le_of_ble_eq_true rfl) dd_Saver_choose_120 (fun H lo P => ?_)
  exact bt_Saver_choose_123 hB C Q hlv hR s36 k36 _ _ _ _ _ _ _ _ _ h P (lv_sub hl [2, 3, 4, 5, 6, 7, 8] rfl)
set_option maxHeartbeats 4000000 in
set_option maxRecDepth 100000 in
theorem bt_Saver_choose_36 {lv0 : Nat} {B : pj_B} {A : Nat → Prop} {K : pj_K} {r0 : Unit} {z0 : pj_S} (hB : B.2.2.2.1 = pj_LC) (C : pj_C B A K cX6_choose 16 RX6 (lv0 + 1)) (Q : pj_Qv B A K none r0 z0) (hlv : 4 ≤ lv0) {sR : Int64 → Int32 → Int64 → Int64 → pj_S → Option (Unit × pj_S)} (hR : ∀ (v2 : Int64) (v4 : Int32) (v5 : Int64) (v7 : Int64) (z : pj_S) (r : Unit) (z2 : pj_S), sR v2 v4 v5 v7 z = some (r, z2) → pj_Mv K.2.1 yX6_choose cX6_choose 16 none lv0 [.ref (B.2.1 7), .ref (B.2.1 8), .long v2, .int v4, .long v5, .long v7] B z r z2) (s36 : Int64 → Int32 → Int64 → Int64 → Int32 → pj_S → Option (Unit × pj_S)) (k36 : ∀ (v2 : Int64) (v4 : Int32) (v5 : Int64) (v7 : Int64) (v9 : Int32) (z : pj_S) (H : Heap) (lo : List Loc) (ls : Array Slot), s36 v2 v4 v5 v7 v9 z = some (r0, z0) → pj_P B A K z H lo → lv_has ls 16 [(0, .ref (B.2.1 7)), (1, .ref (B.2.1 8)), (2, .long v2), (4, .int v4), (5, .long v5), (7, .long v7), (9, .int v9)] → pj_W K H lo 36 ls []) (v2 : Int64) (v4 : Int32) (v5 : Int64) (v7 : Int64) (v9 : Int32) (z : pj_S) (H : Heap) (lo : List Loc) (ls : Array Slot) (h : Saver_choose_36 sR s36 v2 v4 v5 v7 v9 z = some (r0, z0)) (P : pj_P B A K z H lo) (hl : lv_has ls 16 [(0, .ref (B.2.1 7)), (1, .ref (B.2.1 8)), (2, .long v2), (4, .int v4), (5, .long v5), (7, .long v7), (9, .int v9)]) : pj_W K H lo 36 ls [] := by
  unfold Saver_choose_36 at h
  refine pj_iload C dd_Saver_choose_36 hl 6 rfl ?_
  refine pj_bipush (v := (nI 48)) C dd_Saver_choose_38 rfl ?_
  refine pj_ic_ge C h dd_Saver_choose_40 (fun h => ?_) (fun h => ?_)
  · exact pj_vret C Q P h dd_Saver_choose_129
  · refine pj_aload_n C dd_Saver_choose_43 rfl hl 0 rfl ?_
    refine pj_getI C P 7 (LC7 hB) rfl fl_Saver_20 dd_Saver_choose_44 ?_
    refine pj_if_le C h dd_Saver_choose_47 (fun h => ?_) (fun h => ?_)
    · exact pj_vret C Q P h dd_Saver_choose_129
    · refine pj_lconst (v := (1 : Int64)) C dd_Saver_choose_50 rfl ?_
      refine pj_iload C dd_Saver_choose_51 hl 6 rfl ?_
      refine pj_lshl C dd_Saver_choose_53 ?_
      refine pj_lstb [(0, .ref (B.2.1 7)), (1, .ref (B.2.1 8)), (2, .long v2), (4, .int v4), (5, .long v5), (7, .long v7), (9, .int v9)] C h dd_Saver_choose_54 hl (by decide) rfl (fun x1 ls h hl => ?_)
      refine pj_lload_n C dd_Saver_choose_56 rfl hl 3 rfl ?_
      refine pj_lload C dd_Saver_choose_57 hl 0 rfl ?_
      refine pj_land C dd_Saver_choose_59 ?_
      refine pj_lconst (v := (0 : Int64)) C dd_Saver_choose_60 rfl ?_
      refine pj_lcmp C dd_Saver_choose_61 ?_
      refine pj_if_eq C h dd_Saver_choose_62 (fun h => ?_) (fun h => ?_)
      · exact bt_Saver_choose_123 hB C Q hlv hR s36 k36 _ _ _ _ _ _ _ _ _ h P (lv_sub hl [1, 2, 3, 4, 5, 6, 7] rfl)
      · refine pj_lload C dd_Saver_choose_65 hl 6 rfl ?_
        refine pj_lload C dd_Saver_choose_67 hl 0 rfl ?_
        refine pj_land C dd_Saver_choose_69 ?_
        refine pj_lconst (v := (0 : Int64)) C dd_Saver_choose_70 rfl ?_
        refine pj_lcmp C dd_Saver_choose_71 ?_
        refine pj_if_ne C h dd_Saver_choose_72 (fun h => ?_) (fun h => ?_)
        · refine pj_aload_n C dd_Saver_choose_80 rfl hl 2 rfl ?_
          refine pj_lload C dd_Saver_choose_81 hl 5 rfl ?_
          refine pj_lload C dd_Saver_choose_83 hl 0 rfl ?_
          refine pj_lor C dd_Saver_choose_85 ?_
          obtain ⟨r4, z3, e2, h⟩ := pj_cE h
          refine pj_cSl (st := []) [.ref (B.2.1 8), .long (v5 ||| x1)] C P (ct_Saver_goingWith hB e2) cl_Saver_41 rfl (by omega) (by decide) hl.1 (Nat.le_of_ble_eq_true rfl) dd_Saver_choose_86 (fun H lo P => ?_)
          exact bt_Saver_choose_89 hB C Q hlv hR s36 k36 _ _ _ _ _ _ _ _ _ _ _ h P (lv_sub hl [1, 2, 3, 4, 5, 6, 7, 0] rfl)
        · refine pj_lload C dd_Saver_choose_75 hl 6 rfl ?_
          refine pj_goto C dd_Saver_choose_77 ?_
          exact bt_Saver_choose_89 hB C Q hlv hR s36 k36 _ _ _ _ _ _ _ _ _ _ _ h P (lv_sub hl [1, 2, 3, 4, 5, 6, 7, 0] rfl)
theorem lt_Saver_choose_36 {lv0 : Nat} {B : pj_B} {A : Nat → Prop} {K : pj_K} {r0 : Unit} {z0 : pj_S} (hB : B.2.2.2.1 = pj_LC) (C : pj_C B A K cX6_choose 16 RX6 (lv0 + 1)) (Q : pj_Qv B A K none r0 z0) (hlv : 4 ≤ lv0) {sR : Int64 → Int32 → Int64 → Int64 → pj_S → Option (Unit × pj_S)} (hR : ∀ (v2 : Int64) (v4 : Int32) (v5 : Int64) (v7 : Int64) (z : pj_S) (r : Unit) (z2 : pj_S), sR v2 v4 v5 v7 z = some (r, z2) → pj_Mv K.2.1 yX6_choose cX6_choose 16 none lv0 [.ref (B.2.1 7), .ref (B.2.1 8), .long v2, .int v4, .long v5, .long v7] B z r z2)  : ∀ (n : Nat) (v2 : Int64) (v4 : Int32) (v5 : Int64) (v7 : Int64) (v9 : Int32) (z : pj_S) (H : Heap) (lo : List Loc) (ls : Array Slot), pj_lp5 (Saver_choose_36 sR) n v2 v4 v5 v7 v9 z = some (r0, z0) → pj_P B A K z H lo → lv_has ls 16 [(0, .ref (B.2.1 7)), (1, .ref (B.2.1 8)), (2, .long v2), (4, .int v4), (5, .long v5), (7, .long v7), (9, .int v9)] → pj_W K H lo 36 ls [] := by
  intro n
  induction n with
  | zero => intro v2 v4 v5 v7 v9 z H lo ls h; rw [pj_lp5_0] at h; cases h
  | succ n ih =>
    intro v2 v4 v5 v7 v9 z H lo ls h P hl
    rw [pj_lp5_s] at h
    exact bt_Saver_choose_36 hB C Q hlv hR  (pj_lp5 (Saver_choose_36 sR) n) ih v2 v4 v5 v7 v9 z H lo ls h P hl
set_option maxHeartbeats 4000000 in
set_option maxRecDepth 100000 in
theorem ct_Saver_choose_B {l : Launch} {B : pj_B} (hB : B.2.2.2.1 = pj_LC) {lv0 : Nat} (hlv : 4 ≤ lv0) {sR : Int64 → Int32 → Int64 → Int64 → pj_S → Option (Unit × pj_S)} (hR : ∀ (v2 : Int64) (v4 : Int32) (v5 : Int64) (v7 : Int64) (z : pj_S) (r : Unit) (z2 : pj_S), sR v2 v4 v5 v7 z = some (r, z2) → pj_Mv l yX6_choose cX6_choose 16 none lv0 [.ref (B.2.1 7), .ref (B.2.1 8), .long v2, .int v4, .long v5, .long v7] B z r z2) {v2 : Int64} {v4 : Int32} {v5 : Int64} {v7 : Int64} {z : pj_S} {r0 : Unit} {z0 : pj_S} (h : Saver_choose_B sR v2 v4 v5 v7 z = some (r0, z0)) : pj_Mv l yX6_choose cX6_choose 16 none (lv0 + 1) [.ref (B.2.1 7), .ref (B.2.1 8), .long v2, .int v4, .long v5, .long v7] B z r0 z0 := by
  refine pj_metv (own := RX6) (by decide +kernel) rfl (Nat.le_of_ble_eq_true rfl) ?_
  intro A K hK C Q H lo ls P hl
  subst hK
  have hl : lv_has ls 16 [(0, .ref (B.2.1 7)), (1, .ref (B.2.1 8)), (2, .long v2), (4, .int v4), (5, .long v5), (7, .long v7)] := hl
  unfold Saver_choose_B at h
  refine pj_iload C dd_Saver_choose_0 hl 3 rfl ?_
  refine pj_if_gt C h dd_Saver_choose_2 (fun h => ?_) (fun h => ?_)
  · refine pj_iconst (v := (nI 0)) C dd_Saver_choose_33 rfl ?_
    refine pj_istore [(9, .int (nI 0)), (0, .ref (B.2.1 7)), (1, .ref (B.2.1 8)), (2, .long v2), (4, .int v4), (5, .long v5), (7, .long v7)] C dd_Saver_choose_34 hl (by decide) rfl (fun ls hl => ?_)
    exact lt_Saver_choose_36 hB C Q hlv hR 4000 _ _ _ _ _ _ _ _ _ h P (lv_sub hl [1, 2, 3, 4, 5, 6, 0] rfl)
  · refine pj_lload C dd_Saver_choose_5 hl 5 rfl ?_
    obtain ⟨r3, z2, e1, h⟩ := pj_cE h
    refine pj_cSi (st := []) [.long v7] C P (ct_JLong_bitCount hB e1) cl_Saver_29 rfl (by omega) (by decide) hl.1 (Nat.le_of_ble_eq_true rfl) dd_Saver_choose_7 (fun H lo P => ?_)
    refine pj_aload_n C dd_Saver_choose_10 rfl hl 0 rfl ?_
    refine pj_getI C P 7 (LC7 hB) rfl fl_Saver_20 dd_Saver_choose_11 ?_
    refine pj_ic_ge C h dd_Saver_choose_14 (fun h => ?_) (fun h => ?_)
    · exact pj_vret C Q P h dd_Saver_choose_32
    · refine pj_aload_n C dd_Saver_choose_17 rfl hl 0 rfl ?_
      refine pj_lload C dd_Saver_choose_18 hl 5 rfl ?_
      obtain ⟨r6, z5, e4, h⟩ := pj_cE h
      refine pj_cSi (st := [.ref (B.2.1 7)]) [.long v7] C P (ct_JLong_bitCount hB e4) cl_Saver_29 rfl (by omega) (by decide) hl.1 (Nat.le_of_ble_eq_true rfl) dd_Saver_choose_20 (fun H lo P => ?_)
      refine pj_putI C P 7 (LC7 hB) rfl fl_Saver_20 rfl fy_6_0 h dd_Saver_choose_23 (fun H lo z7 h P => ?_)
      refine pj_aload_n C dd_Saver_choose_26 rfl hl 0 rfl ?_
      refine pj_lload C dd_Saver_choose_27 hl 4 rfl ?_
      refine pj_putJ C P 7 (LC7 hB) rfl fl_Saver_26 rfl fy_6_1 h dd_Saver_choose_29 (fun H lo z8 h P => ?_)
      exact pj_vret C Q P h dd_Saver_choose_32
theorem ct_Saver_choose_d {l : Launch} {B : pj_B} (hB : B.2.2.2.1 = pj_LC) : ∀ (d : Nat) (v2 : Int64) (v4 : Int32) (v5 : Int64) (v7 : Int64) (z : pj_S) (r0 : Unit) (z0 : pj_S), pj_lp4 Saver_choose_B d v2 v4 v5 v7 z = some (r0, z0) → pj_Mv l yX6_choose cX6_choose 16 none (4 + 1 * d) [.ref (B.2.1 7), .ref (B.2.1 8), .long v2, .int v4, .long v5, .long v7] B z r0 z0 := by
  intro d
  induction d with
  | zero => intro v2 v4 v5 v7 z r0 z0 h; rw [pj_lp4_0] at h; cases h
  | succ d ih =>
    intro v2 v4 v5 v7 z r0 z0 h
    rw [pj_lp4_s] at h
    exact ct_Saver_choose_B hB (lv0 := 4 + 1 * d) (Nat.le_add_right _ _) ih h
theorem ct_Saver_choose_o {l : Launch} {B : pj_B} (hB : B.2.2.2.1 = pj_LC) {v2 : Int64} {v4 : Int32} {v5 : Int64} {v7 : Int64} {z : pj_S} {r0 : Unit} {z0 : pj_S} (h : Saver_choose_o v2 v4 v5 v7 z = some (r0, z0)) : pj_Mv l yX6_choose cX6_choose 16 none 10 [.ref (B.2.1 7), .ref (B.2.1 8), .long v2, .int v4, .long v5, .long v7] B z r0 z0 := ct_Saver_choose_d hB 6 _ _ _ _ _ _ _ h
theorem dd_Saver_search_0 : pj_d cX6_search 0 (.aload_n 1) 1 1 := ⟨by decide +kernel, rfl⟩
theorem dd_Saver_search_1 : pj_d cX6_search 1 (.getfield 9) 3 4 := ⟨by decide +kernel, rfl⟩
theorem dd_Saver_search_4 : pj_d cX6_search 4 (.aload_n 1) 1 5 := ⟨by decide +kernel, rfl⟩
theorem dd_Saver_search_5 : pj_d cX6_search 5 (.getfield 15) 3 8 := ⟨by decide +kernel, rfl⟩
theorem dd_Saver_search_8 : pj_d cX6_search 8 (.ldc2_w 18) 3 11 := ⟨by decide +kernel, rfl⟩
theorem dd_Saver_search_11 : pj_d cX6_search 11 (.lxor) 1 12 := ⟨by decide +kernel, rfl⟩
theorem dd_Saver_search_12 : pj_d cX6_search 12 (.land) 1 13 := ⟨by decide +kernel, rfl⟩
theorem dd_Saver_search_13 : pj_d cX6_search 13 (.lstore_n 3) 1 14 := ⟨by decide +kernel, rfl⟩
theorem dd_Saver_search_14 : pj_d cX6_search 14 (.aload_n 0) 1 15 := ⟨by decide +kernel, rfl⟩
theorem dd_Saver_search_15 : pj_d cX6_search 15 (.bipush 37) 2 17 := ⟨by decide +kernel, rfl⟩
theorem dd_Saver_search_17 : pj_d cX6_search 17 (.putfield 20) 3 20 := ⟨by decide +kernel, rfl⟩
theorem dd_Saver_search_20 : pj_d cX6_search 20 (.aload_n 0) 1 21 := ⟨by decide +kernel, rfl⟩
theorem dd_Saver_search_21 : pj_d cX6_search 21 (.lconst 0) 1 22 := ⟨by decide +kernel, rfl⟩
theorem dd_Saver_search_22 : pj_d cX6_search 22 (.putfield 26) 3 25 := ⟨by decide +kernel, rfl⟩
theorem dd_Saver_search_25 : pj_d cX6_search 25 (.aload_n 0) 1 26 := ⟨by decide +kernel, rfl⟩
theorem dd_Saver_search_26 : pj_d cX6_search 26 (.aload_n 1) 1 27 := ⟨by decide +kernel, rfl⟩
theorem dd_Saver_search_27 : pj_d cX6_search 27 (.lload_n 3) 1 28 := ⟨by decide +kernel, rfl⟩
theorem dd_Saver_search_28 : pj_d cX6_search 28 (.iload_n 2) 1 29 := ⟨by decide +kernel, rfl⟩
theorem dd_Saver_search_29 : pj_d cX6_search 29 (.lload_n 3) 1 30 := ⟨by decide +kernel, rfl⟩
theorem dd_Saver_search_30 : pj_d cX6_search 30 (.invokestatic 29) 3 33 := ⟨by decide +kernel, rfl⟩
theorem dd_Saver_search_33 : pj_d cX6_search 33 (.invokestatic 35) 3 36 := ⟨by decide +kernel, rfl⟩
theorem dd_Saver_search_36 : pj_d cX6_search 36 (.lconst 0) 1 37 := ⟨by decide +kernel, rfl⟩
theorem dd_Saver_search_37 : pj_d cX6_search 37 (.aload_n 1) 1 38 := ⟨by decide +kernel, rfl⟩
theorem dd_Saver_search_38 : pj_d cX6_search 38 (.lconst 0) 1 39 := ⟨by decide +kernel, rfl⟩
theorem dd_Saver_search_39 : pj_d cX6_search 39 (.invokestatic 41) 3 42 := ⟨by decide +kernel, rfl⟩
theorem dd_Saver_search_42 : pj_d cX6_search 42 (.invokevirtual 45) 3 45 := ⟨by decide +kernel, rfl⟩
theorem dd_Saver_search_45 : pj_d cX6_search 45 (.return_) 1 46 := ⟨by decide +kernel, rfl⟩
set_option maxHeartbeats 4000000 in
set_option maxRecDepth 100000 in
theorem ct_Saver_search {l : Launch} {B : pj_B} (hB : B.2.2.2.1 = pj_LC) {v2 : Int32} {z : pj_S} {r0 : Unit} {z0 : pj_S} (h : Saver_search v2 z = some (r0, z0)) : pj_Mv l yX6_search cX6_search 5 none 11 [.ref (B.2.1 7), .ref (B.2.1 8), .int v2] B z r0 z0 := by
  refine pj_metv (own := RX6) (by decide +kernel) rfl (Nat.le_of_ble_eq_true rfl) ?_
  intro A K hK C Q H lo ls P hl
  have hl : lv_has ls 5 [(0, .ref (B.2.1 7)), (1, .ref (B.2.1 8)), (2, .int v2)] := hl
  unfold Saver_search at h
  refine pj_aload_n C dd_Saver_search_0 rfl hl 1 rfl ?_
  refine pj_getJ C P 8 (LC8 hB) rfl fl_Saver_9 dd_Saver_search_1 ?_
  refine pj_aload_n C dd_Saver_search_4 rfl hl 1 rfl ?_
  refine pj_getJ C P 8 (LC8 hB) rfl fl_Saver_15 dd_Saver_search_5 ?_
  refine pj_ldc2 (v := (-1 : Int64)) C co_Saver_18 dd_Saver_search_8 ?_
  refine pj_lxor C dd_Saver_search_11 ?_
  refine pj_land C dd_Saver_search_12 ?_
  refine pj_lstb_n [(0, .ref (B.2.1 7)), (1, .ref (B.2.1 8)), (2, .int v2)] C h dd_Saver_search_13 rfl hl (by decide) rfl (fun x1 ls h hl => ?_)
  refine pj_aload_n C dd_Saver_search_14 rfl hl 1 rfl ?_
  refine pj_bipush (v := (nI 37)) C dd_Saver_search_15 rfl ?_
  refine pj_putI C P 7 (LC7 hB) rfl fl_Saver_20 rfl fy_6_0 h dd_Saver_search_17 (fun H lo z2 h P => ?_)
  refine pj_aload_n C dd_Saver_search_20 rfl hl 1 rfl ?_
  refine pj_lconst (v := (0 : Int64)) C dd_Saver_search_21 rfl ?_
  refine pj_putJ C P 7 (LC7 hB) rfl fl_Saver_26 rfl fy_6_1 h dd_Saver_search_22 (fun H lo z3 h P => ?_)
  refine pj_aload_n C dd_Saver_search_25 rfl hl 1 rfl ?_
  refine pj_aload_n C dd_Saver_search_26 rfl hl 2 rfl ?_
  refine pj_lload_n C dd_Saver_search_27 rfl hl 0 rfl ?_
  refine pj_iload_n C dd_Saver_search_28 rfl hl 3 rfl ?_
  refine pj_lload_n C dd_Saver_search_29 rfl hl 0 rfl ?_
  obtain ⟨r6, z5, e4, h⟩ := pj_cE h
  refine pj_cSi (st := [.int v2, .long x1, .ref (B.2.1 8), .ref (B.2.1 7)]) [.long x1] C P (ct_JLong_bitCount hB e4) cl_Saver_29 rfl (by decide) (by decide) hl.1 (Nat.le_of_ble_eq_true rfl) dd_Saver_search_30 (fun H lo P => ?_)
  refine pj_mmin C cl_Saver_35 (by decide) hl.1 (Nat.le_of_ble_eq_true rfl) dd_Saver_search_33 ?_
  refine pj_lconst (v := (0 : Int64)) C dd_Saver_search_36 rfl ?_
  refine pj_aload_n C dd_Saver_search_37 rfl hl 2 rfl ?_
  refine pj_lconst (v := (0 : Int64)) C dd_Saver_search_38 rfl ?_
  obtain ⟨r9, z8, e7, h⟩ := pj_cE h
  refine pj_cSl (st := [.long (0 : Int64), .int (pj_min v2 r6), .long x1, .ref (B.2.1 8), .ref (B.2.1 7)]) [.ref (B.2.1 8), .long (0 : Int64)] C P (ct_Saver_goingWith hB e7) cl_Saver_41 rfl (by decide) (by decide) hl.1 (Nat.le_of_ble_eq_true rfl) dd_Saver_search_39 (fun H lo P => ?_)
  obtain ⟨r12, z11, e10, h⟩ := pj_cE h
  refine pj_cVv (st := []) [.ref (B.2.1 8), .long x1, .int (pj_min v2 r6), .long (0 : Int64), .long r9] C P 7 (LC7 hB) rfl (ct_Saver_choose_o hB e10) cl_Saver_45 rfl (by decide) (by decide) hl.1 (Nat.le_of_ble_eq_true rfl) dd_Saver_search_42 (fun H lo P => ?_)
  exact pj_vret C Q P h dd_Saver_search_45
