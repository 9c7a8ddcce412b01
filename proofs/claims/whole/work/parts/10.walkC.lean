theorem dd_Past_forget_0 : pj_d cX4_forget 0 (.aload_n 0) 1 1 := ⟨by decide +kernel, rfl⟩
theorem dd_Past_forget_1 : pj_d cX4_forget 1 (.iconst 0) 1 2 := ⟨by decide +kernel, rfl⟩
theorem dd_Past_forget_2 : pj_d cX4_forget 2 (.putfield 34) 3 5 := ⟨by decide +kernel, rfl⟩
theorem dd_Past_forget_5 : pj_d cX4_forget 5 (.return_) 1 6 := ⟨by decide +kernel, rfl⟩
set_option maxHeartbeats 4000000 in
set_option maxRecDepth 100000 in
theorem ct_Past_forget {l : Launch} {B : pj_B} (hB : B.2.2.2.1 = pj_LC)  {z : pj_S} {r0 : Unit} {z0 : pj_S} (h : Past_forget z = some (r0, z0)) : pj_Mv l yX4_forget cX4_forget 1 none 1 [.ref (B.2.1 3)] B z r0 z0 := by
  refine pj_metv (own := RX4) (by decide +kernel) rfl (Nat.le_of_ble_eq_true rfl) ?_
  intro A K hK C Q H lo ls P hl
  have hl : lv_has ls 1 [(0, .ref (B.2.1 3))] := hl
  unfold Past_forget at h
  refine pj_aload_n C dd_Past_forget_0 rfl hl 0 rfl ?_
  refine pj_iconst (v := (nI 0)) C dd_Past_forget_1 rfl ?_
  refine pj_putI C P 3 (LC3 hB) rfl fl_Past_34 rfl fy_4_7 h dd_Past_forget_2 (fun H lo z1 h P => ?_)
  exact pj_vret C Q P h dd_Past_forget_5
theorem dd_PJ_state_0 : pj_d cX10_state 0 (.aload_n 0) 1 1 := ⟨by decide +kernel, rfl⟩
theorem dd_PJ_state_1 : pj_d cX10_state 1 (.getfield 10) 3 4 := ⟨by decide +kernel, rfl⟩
theorem dd_PJ_state_4 : pj_d cX10_state 4 (.getfield 58) 3 7 := ⟨by decide +kernel, rfl⟩
theorem dd_PJ_state_7 : pj_d cX10_state 7 (.istore_n 2) 1 8 := ⟨by decide +kernel, rfl⟩
theorem dd_PJ_state_8 : pj_d cX10_state 8 (.aload_n 0) 1 9 := ⟨by decide +kernel, rfl⟩
theorem dd_PJ_state_9 : pj_d cX10_state 9 (.getfield 10) 3 12 := ⟨by decide +kernel, rfl⟩
theorem dd_PJ_state_12 : pj_d cX10_state 12 (.iload_n 1) 1 13 := ⟨by decide +kernel, rfl⟩
theorem dd_PJ_state_13 : pj_d cX10_state 13 (.putfield 58) 3 16 := ⟨by decide +kernel, rfl⟩
theorem dd_PJ_state_16 : pj_d cX10_state 16 (.aload_n 0) 1 17 := ⟨by decide +kernel, rfl⟩
theorem dd_PJ_state_17 : pj_d cX10_state 17 (.getfield 22) 3 20 := ⟨by decide +kernel, rfl⟩
theorem dd_PJ_state_20 : pj_d cX10_state 20 (.invokevirtual 62) 3 23 := ⟨by decide +kernel, rfl⟩
theorem dd_PJ_state_23 : pj_d cX10_state 23 (.iload_n 2) 1 24 := ⟨by decide +kernel, rfl⟩
theorem dd_PJ_state_24 : pj_d cX10_state 24 (.ireturn) 1 25 := ⟨by decide +kernel, rfl⟩
set_option maxHeartbeats 4000000 in
set_option maxRecDepth 100000 in
theorem ct_PJ_state {l : Launch} {B : pj_B} (hB : B.2.2.2.1 = pj_LC) {v1 : Int32} {z : pj_S} {r0 : Int32} {z0 : pj_S} (h : PJ_state v1 z = some (r0, z0)) : pj_Mi l yX10_state cX10_state 3 (some .int) 2 [.ref (B.2.1 0), .int v1] B z r0 z0 := by
  refine pj_meti (own := RX10) (by decide +kernel) rfl (Nat.le_of_ble_eq_true rfl) ?_
  intro A K hK C Q H lo ls P hl
  have hl : lv_has ls 3 [(0, .ref (B.2.1 0)), (1, .int v1)] := hl
  unfold PJ_state at h
  refine pj_aload_n C dd_PJ_state_0 rfl hl 0 rfl ?_
  refine pj_getR C P 0 (LC0 hB) rfl fl_PJ_10 dd_PJ_state_1 ?_
  refine pj_getI C P 1 (LC1 hB) rfl fl_PJ_58 dd_PJ_state_4 ?_
  refine pj_istb_n [(0, .ref (B.2.1 0)), (1, .int v1)] C h dd_PJ_state_7 rfl hl (by decide) rfl (fun x1 ls h hl => ?_)
  refine pj_aload_n C dd_PJ_state_8 rfl hl 1 rfl ?_
  refine pj_getR C P 0 (LC0 hB) rfl fl_PJ_10 dd_PJ_state_9 ?_
  refine pj_iload_n C dd_PJ_state_12 rfl hl 2 rfl ?_
  refine pj_putI C P 1 (LC1 hB) rfl fl_PJ_58 rfl fy_8_5 h dd_PJ_state_13 (fun H lo z2 h P => ?_)
  refine pj_aload_n C dd_PJ_state_16 rfl hl 1 rfl ?_
  refine pj_getR C P 0 (LC0 hB) rfl fl_PJ_22 dd_PJ_state_17 ?_
  obtain ⟨r5, z4, e3, h⟩ := pj_cE h
  refine pj_cVv (st := []) [] C P 3 (LC3 hB) rfl (ct_Past_forget hB e3) cl_PJ_62 rfl (by decide) (by decide) hl.1 (Nat.le_of_ble_eq_true rfl) dd_PJ_state_20 (fun H lo P => ?_)
  refine pj_iload_n C dd_PJ_state_23 rfl hl 0 rfl ?_
  exact pj_iret C Q P h dd_PJ_state_24
theorem dd_PJ_rectangle_0 : pj_d cX10_rectangle 0 (.lconst 1) 1 1 := ⟨by decide +kernel, rfl⟩
theorem dd_PJ_rectangle_1 : pj_d cX10_rectangle 1 (.iload_n 1) 1 2 := ⟨by decide +kernel, rfl⟩
theorem dd_PJ_rectangle_2 : pj_d cX10_rectangle 2 (.iconst 1) 1 3 := ⟨by decide +kernel, rfl⟩
theorem dd_PJ_rectangle_3 : pj_d cX10_rectangle 3 (.iadd) 1 4 := ⟨by decide +kernel, rfl⟩
theorem dd_PJ_rectangle_4 : pj_d cX10_rectangle 4 (.lshl) 1 5 := ⟨by decide +kernel, rfl⟩
theorem dd_PJ_rectangle_5 : pj_d cX10_rectangle 5 (.lconst 1) 1 6 := ⟨by decide +kernel, rfl⟩
theorem dd_PJ_rectangle_6 : pj_d cX10_rectangle 6 (.iload_n 0) 1 7 := ⟨by decide +kernel, rfl⟩
theorem dd_PJ_rectangle_7 : pj_d cX10_rectangle 7 (.lshl) 1 8 := ⟨by decide +kernel, rfl⟩
theorem dd_PJ_rectangle_8 : pj_d cX10_rectangle 8 (.lsub) 1 9 := ⟨by decide +kernel, rfl⟩
theorem dd_PJ_rectangle_9 : pj_d cX10_rectangle 9 (.lstore 4) 2 11 := ⟨by decide +kernel, rfl⟩
theorem dd_PJ_rectangle_11 : pj_d cX10_rectangle 11 (.lconst 0) 1 12 := ⟨by decide +kernel, rfl⟩
theorem dd_PJ_rectangle_12 : pj_d cX10_rectangle 12 (.lstore 6) 2 14 := ⟨by decide +kernel, rfl⟩
theorem dd_PJ_rectangle_14 : pj_d cX10_rectangle 14 (.iload_n 2) 1 15 := ⟨by decide +kernel, rfl⟩
theorem dd_PJ_rectangle_15 : pj_d cX10_rectangle 15 (.istore 8) 2 17 := ⟨by decide +kernel, rfl⟩
theorem dd_PJ_rectangle_17 : pj_d cX10_rectangle 17 (.iload 8) 2 19 := ⟨by decide +kernel, rfl⟩
theorem dd_PJ_rectangle_19 : pj_d cX10_rectangle 19 (.iload_n 3) 1 20 := ⟨by decide +kernel, rfl⟩
theorem dd_PJ_rectangle_20 : pj_dj cX10_rectangle 20 (.if_icmp .gt 29) 29 23 49 := ⟨by decide +kernel, rfl, by decide⟩
theorem dd_PJ_rectangle_23 : pj_d cX10_rectangle 23 (.iload 8) 2 25 := ⟨by decide +kernel, rfl⟩
theorem dd_PJ_rectangle_25 : pj_d cX10_rectangle 25 (.bipush 6) 2 27 := ⟨by decide +kernel, rfl⟩
theorem dd_PJ_rectangle_27 : pj_dj cX10_rectangle 27 (.if_icmp .ge 22) 22 30 49 := ⟨by decide +kernel, rfl, by decide⟩
theorem dd_PJ_rectangle_30 : pj_d cX10_rectangle 30 (.lload 6) 2 32 := ⟨by decide +kernel, rfl⟩
theorem dd_PJ_rectangle_32 : pj_d cX10_rectangle 32 (.lload 4) 2 34 := ⟨by decide +kernel, rfl⟩
theorem dd_PJ_rectangle_34 : pj_d cX10_rectangle 34 (.bipush 8) 2 36 := ⟨by decide +kernel, rfl⟩
theorem dd_PJ_rectangle_36 : pj_d cX10_rectangle 36 (.iload 8) 2 38 := ⟨by decide +kernel, rfl⟩
theorem dd_PJ_rectangle_38 : pj_d cX10_rectangle 38 (.imul) 1 39 := ⟨by decide +kernel, rfl⟩
theorem dd_PJ_rectangle_39 : pj_d cX10_rectangle 39 (.lshl) 1 40 := ⟨by decide +kernel, rfl⟩
theorem dd_PJ_rectangle_40 : pj_d cX10_rectangle 40 (.lor) 1 41 := ⟨by decide +kernel, rfl⟩
theorem dd_PJ_rectangle_41 : pj_d cX10_rectangle 41 (.lstore 6) 2 43 := ⟨by decide +kernel, rfl⟩
theorem dd_PJ_rectangle_43 : pj_d cX10_rectangle 43 (.iinc 8 1) 3 46 := ⟨by decide +kernel, rfl⟩
theorem dd_PJ_rectangle_46 : pj_dj cX10_rectangle 46 (.goto (-29)) (-29) 49 17 := ⟨by decide +kernel, rfl, by decide⟩
theorem dd_PJ_rectangle_49 : pj_d cX10_rectangle 49 (.lload 6) 2 51 := ⟨by decide +kernel, rfl⟩
theorem dd_PJ_rectangle_51 : pj_d cX10_rectangle 51 (.lreturn) 1 52 := ⟨by decide +kernel, rfl⟩
set_option maxHeartbeats 4000000 in
set_option maxRecDepth 100000 in
theorem bt_PJ_rectangle_49 {B : pj_B} {A : Nat → Prop} {K : pj_K} {r0 : Int64} {z0 : pj_S} (hB : B.2.2.2.1 = pj_LC) (C : pj_C B A K cX10_rectangle 9 RX10 1) (Q : pj_Ql B A K (some .long) r0 z0)  (v6 : Int64) (z : pj_S) (H : Heap) (lo : List Loc) (ls : Array Slot) (h : PJ_rectangle_49 v6 z = some (r0, z0)) (P : pj_P B A K z H lo) (hl : lv_has ls 9 [(6, .long v6)]) : pj_W K H lo 49 ls [] := by
  unfold PJ_rectangle_49 at h
  refine pj_lload C dd_PJ_rectangle_49 hl 0 rfl ?_
  exact pj_lret C Q P h dd_PJ_rectangle_51
set_option maxHeartbeats 4000000 in
set_option maxRecDepth 100000 in
theorem bt_PJ_rectangle_17 {B : pj_B} {A : Nat → Prop} {K : pj_K} {r0 : Int64} {z0 : pj_S} (hB : B.2.2.2.1 = pj_LC) (C : pj_C B A K cX10_rectangle 9 RX10 1) (Q : pj_Ql B A K (some .long) r0 z0) (s17 : Int32 → Int64 → Int64 → Int32 → pj_S → Option (Int64 × pj_S)) (k17 : ∀ (v3 : Int32) (v4 : Int64) (v6 : Int64) (v8 : Int32) (z : pj_S) (H : Heap) (lo : List Loc) (ls : Array Slot), s17 v3 v4 v6 v8 z = some (r0, z0) → pj_P B A K z H lo → lv_has ls 9 [(3, .int v3), (4, .long v4), (6, .long v6), (8, .int v8)] → pj_W K H lo 17 ls []) (v3 : Int32) (v4 : Int64) (v6 : Int64) (v8 : Int32) (z : pj_S) (H : Heap) (lo : List Loc) (ls : Array Slot) (h : PJ_rectangle_17 s17 v3 v4 v6 v8 z = some (r0, z0)) (P : pj_P B A K z H lo) (hl : lv_has ls 9 [(3, .int v3), (4, .long v4), (6, .long v6), (8, .int v8)]) : pj_W K H lo 17 ls [] := by
  unfold PJ_rectangle_17 at h
  refine pj_iload C dd_PJ_rectangle_17 hl 3 rfl ?_
  refine pj_iload_n C dd_PJ_rectangle_19 rfl hl 0 rfl ?_
  refine pj_ic_gt C h dd_PJ_rectangle_20 (fun h => ?_) (fun h => ?_)
  · exact bt_PJ_rectangle_49 hB C Q _ _ _ _ _ h P (lv_sub hl [2] rfl)
  · refine pj_iload C dd_PJ_rectangle_23 hl 3 rfl ?_
    refine pj_bipush (v := (nI 6)) C dd_PJ_rectangle_25 rfl ?_
    refine pj_ic_ge C h dd_PJ_rectangle_27 (fun h => ?_) (fun h => ?_)
    · exact bt_PJ_rectangle_49 hB C Q _ _ _ _ _ h P (lv_sub hl [2] rfl)
    · refine pj_lload C dd_PJ_rectangle_30 hl 2 rfl ?_
      refine pj_lload C dd_PJ_rectangle_32 hl 1 rfl ?_
      refine pj_bipush (v := (nI 8)) C dd_PJ_rectangle_34 rfl ?_
      refine pj_iload C dd_PJ_rectangle_36 hl 3 rfl ?_
      refine pj_imul C dd_PJ_rectangle_38 ?_
      refine pj_lshl C dd_PJ_rectangle_39 ?_
      refine pj_lor C dd_PJ_rectangle_40 ?_
      refine pj_lstb [(3, .int v3), (4, .long v4), (8, .int v8)] C h dd_PJ_rectangle_41 hl (by decide) rfl (fun x1 ls h hl => ?_)
      refine pj_iinc (v := (nI 1)) [(6, .long x1), (3, .int v3), (4, .long v4)] C h rfl dd_PJ_rectangle_43 hl 3 rfl (by decide) rfl (fun x2 ls h hl => ?_)
      refine pj_goto C dd_PJ_rectangle_46 ?_
      exact k17 _ _ _ _ _ _ _ _ h P (lv_sub hl [2, 3, 1, 0] rfl)
theorem lt_PJ_rectangle_17 {B : pj_B} {A : Nat → Prop} {K : pj_K} {r0 : Int64} {z0 : pj_S} (hB : B.2.2.2.1 = pj_LC) (C : pj_C B A K cX10_rectangle 9 RX10 1) (Q : pj_Ql B A K (some .long) r0 z0)  : ∀ (n : Nat) (v3 : Int32) (v4 : Int64) (v6 : Int64) (v8 : Int32) (z : pj_S) (H : Heap) (lo : List Loc) (ls : Array Slot), pj_lp4 PJ_rectangle_17 n v3 v4 v6 v8 z = some (r0, z0) → pj_P B A K z H lo → lv_has ls 9 [(3, .int v3), (4, .long v4), (6, .long v6), (8, .int v8)] → pj_W K H lo 17 ls [] := by
  intro n
  induction n with
  | zero => intro v3 v4 v6 v8 z H lo ls h; rw [pj_lp4_0] at h; cases h
  | succ n ih =>
    intro v3 v4 v6 v8 z H lo ls h P hl
    rw [pj_lp4_s] at h
    exact bt_PJ_rectangle_17 hB C Q   (pj_lp4 PJ_rectangle_17 n) ih v3 v4 v6 v8 z H lo ls h P hl
set_option maxHeartbeats 4000000 in
set_option maxRecDepth 100000 in
theorem ct_PJ_rectangle {l : Launch} {B : pj_B} (hB : B.2.2.2.1 = pj_LC) {v0 : Int32} {v1 : Int32} {v2 : Int32} {v3 : Int32} {z : pj_S} {r0 : Int64} {z0 : pj_S} (h : PJ_rectangle v0 v1 v2 v3 z = some (r0, z0)) : pj_Ml l yX10_rectangle cX10_rectangle 9 (some .long) 1 [.int v0, .int v1, .int v2, .int v3] B z r0 z0 := by
  refine pj_metl (own := RX10) (by decide +kernel) rfl (Nat.le_of_ble_eq_true rfl) ?_
  intro A K hK C Q H lo ls P hl
  have hl : lv_has ls 9 [(0, .int v0), (1, .int v1), (2, .int v2), (3, .int v3)] := hl
  unfold PJ_rectangle at h
  refine pj_lconst (v := (1 : Int64)) C dd_PJ_rectangle_0 rfl ?_
  refine pj_iload_n C dd_PJ_rectangle_1 rfl hl 1 rfl ?_
  refine pj_iconst (v := (nI 1)) C dd_PJ_rectangle_2 rfl ?_
  refine pj_iadd C dd_PJ_rectangle_3 ?_
  refine pj_lshl C dd_PJ_rectangle_4 ?_
  refine pj_lconst (v := (1 : Int64)) C dd_PJ_rectangle_5 rfl ?_
  refine pj_iload_n C dd_PJ_rectangle_6 rfl hl 0 rfl ?_
  refine pj_lshl C dd_PJ_rectangle_7 ?_
  refine pj_lsub C dd_PJ_rectangle_8 ?_
  refine pj_lstb [(0, .int v0), (1, .int v1), (2, .int v2), (3, .int v3)] C h dd_PJ_rectangle_9 hl (by decide) rfl (fun x1 ls h hl => ?_)
  refine pj_lconst (v := (0 : Int64)) C dd_PJ_rectangle_11 rfl ?_
  refine pj_lstore [(6, .long (0 : Int64)), (4, .long x1), (0, .int v0), (1, .int v1), (2, .int v2), (3, .int v3)] C dd_PJ_rectangle_12 hl (by decide) rfl (fun ls hl => ?_)
  refine pj_iload_n C dd_PJ_rectangle_14 rfl hl 4 rfl ?_
  refine pj_istore [(8, .int v2), (6, .long (0 : Int64)), (4, .long x1), (0, .int v0), (1, .int v1), (2, .int v2), (3, .int v3)] C dd_PJ_rectangle_15 hl (by decide) rfl (fun ls hl => ?_)
  exact lt_PJ_rectangle_17 hB C Q 4000 _ _ _ _ _ _ _ _ h P (lv_sub hl [6, 2, 1, 0] rfl)
theorem dd_Fabric_begin_0 : pj_d cX1_begin 0 (.aload_n 0) 1 1 := ⟨by decide +kernel, rfl⟩
theorem dd_Fabric_begin_1 : pj_d cX1_begin 1 (.iload_n 1) 1 2 := ⟨by decide +kernel, rfl⟩
theorem dd_Fabric_begin_2 : pj_d cX1_begin 2 (.putfield 9) 3 5 := ⟨by decide +kernel, rfl⟩
theorem dd_Fabric_begin_5 : pj_d cX1_begin 5 (.aload_n 0) 1 6 := ⟨by decide +kernel, rfl⟩
theorem dd_Fabric_begin_6 : pj_d cX1_begin 6 (.iload_n 2) 1 7 := ⟨by decide +kernel, rfl⟩
theorem dd_Fabric_begin_7 : pj_d cX1_begin 7 (.putfield 15) 3 10 := ⟨by decide +kernel, rfl⟩
theorem dd_Fabric_begin_10 : pj_d cX1_begin 10 (.aload_n 0) 1 11 := ⟨by decide +kernel, rfl⟩
theorem dd_Fabric_begin_11 : pj_d cX1_begin 11 (.iconst 1) 1 12 := ⟨by decide +kernel, rfl⟩
theorem dd_Fabric_begin_12 : pj_d cX1_begin 12 (.putfield 18) 3 15 := ⟨by decide +kernel, rfl⟩
theorem dd_Fabric_begin_15 : pj_d cX1_begin 15 (.aload_n 0) 1 16 := ⟨by decide +kernel, rfl⟩
theorem dd_Fabric_begin_16 : pj_d cX1_begin 16 (.iconst 0) 1 17 := ⟨by decide +kernel, rfl⟩
theorem dd_Fabric_begin_17 : pj_d cX1_begin 17 (.iload_n 1) 1 18 := ⟨by decide +kernel, rfl⟩
theorem dd_Fabric_begin_18 : pj_d cX1_begin 18 (.iconst 1) 1 19 := ⟨by decide +kernel, rfl⟩
theorem dd_Fabric_begin_19 : pj_d cX1_begin 19 (.isub) 1 20 := ⟨by decide +kernel, rfl⟩
theorem dd_Fabric_begin_20 : pj_d cX1_begin 20 (.iconst 0) 1 21 := ⟨by decide +kernel, rfl⟩
theorem dd_Fabric_begin_21 : pj_d cX1_begin 21 (.iload_n 2) 1 22 := ⟨by decide +kernel, rfl⟩
theorem dd_Fabric_begin_22 : pj_d cX1_begin 22 (.iconst 1) 1 23 := ⟨by decide +kernel, rfl⟩
theorem dd_Fabric_begin_23 : pj_d cX1_begin 23 (.isub) 1 24 := ⟨by decide +kernel, rfl⟩
theorem dd_Fabric_begin_24 : pj_d cX1_begin 24 (.invokestatic 22) 3 27 := ⟨by decide +kernel, rfl⟩
theorem dd_Fabric_begin_27 : pj_d cX1_begin 27 (.putfield 26) 3 30 := ⟨by decide +kernel, rfl⟩
theorem dd_Fabric_begin_30 : pj_d cX1_begin 30 (.aload_n 0) 1 31 := ⟨by decide +kernel, rfl⟩
theorem dd_Fabric_begin_31 : pj_d cX1_begin 31 (.lconst 0) 1 32 := ⟨by decide +kernel, rfl⟩
theorem dd_Fabric_begin_32 : pj_d cX1_begin 32 (.putfield 30) 3 35 := ⟨by decide +kernel, rfl⟩
theorem dd_Fabric_begin_35 : pj_d cX1_begin 35 (.aload_n 0) 1 36 := ⟨by decide +kernel, rfl⟩
theorem dd_Fabric_begin_36 : pj_d cX1_begin 36 (.lconst 0) 1 37 := ⟨by decide +kernel, rfl⟩
theorem dd_Fabric_begin_37 : pj_d cX1_begin 37 (.putfield 33) 3 40 := ⟨by decide +kernel, rfl⟩
theorem dd_Fabric_begin_40 : pj_d cX1_begin 40 (.aload_n 0) 1 41 := ⟨by decide +kernel, rfl⟩
theorem dd_Fabric_begin_41 : pj_d cX1_begin 41 (.aload_n 0) 1 42 := ⟨by decide +kernel, rfl⟩
theorem dd_Fabric_begin_42 : pj_d cX1_begin 42 (.getfield 26) 3 45 := ⟨by decide +kernel, rfl⟩
theorem dd_Fabric_begin_45 : pj_d cX1_begin 45 (.putfield 36) 3 48 := ⟨by decide +kernel, rfl⟩
theorem dd_Fabric_begin_48 : pj_d cX1_begin 48 (.aload_n 0) 1 49 := ⟨by decide +kernel, rfl⟩
theorem dd_Fabric_begin_49 : pj_d cX1_begin 49 (.lconst 0) 1 50 := ⟨by decide +kernel, rfl⟩
theorem dd_Fabric_begin_50 : pj_d cX1_begin 50 (.putfield 39) 3 53 := ⟨by decide +kernel, rfl⟩
theorem dd_Fabric_begin_53 : pj_d cX1_begin 53 (.aload_n 0) 1 54 := ⟨by decide +kernel, rfl⟩
theorem dd_Fabric_begin_54 : pj_d cX1_begin 54 (.lconst 0) 1 55 := ⟨by decide +kernel, rfl⟩
theorem dd_Fabric_begin_55 : pj_d cX1_begin 55 (.putfield 42) 3 58 := ⟨by decide +kernel, rfl⟩
theorem dd_Fabric_begin_58 : pj_d cX1_begin 58 (.aload_n 0) 1 59 := ⟨by decide +kernel, rfl⟩
theorem dd_Fabric_begin_59 : pj_d cX1_begin 59 (.lconst 0) 1 60 := ⟨by decide +kernel, rfl⟩
theorem dd_Fabric_begin_60 : pj_d cX1_begin 60 (.putfield 45) 3 63 := ⟨by decide +kernel, rfl⟩
theorem dd_Fabric_begin_63 : pj_d cX1_begin 63 (.return_) 1 64 := ⟨by decide +kernel, rfl⟩
set_option maxHeartbeats 4000000 in
set_option maxRecDepth 100000 in
theorem ct_Fabric_begin {l : Launch} {B : pj_B} (hB : B.2.2.2.1 = pj_LC) {v1 : Int32} {v2 : Int32} {z : pj_S} {r0 : Unit} {z0 : pj_S} (h : Fabric_begin v1 v2 z = some (r0, z0)) : pj_Mv l yX1_begin cX1_begin 3 none 2 [.ref (B.2.1 8), .int v1, .int v2] B z r0 z0 := by
  refine pj_metv (own := RX1) (by decide +kernel) rfl (Nat.le_of_ble_eq_true rfl) ?_
  intro A K hK C Q H lo ls P hl
  have hl : lv_has ls 3 [(0, .ref (B.2.1 8)), (1, .int v1), (2, .int v2)] := hl
  unfold Fabric_begin at h
  refine pj_aload_n C dd_Fabric_begin_0 rfl hl 0 rfl ?_
  refine pj_iload_n C dd_Fabric_begin_1 rfl hl 1 rfl ?_
  refine pj_putI C P 8 (LC8 hB) rfl fl_Fabric_9 rfl fy_1_0 h dd_Fabric_begin_2 (fun H lo z1 h P => ?_)
  refine pj_aload_n C dd_Fabric_begin_5 rfl hl 0 rfl ?_
  refine pj_iload_n C dd_Fabric_begin_6 rfl hl 2 rfl ?_
  refine pj_putI C P 8 (LC8 hB) rfl fl_Fabric_15 rfl fy_1_1 h dd_Fabric_begin_7 (fun H lo z2 h P => ?_)
  refine pj_aload_n C dd_Fabric_begin_10 rfl hl 0 rfl ?_
  refine pj_iconst (v := (nI 1)) C dd_Fabric_begin_11 rfl ?_
  refine pj_putZ C P 8 (LC8 hB) rfl fl_Fabric_18 rfl fy_1_2 h dd_Fabric_begin_12 (fun H lo z3 h P => ?_)
  refine pj_aload_n C dd_Fabric_begin_15 rfl hl 0 rfl ?_
  refine pj_iconst (v := (nI 0)) C dd_Fabric_begin_16 rfl ?_
  refine pj_iload_n C dd_Fabric_begin_17 rfl hl 1 rfl ?_
  refine pj_iconst (v := (nI 1)) C dd_Fabric_begin_18 rfl ?_
  refine pj_isub C dd_Fabric_begin_19 ?_
  refine pj_iconst (v := (nI 0)) C dd_Fabric_begin_20 rfl ?_
  refine pj_iload_n C dd_Fabric_begin_21 rfl hl 2 rfl ?_
  refine pj_iconst (v := (nI 1)) C dd_Fabric_begin_22 rfl ?_
  refine pj_isub C dd_Fabric_begin_23 ?_
  obtain ⟨r6, z5, e4, h⟩ := pj_cE h
  refine pj_cNl (st := [.ref (B.2.1 8)]) [.int (nI 0), .int (v1 - (nI 1)), .int (nI 0), .int (v2 - (nI 1))] C P (ct_PJ_rectangle hB e4) cl_Fabric_22 rfl (by decide) (by decide) hl.1 (Nat.le_of_ble_eq_true rfl) dd_Fabric_begin_24 (fun H lo P => ?_)
  refine pj_putJ C P 8 (LC8 hB) rfl fl_Fabric_26 rfl fy_1_3 h dd_Fabric_begin_27 (fun H lo z7 h P => ?_)
  refine pj_aload_n C dd_Fabric_begin_30 rfl hl 0 rfl ?_
  refine pj_lconst (v := (0 : Int64)) C dd_Fabric_begin_31 rfl ?_
  refine pj_putJ C P 8 (LC8 hB) rfl fl_Fabric_30 rfl fy_1_4 h dd_Fabric_begin_32 (fun H lo z8 h P => ?_)
  refine pj_aload_n C dd_Fabric_begin_35 rfl hl 0 rfl ?_
  refine pj_lconst (v := (0 : Int64)) C dd_Fabric_begin_36 rfl ?_
  refine pj_putJ C P 8 (LC8 hB) rfl fl_Fabric_33 rfl fy_1_5 h dd_Fabric_begin_37 (fun H lo z9 h P => ?_)
  refine pj_aload_n C dd_Fabric_begin_40 rfl hl 0 rfl ?_
  refine pj_aload_n C dd_Fabric_begin_41 rfl hl 0 rfl ?_
  refine pj_getJ C P 8 (LC8 hB) rfl fl_Fabric_26 dd_Fabric_begin_42 ?_
  refine pj_putJ C P 8 (LC8 hB) rfl fl_Fabric_36 rfl fy_1_6 h dd_Fabric_begin_45 (fun H lo z10 h P => ?_)
  refine pj_aload_n C dd_Fabric_begin_48 rfl hl 0 rfl ?_
  refine pj_lconst (v := (0 : Int64)) C dd_Fabric_begin_49 rfl ?_
  refine pj_putJ C P 8 (LC8 hB) rfl fl_Fabric_39 rfl fy_1_7 h dd_Fabric_begin_50 (fun H lo z11 h P => ?_)
  refine pj_aload_n C dd_Fabric_begin_53 rfl hl 0 rfl ?_
  refine pj_lconst (v := (0 : Int64)) C dd_Fabric_begin_54 rfl ?_
  refine pj_putJ C P 8 (LC8 hB) rfl fl_Fabric_42 rfl fy_1_8 h dd_Fabric_begin_55 (fun H lo z12 h P => ?_)
  refine pj_aload_n C dd_Fabric_begin_58 rfl hl 0 rfl ?_
  refine pj_lconst (v := (0 : Int64)) C dd_Fabric_begin_59 rfl ?_
  refine pj_putJ C P 8 (LC8 hB) rfl fl_Fabric_45 rfl fy_1_9 h dd_Fabric_begin_60 (fun H lo z13 h P => ?_)
  exact pj_vret C Q P h dd_Fabric_begin_63
theorem dd_Law_clear_0 : pj_d cX2_clear 0 (.aload_n 0) 1 1 := ⟨by decide +kernel, rfl⟩
theorem dd_Law_clear_1 : pj_d cX2_clear 1 (.iconst 0) 1 2 := ⟨by decide +kernel, rfl⟩
theorem dd_Law_clear_2 : pj_d cX2_clear 2 (.putfield 18) 3 5 := ⟨by decide +kernel, rfl⟩
theorem dd_Law_clear_5 : pj_d cX2_clear 5 (.aload_n 0) 1 6 := ⟨by decide +kernel, rfl⟩
theorem dd_Law_clear_6 : pj_d cX2_clear 6 (.iconst 0) 1 7 := ⟨by decide +kernel, rfl⟩
theorem dd_Law_clear_7 : pj_d cX2_clear 7 (.putfield 22) 3 10 := ⟨by decide +kernel, rfl⟩
theorem dd_Law_clear_10 : pj_d cX2_clear 10 (.return_) 1 11 := ⟨by decide +kernel, rfl⟩
set_option maxHeartbeats 4000000 in
set_option maxRecDepth 100000 in
theorem ct_Law_clear {l : Launch} {B : pj_B} (hB : B.2.2.2.1 = pj_LC)  {z : pj_S} {r0 : Unit} {z0 : pj_S} (h : Law_clear z = some (r0, z0)) : pj_Mv l yX2_clear cX2_clear 1 none 1 [.ref (B.2.1 9)] B z r0 z0 := by
  refine pj_metv (own := RX2) (by decide +kernel) rfl (Nat.le_of_ble_eq_true rfl) ?_
  intro A K hK C Q H lo ls P hl
  have hl : lv_has ls 1 [(0, .ref (B.2.1 9))] := hl
  unfold Law_clear at h
  refine pj_aload_n C dd_Law_clear_0 rfl hl 0 rfl ?_
  refine pj_iconst (v := (nI 0)) C dd_Law_clear_1 rfl ?_
  refine pj_putI C P 9 (LC9 hB) rfl fl_Law_18 rfl fy_2_2 h dd_Law_clear_2 (fun H lo z1 h P => ?_)
  refine pj_aload_n C dd_Law_clear_5 rfl hl 0 rfl ?_
  refine pj_iconst (v := (nI 0)) C dd_Law_clear_6 rfl ?_
  refine pj_putI C P 9 (LC9 hB) rfl fl_Law_22 rfl fy_2_3 h dd_Law_clear_7 (fun H lo z2 h P => ?_)
  exact pj_vret C Q P h dd_Law_clear_10
theorem dd_Whole_begin_0 : pj_d cX8_begin 0 (.aload_n 0) 1 1 := ⟨by decide +kernel, rfl⟩
theorem dd_Whole_begin_1 : pj_d cX8_begin 1 (.getfield 12) 3 4 := ⟨by decide +kernel, rfl⟩
theorem dd_Whole_begin_4 : pj_d cX8_begin 4 (.iload_n 1) 1 5 := ⟨by decide +kernel, rfl⟩
theorem dd_Whole_begin_5 : pj_d cX8_begin 5 (.iload_n 2) 1 6 := ⟨by decide +kernel, rfl⟩
theorem dd_Whole_begin_6 : pj_d cX8_begin 6 (.invokevirtual 39) 3 9 := ⟨by decide +kernel, rfl⟩
theorem dd_Whole_begin_9 : pj_d cX8_begin 9 (.aload_n 0) 1 10 := ⟨by decide +kernel, rfl⟩
theorem dd_Whole_begin_10 : pj_d cX8_begin 10 (.getfield 21) 3 13 := ⟨by decide +kernel, rfl⟩
theorem dd_Whole_begin_13 : pj_d cX8_begin 13 (.invokevirtual 43) 3 16 := ⟨by decide +kernel, rfl⟩
theorem dd_Whole_begin_16 : pj_d cX8_begin 16 (.aload_n 0) 1 17 := ⟨by decide +kernel, rfl⟩
theorem dd_Whole_begin_17 : pj_d cX8_begin 17 (.getfield 28) 3 20 := ⟨by decide +kernel, rfl⟩
theorem dd_Whole_begin_20 : pj_d cX8_begin 20 (.iconst 0) 1 21 := ⟨by decide +kernel, rfl⟩
theorem dd_Whole_begin_21 : pj_d cX8_begin 21 (.putfield 46) 3 24 := ⟨by decide +kernel, rfl⟩
theorem dd_Whole_begin_24 : pj_d cX8_begin 24 (.aload_n 0) 1 25 := ⟨by decide +kernel, rfl⟩
theorem dd_Whole_begin_25 : pj_d cX8_begin 25 (.getfield 35) 3 28 := ⟨by decide +kernel, rfl⟩
theorem dd_Whole_begin_28 : pj_d cX8_begin 28 (.iconst 0) 1 29 := ⟨by decide +kernel, rfl⟩
theorem dd_Whole_begin_29 : pj_d cX8_begin 29 (.putfield 50) 3 32 := ⟨by decide +kernel, rfl⟩
theorem dd_Whole_begin_32 : pj_d cX8_begin 32 (.aload_n 0) 1 33 := ⟨by decide +kernel, rfl⟩
theorem dd_Whole_begin_33 : pj_d cX8_begin 33 (.iconst 0) 1 34 := ⟨by decide +kernel, rfl⟩
theorem dd_Whole_begin_34 : pj_d cX8_begin 34 (.putfield 51) 3 37 := ⟨by decide +kernel, rfl⟩
theorem dd_Whole_begin_37 : pj_d cX8_begin 37 (.return_) 1 38 := ⟨by decide +kernel, rfl⟩
set_option maxHeartbeats 4000000 in
set_option maxRecDepth 100000 in
theorem ct_Whole_begin {l : Launch} {B : pj_B} (hB : B.2.2.2.1 = pj_LC) {v1 : Int32} {v2 : Int32} {z : pj_S} {r0 : Unit} {z0 : pj_S} (h : Whole_begin v1 v2 z = some (r0, z0)) : pj_Mv l yX8_begin cX8_begin 3 none 3 [.ref (B.2.1 1), .int v1, .int v2] B z r0 z0 := by
  refine pj_metv (own := RX8) (by decide +kernel) rfl (Nat.le_of_ble_eq_true rfl) ?_
  intro A K hK C Q H lo ls P hl
  have hl : lv_has ls 3 [(0, .ref (B.2.1 1)), (1, .int v1), (2, .int v2)] := hl
  unfold Whole_begin at h
  refine pj_aload_n C dd_Whole_begin_0 rfl hl 0 rfl ?_
  refine pj_getR C P 1 (LC1 hB) rfl fl_Whole_12 dd_Whole_begin_1 ?_
  refine pj_iload_n C dd_Whole_begin_4 rfl hl 1 rfl ?_
  refine pj_iload_n C dd_Whole_begin_5 rfl hl 2 rfl ?_
  obtain ⟨r3, z2, e1, h⟩ := pj_cE h
  refine pj_cVv (st := []) [.int v1, .int v2] C P 8 (LC8 hB) rfl (ct_Fabric_begin hB e1) cl_Whole_39 rfl (by decide) (by decide) hl.1 (Nat.le_of_ble_eq_true rfl) dd_Whole_begin_6 (fun H lo P => ?_)
  refine pj_aload_n C dd_Whole_begin_9 rfl hl 0 rfl ?_
  refine pj_getR C P 1 (LC1 hB) rfl fl_Whole_21 dd_Whole_begin_10 ?_
  obtain ⟨r6, z5, e4, h⟩ := pj_cE h
  refine pj_cVv (st := []) [] C P 9 (LC9 hB) rfl (ct_Law_clear hB e4) cl_Whole_43 rfl (by decide) (by decide) hl.1 (Nat.le_of_ble_eq_true rfl) dd_Whole_begin_13 (fun H lo P => ?_)
  refine pj_aload_n C dd_Whole_begin_16 rfl hl 0 rfl ?_
  refine pj_getR C P 1 (LC1 hB) rfl fl_Whole_28 dd_Whole_begin_17 ?_
  refine pj_iconst (v := (nI 0)) C dd_Whole_begin_20 rfl ?_
  refine pj_putI C P 10 (LC10 hB) rfl fl_Whole_46 rfl fy_0_3 h dd_Whole_begin_21 (fun H lo z7 h P => ?_)
  refine pj_aload_n C dd_Whole_begin_24 rfl hl 0 rfl ?_
  refine pj_getR C P 1 (LC1 hB) rfl fl_Whole_35 dd_Whole_begin_25 ?_
  refine pj_iconst (v := (nI 0)) C dd_Whole_begin_28 rfl ?_
  refine pj_putI C P 11 (LC11 hB) rfl fl_Whole_50 rfl fy_9_1 h dd_Whole_begin_29 (fun H lo z8 h P => ?_)
  refine pj_aload_n C dd_Whole_begin_32 rfl hl 0 rfl ?_
  refine pj_iconst (v := (nI 0)) C dd_Whole_begin_33 rfl ?_
  refine pj_putI C P 1 (LC1 hB) rfl fl_Whole_51 rfl fy_8_4 h dd_Whole_begin_34 (fun H lo z9 h P => ?_)
  exact pj_vret C Q P h dd_Whole_begin_37
theorem dd_PJ_cloth_0 : pj_d cX10_cloth 0 (.iload_n 1) 1 1 := ⟨by decide +kernel, rfl⟩
theorem dd_PJ_cloth_1 : pj_d cX10_cloth 1 (.iconst 2) 1 2 := ⟨by decide +kernel, rfl⟩
theorem dd_PJ_cloth_2 : pj_dj cX10_cloth 2 (.if_icmp .lt 20) 20 5 22 := ⟨by decide +kernel, rfl, by decide⟩
theorem dd_PJ_cloth_5 : pj_d cX10_cloth 5 (.iload_n 1) 1 6 := ⟨by decide +kernel, rfl⟩
theorem dd_PJ_cloth_6 : pj_d cX10_cloth 6 (.bipush 6) 2 8 := ⟨by decide +kernel, rfl⟩
theorem dd_PJ_cloth_8 : pj_dj cX10_cloth 8 (.if_icmp .gt 14) 14 11 22 := ⟨by decide +kernel, rfl, by decide⟩
theorem dd_PJ_cloth_11 : pj_d cX10_cloth 11 (.iload_n 2) 1 12 := ⟨by decide +kernel, rfl⟩
theorem dd_PJ_cloth_12 : pj_d cX10_cloth 12 (.iconst 2) 1 13 := ⟨by decide +kernel, rfl⟩
theorem dd_PJ_cloth_13 : pj_dj cX10_cloth 13 (.if_icmp .lt 9) 9 16 22 := ⟨by decide +kernel, rfl, by decide⟩
theorem dd_PJ_cloth_16 : pj_d cX10_cloth 16 (.iload_n 2) 1 17 := ⟨by decide +kernel, rfl⟩
theorem dd_PJ_cloth_17 : pj_d cX10_cloth 17 (.bipush 6) 2 19 := ⟨by decide +kernel, rfl⟩
theorem dd_PJ_cloth_19 : pj_dj cX10_cloth 19 (.if_icmp .le 5) 5 22 24 := ⟨by decide +kernel, rfl, by decide⟩
theorem dd_PJ_cloth_22 : pj_d cX10_cloth 22 (.iconst 0) 1 23 := ⟨by decide +kernel, rfl⟩
theorem dd_PJ_cloth_23 : pj_d cX10_cloth 23 (.ireturn) 1 24 := ⟨by decide +kernel, rfl⟩
theorem dd_PJ_cloth_24 : pj_d cX10_cloth 24 (.aload_n 0) 1 25 := ⟨by decide +kernel, rfl⟩
theorem dd_PJ_cloth_25 : pj_d cX10_cloth 25 (.getfield 10) 3 28 := ⟨by decide +kernel, rfl⟩
theorem dd_PJ_cloth_28 : pj_d cX10_cloth 28 (.iload_n 1) 1 29 := ⟨by decide +kernel, rfl⟩
theorem dd_PJ_cloth_29 : pj_d cX10_cloth 29 (.iload_n 2) 1 30 := ⟨by decide +kernel, rfl⟩
theorem dd_PJ_cloth_30 : pj_d cX10_cloth 30 (.invokevirtual 54) 3 33 := ⟨by decide +kernel, rfl⟩
theorem dd_PJ_cloth_33 : pj_d cX10_cloth 33 (.aload_n 0) 1 34 := ⟨by decide +kernel, rfl⟩
theorem dd_PJ_cloth_34 : pj_d cX10_cloth 34 (.getfield 22) 3 37 := ⟨by decide +kernel, rfl⟩
theorem dd_PJ_cloth_37 : pj_d cX10_cloth 37 (.invokevirtual 62) 3 40 := ⟨by decide +kernel, rfl⟩
theorem dd_PJ_cloth_40 : pj_d cX10_cloth 40 (.iconst 1) 1 41 := ⟨by decide +kernel, rfl⟩
theorem dd_PJ_cloth_41 : pj_d cX10_cloth 41 (.ireturn) 1 42 := ⟨by decide +kernel, rfl⟩
set_option maxHeartbeats 4000000 in
set_option maxRecDepth 100000 in
theorem ct_PJ_cloth {l : Launch} {B : pj_B} (hB : B.2.2.2.1 = pj_LC) {v1 : Int32} {v2 : Int32} {z : pj_S} {r0 : Int32} {z0 : pj_S} (h : PJ_cloth v1 v2 z = some (r0, z0)) : pj_Mi l yX10_cloth cX10_cloth 3 (some .boolean) 4 [.ref (B.2.1 0), .int v1, .int v2] B z r0 z0 := by
  refine pj_meti (own := RX10) (by decide +kernel) rfl (Nat.le_of_ble_eq_true rfl) ?_
  intro A K hK C Q H lo ls P hl
  have hl : lv_has ls 3 [(0, .ref (B.2.1 0)), (1, .int v1), (2, .int v2)] := hl
  unfold PJ_cloth at h
  refine pj_iload_n C dd_PJ_cloth_0 rfl hl 1 rfl ?_
  refine pj_iconst (v := (nI 2)) C dd_PJ_cloth_1 rfl ?_
  refine pj_ic_lt C h dd_PJ_cloth_2 (fun h => ?_) (fun h => ?_)
  · refine pj_iconst (v := (nI 0)) C dd_PJ_cloth_22 rfl ?_
    exact pj_zret C Q P h dd_PJ_cloth_23
  · refine pj_iload_n C dd_PJ_cloth_5 rfl hl 1 rfl ?_
    refine pj_bipush (v := (nI 6)) C dd_PJ_cloth_6 rfl ?_
    refine pj_ic_gt C h dd_PJ_cloth_8 (fun h => ?_) (fun h => ?_)
    · refine pj_iconst (v := (nI 0)) C dd_PJ_cloth_22 rfl ?_
      exact pj_zret C Q P h dd_PJ_cloth_23
    · refine pj_iload_n C dd_PJ_cloth_11 rfl hl 2 rfl ?_
      refine pj_iconst (v := (nI 2)) C dd_PJ_cloth_12 rfl ?_
      refine pj_ic_lt C h dd_PJ_cloth_13 (fun h => ?_) (fun h => ?_)
      · refine pj_iconst (v := (nI 0)) C dd_PJ_cloth_22 rfl ?_
        exact pj_zret C Q P h dd_PJ_cloth_23
      · refine pj_iload_n C dd_PJ_cloth_16 rfl hl 2 rfl ?_
        refine pj_bipush (v := (nI 6)) C dd_PJ_cloth_17 rfl ?_
        refine pj_ic_le C h dd_PJ_cloth_19 (fun h => ?_) (fun h => ?_)
        · refine pj_aload_n C dd_PJ_cloth_24 rfl hl 0 rfl ?_
          refine pj_getR C P 0 (LC0 hB) rfl fl_PJ_10 dd_PJ_cloth_25 ?_
          refine pj_iload_n C dd_PJ_cloth_28 rfl hl 1 rfl ?_
          refine pj_iload_n C dd_PJ_cloth_29 rfl hl 2 rfl ?_
          obtain ⟨r3, z2, e1, h⟩ := pj_cE h
          refine pj_cVv (st := []) [.int v1, .int v2] C P 1 (LC1 hB) rfl (ct_Whole_begin hB e1) cl_PJ_54 rfl (by decide) (by decide) hl.1 (Nat.le_of_ble_eq_true rfl) dd_PJ_cloth_30 (fun H lo P => ?_)
          refine pj_aload_n C dd_PJ_cloth_33 rfl hl 0 rfl ?_
          refine pj_getR C P 0 (LC0 hB) rfl fl_PJ_22 dd_PJ_cloth_34 ?_
          obtain ⟨r6, z5, e4, h⟩ := pj_cE h
          refine pj_cVv (st := []) [] C P 3 (LC3 hB) rfl (ct_Past_forget hB e4) cl_PJ_62 rfl (by decide) (by decide) hl.1 (Nat.le_of_ble_eq_true rfl) dd_PJ_cloth_37 (fun H lo P => ?_)
          refine pj_iconst (v := (nI 1)) C dd_PJ_cloth_40 rfl ?_
          exact pj_zret C Q P h dd_PJ_cloth_41
        · refine pj_iconst (v := (nI 0)) C dd_PJ_cloth_22 rfl ?_
          exact pj_zret C Q P h dd_PJ_cloth_23
theorem dd_PJ_bitOf_0 : pj_d cX10_bitOf 0 (.lload_n 0) 1 1 := ⟨by decide +kernel, rfl⟩
theorem dd_PJ_bitOf_1 : pj_d cX10_bitOf 1 (.iload_n 2) 1 2 := ⟨by decide +kernel, rfl⟩
theorem dd_PJ_bitOf_2 : pj_d cX10_bitOf 2 (.lushr) 1 3 := ⟨by decide +kernel, rfl⟩
theorem dd_PJ_bitOf_3 : pj_d cX10_bitOf 3 (.lconst 1) 1 4 := ⟨by decide +kernel, rfl⟩
theorem dd_PJ_bitOf_4 : pj_d cX10_bitOf 4 (.land) 1 5 := ⟨by decide +kernel, rfl⟩
theorem dd_PJ_bitOf_5 : pj_d cX10_bitOf 5 (.l2i) 1 6 := ⟨by decide +kernel, rfl⟩
theorem dd_PJ_bitOf_6 : pj_d cX10_bitOf 6 (.ireturn) 1 7 := ⟨by decide +kernel, rfl⟩
set_option maxHeartbeats 4000000 in
set_option maxRecDepth 100000 in
theorem ct_PJ_bitOf {l : Launch} {B : pj_B} (hB : B.2.2.2.1 = pj_LC) {v0 : Int64} {v2 : Int32} {z : pj_S} {r0 : Int32} {z0 : pj_S} (h : PJ_bitOf v0 v2 z = some (r0, z0)) : pj_Mi l yX10_bitOf cX10_bitOf 3 (some .int) 1 [.long v0, .int v2] B z r0 z0 := by
  refine pj_meti (own := RX10) (by decide +kernel) rfl (Nat.le_of_ble_eq_true rfl) ?_
  intro A K hK C Q H lo ls P hl
  have hl : lv_has ls 3 [(0, .long v0), (2, .int v2)] := hl
  unfold PJ_bitOf at h
  refine pj_lload_n C dd_PJ_bitOf_0 rfl hl 0 rfl ?_
  refine pj_iload_n C dd_PJ_bitOf_1 rfl hl 1 rfl ?_
  refine pj_lushr C dd_PJ_bitOf_2 ?_
  refine pj_lconst (v := (1 : Int64)) C dd_PJ_bitOf_3 rfl ?_
  refine pj_land C dd_PJ_bitOf_4 ?_
  refine pj_l2i C dd_PJ_bitOf_5 ?_
  exact pj_iret C Q P h dd_PJ_bitOf_6
theorem dd_Fabric_has_0 : pj_d cX1_has 0 (.iload_n 1) 1 1 := ⟨by decide +kernel, rfl⟩
theorem dd_Fabric_has_1 : pj_dj cX1_has 1 (.ifCond .lt 25) 25 4 26 := ⟨by decide +kernel, rfl, by decide⟩
theorem dd_Fabric_has_4 : pj_d cX1_has 4 (.iload_n 1) 1 5 := ⟨by decide +kernel, rfl⟩
theorem dd_Fabric_has_5 : pj_d cX1_has 5 (.bipush 48) 2 7 := ⟨by decide +kernel, rfl⟩
theorem dd_Fabric_has_7 : pj_dj cX1_has 7 (.if_icmp .ge 19) 19 10 26 := ⟨by decide +kernel, rfl, by decide⟩
theorem dd_Fabric_has_10 : pj_d cX1_has 10 (.aload_n 0) 1 11 := ⟨by decide +kernel, rfl⟩
theorem dd_Fabric_has_11 : pj_d cX1_has 11 (.getfield 26) 3 14 := ⟨by decide +kernel, rfl⟩
theorem dd_Fabric_has_14 : pj_d cX1_has 14 (.iload_n 1) 1 15 := ⟨by decide +kernel, rfl⟩
theorem dd_Fabric_has_15 : pj_d cX1_has 15 (.invokestatic 48) 3 18 := ⟨by decide +kernel, rfl⟩
theorem dd_Fabric_has_18 : pj_d cX1_has 18 (.iconst 1) 1 19 := ⟨by decide +kernel, rfl⟩
theorem dd_Fabric_has_19 : pj_dj cX1_has 19 (.if_icmp .ne 7) 7 22 26 := ⟨by decide +kernel, rfl, by decide⟩
theorem dd_Fabric_has_22 : pj_d cX1_has 22 (.iconst 1) 1 23 := ⟨by decide +kernel, rfl⟩
theorem dd_Fabric_has_23 : pj_dj cX1_has 23 (.goto 4) 4 26 27 := ⟨by decide +kernel, rfl, by decide⟩
theorem dd_Fabric_has_26 : pj_d cX1_has 26 (.iconst 0) 1 27 := ⟨by decide +kernel, rfl⟩
theorem dd_Fabric_has_27 : pj_d cX1_has 27 (.ireturn) 1 28 := ⟨by decide +kernel, rfl⟩
set_option maxHeartbeats 4000000 in
set_option maxRecDepth 100000 in
theorem ct_Fabric_has {l : Launch} {B : pj_B} (hB : B.2.2.2.1 = pj_LC) {v1 : Int32} {z : pj_S} {r0 : Int32} {z0 : pj_S} (h : Fabric_has v1 z = some (r0, z0)) : pj_Mi l yX1_has cX1_has 2 (some .boolean) 2 [.ref (B.2.1 8), .int v1] B z r0 z0 := by
  refine pj_meti (own := RX1) (by decide +kernel) rfl (Nat.le_of_ble_eq_true rfl) ?_
  intro A K hK C Q H lo ls P hl
  have hl : lv_has ls 2 [(0, .ref (B.2.1 8)), (1, .int v1)] := hl
  unfold Fabric_has at h
  refine pj_iload_n C dd_Fabric_has_0 rfl hl 1 rfl ?_
  refine pj_if_lt C h dd_Fabric_has_1 (fun h => ?_) (fun h => ?_)
  · refine pj_iconst (v := (nI 0)) C dd_Fabric_has_26 rfl ?_
    exact pj_zret C Q P h dd_Fabric_has_27
  · refine pj_iload_n C dd_Fabric_has_4 rfl hl 1 rfl ?_
    refine pj_bipush (v := (nI 48)) C dd_Fabric_has_5 rfl ?_
    refine pj_ic_ge C h dd_Fabric_has_7 (fun h => ?_) (fun h => ?_)
    · refine pj_iconst (v := (nI 0)) C dd_Fabric_has_26 rfl ?_
      exact pj_zret C Q P h dd_Fabric_has_27
    · refine pj_aload_n C dd_Fabric_has_10 rfl hl 0 rfl ?_
      refine pj_getJ C P 8 (LC8 hB) rfl fl_Fabric_26 dd_Fabric_has_11 ?_
      refine pj_iload_n C dd_Fabric_has_14 rfl hl 1 rfl ?_
      obtain ⟨r3, z2, e1, h⟩ := pj_cE h
      refine pj_cNi (st := []) [.long (z.2 8 3), .int v1] C P (ct_PJ_bitOf hB e1) cl_Fabric_48 rfl (by decide) (by decide) hl.1 (Nat.le_of_ble_eq_true rfl) dd_Fabric_has_15 (fun H lo P => ?_)
      refine pj_iconst (v := (nI 1)) C dd_Fabric_has_18 rfl ?_
      refine pj_ic_ne C h dd_Fabric_has_19 (fun h => ?_) (fun h => ?_)
      · refine pj_iconst (v := (nI 0)) C dd_Fabric_has_26 rfl ?_
        exact pj_zret C Q P h dd_Fabric_has_27
      · refine pj_iconst (v := (nI 1)) C dd_Fabric_has_22 rfl ?_
        refine pj_goto C dd_Fabric_has_23 ?_
        exact pj_zret C Q P h dd_Fabric_has_27
theorem dd_Fabric_tellKind_0 : pj_d cX1_tellKind 0 (.iload_n 2) 1 1 := ⟨by decide +kernel, rfl⟩
theorem dd_Fabric_tellKind_1 : pj_dj cX1_tellKind 1 (.ifCond .lt 8) 8 4 9 := ⟨by decide +kernel, rfl, by decide⟩
theorem dd_Fabric_tellKind_4 : pj_d cX1_tellKind 4 (.iload_n 2) 1 5 := ⟨by decide +kernel, rfl⟩
theorem dd_Fabric_tellKind_5 : pj_d cX1_tellKind 5 (.iconst 3) 1 6 := ⟨by decide +kernel, rfl⟩
theorem dd_Fabric_tellKind_6 : pj_dj cX1_tellKind 6 (.if_icmp .le 5) 5 9 11 := ⟨by decide +kernel, rfl, by decide⟩
theorem dd_Fabric_tellKind_9 : pj_d cX1_tellKind 9 (.iconst 0) 1 10 := ⟨by decide +kernel, rfl⟩
theorem dd_Fabric_tellKind_10 : pj_d cX1_tellKind 10 (.ireturn) 1 11 := ⟨by decide +kernel, rfl⟩
theorem dd_Fabric_tellKind_11 : pj_d cX1_tellKind 11 (.lconst 1) 1 12 := ⟨by decide +kernel, rfl⟩
theorem dd_Fabric_tellKind_12 : pj_d cX1_tellKind 12 (.iload_n 1) 1 13 := ⟨by decide +kernel, rfl⟩
theorem dd_Fabric_tellKind_13 : pj_d cX1_tellKind 13 (.lshl) 1 14 := ⟨by decide +kernel, rfl⟩
theorem dd_Fabric_tellKind_14 : pj_d cX1_tellKind 14 (.lstore_n 3) 1 15 := ⟨by decide +kernel, rfl⟩
theorem dd_Fabric_tellKind_15 : pj_d cX1_tellKind 15 (.aload_n 0) 1 16 := ⟨by decide +kernel, rfl⟩
theorem dd_Fabric_tellKind_16 : pj_d cX1_tellKind 16 (.iload_n 2) 1 17 := ⟨by decide +kernel, rfl⟩
theorem dd_Fabric_tellKind_17 : pj_d cX1_tellKind 17 (.iconst 1) 1 18 := ⟨by decide +kernel, rfl⟩
theorem dd_Fabric_tellKind_18 : pj_d cX1_tellKind 18 (.iand) 1 19 := ⟨by decide +kernel, rfl⟩
theorem dd_Fabric_tellKind_19 : pj_d cX1_tellKind 19 (.iconst 1) 1 20 := ⟨by decide +kernel, rfl⟩
theorem dd_Fabric_tellKind_20 : pj_dj cX1_tellKind 20 (.if_icmp .ne 12) 12 23 32 := ⟨by decide +kernel, rfl, by decide⟩
theorem dd_Fabric_tellKind_23 : pj_d cX1_tellKind 23 (.aload_n 0) 1 24 := ⟨by decide +kernel, rfl⟩
theorem dd_Fabric_tellKind_24 : pj_d cX1_tellKind 24 (.getfield 30) 3 27 := ⟨by decide +kernel, rfl⟩
theorem dd_Fabric_tellKind_27 : pj_d cX1_tellKind 27 (.lload_n 3) 1 28 := ⟨by decide +kernel, rfl⟩
theorem dd_Fabric_tellKind_28 : pj_d cX1_tellKind 28 (.lor) 1 29 := ⟨by decide +kernel, rfl⟩
theorem dd_Fabric_tellKind_29 : pj_dj cX1_tellKind 29 (.goto 13) 13 32 42 := ⟨by decide +kernel, rfl, by decide⟩
theorem dd_Fabric_tellKind_32 : pj_d cX1_tellKind 32 (.aload_n 0) 1 33 := ⟨by decide +kernel, rfl⟩
theorem dd_Fabric_tellKind_33 : pj_d cX1_tellKind 33 (.getfield 30) 3 36 := ⟨by decide +kernel, rfl⟩
theorem dd_Fabric_tellKind_36 : pj_d cX1_tellKind 36 (.lload_n 3) 1 37 := ⟨by decide +kernel, rfl⟩
theorem dd_Fabric_tellKind_37 : pj_d cX1_tellKind 37 (.ldc2_w 56) 3 40 := ⟨by decide +kernel, rfl⟩
theorem dd_Fabric_tellKind_40 : pj_d cX1_tellKind 40 (.lxor) 1 41 := ⟨by decide +kernel, rfl⟩
theorem dd_Fabric_tellKind_41 : pj_d cX1_tellKind 41 (.land) 1 42 := ⟨by decide +kernel, rfl⟩
theorem dd_Fabric_tellKind_42 : pj_d cX1_tellKind 42 (.putfield 30) 3 45 := ⟨by decide +kernel, rfl⟩
theorem dd_Fabric_tellKind_45 : pj_d cX1_tellKind 45 (.aload_n 0) 1 46 := ⟨by decide +kernel, rfl⟩
theorem dd_Fabric_tellKind_46 : pj_d cX1_tellKind 46 (.iload_n 2) 1 47 := ⟨by decide +kernel, rfl⟩
theorem dd_Fabric_tellKind_47 : pj_d cX1_tellKind 47 (.iconst 2) 1 48 := ⟨by decide +kernel, rfl⟩
theorem dd_Fabric_tellKind_48 : pj_dj cX1_tellKind 48 (.if_icmp .lt 12) 12 51 60 := ⟨by decide +kernel, rfl, by decide⟩
theorem dd_Fabric_tellKind_51 : pj_d cX1_tellKind 51 (.aload_n 0) 1 52 := ⟨by decide +kernel, rfl⟩
theorem dd_Fabric_tellKind_52 : pj_d cX1_tellKind 52 (.getfield 33) 3 55 := ⟨by decide +kernel, rfl⟩
theorem dd_Fabric_tellKind_55 : pj_d cX1_tellKind 55 (.lload_n 3) 1 56 := ⟨by decide +kernel, rfl⟩
theorem dd_Fabric_tellKind_56 : pj_d cX1_tellKind 56 (.lor) 1 57 := ⟨by decide +kernel, rfl⟩
theorem dd_Fabric_tellKind_57 : pj_dj cX1_tellKind 57 (.goto 13) 13 60 70 := ⟨by decide +kernel, rfl, by decide⟩
theorem dd_Fabric_tellKind_60 : pj_d cX1_tellKind 60 (.aload_n 0) 1 61 := ⟨by decide +kernel, rfl⟩
theorem dd_Fabric_tellKind_61 : pj_d cX1_tellKind 61 (.getfield 33) 3 64 := ⟨by decide +kernel, rfl⟩
theorem dd_Fabric_tellKind_64 : pj_d cX1_tellKind 64 (.lload_n 3) 1 65 := ⟨by decide +kernel, rfl⟩
theorem dd_Fabric_tellKind_65 : pj_d cX1_tellKind 65 (.ldc2_w 56) 3 68 := ⟨by decide +kernel, rfl⟩
theorem dd_Fabric_tellKind_68 : pj_d cX1_tellKind 68 (.lxor) 1 69 := ⟨by decide +kernel, rfl⟩
theorem dd_Fabric_tellKind_69 : pj_d cX1_tellKind 69 (.land) 1 70 := ⟨by decide +kernel, rfl⟩
theorem dd_Fabric_tellKind_70 : pj_d cX1_tellKind 70 (.putfield 33) 3 73 := ⟨by decide +kernel, rfl⟩
theorem dd_Fabric_tellKind_73 : pj_d cX1_tellKind 73 (.iconst 1) 1 74 := ⟨by decide +kernel, rfl⟩
theorem dd_Fabric_tellKind_74 : pj_d cX1_tellKind 74 (.ireturn) 1 75 := ⟨by decide +kernel, rfl⟩
set_option maxHeartbeats 4000000 in
set_option maxRecDepth 100000 in
theorem bt_Fabric_tellKind_70 {B : pj_B} {A : Nat → Prop} {K : pj_K} {r0 : Int32} {z0 : pj_S} (hB : B.2.2.2.1 = pj_LC) (C : pj_C B A K cX1_tellKind 5 RX1 1) (Q : pj_Qi B A K (some .boolean) r0 z0)  (t0 : Int64) (z : pj_S) (H : Heap) (lo : List Loc) (ls : Array Slot) (h : Fabric_tellKind_70 t0 z = some (r0, z0)) (P : pj_P B A K z H lo) (hl : lv_has ls 5 []) : pj_W K H lo 70 ls [.long t0, .ref (B.2.1 8)] := by
  unfold Fabric_tellKind_70 at h
  refine pj_putJ C P 8 (LC8 hB) rfl fl_Fabric_33 rfl fy_1_5 h dd_Fabric_tellKind_70 (fun H lo z1 h P => ?_)
  refine pj_iconst (v := (nI 1)) C dd_Fabric_tellKind_73 rfl ?_
  exact pj_zret C Q P h dd_Fabric_tellKind_74
set_option maxHeartbeats 4000000 in
set_option maxRecDepth 100000 in
theorem bt_Fabric_tellKind_42 {B : pj_B} {A : Nat → Prop} {K : pj_K} {r0 : Int32} {z0 : pj_S} (hB : B.2.2.2.1 = pj_LC) (C : pj_C B A K cX1_tellKind 5 RX1 1) (Q : pj_Qi B A K (some .boolean) r0 z0)  (v2 : Int32) (v3 : Int64) (t0 : Int64) (z : pj_S) (H : Heap) (lo : List Loc) (ls : Array Slot) (h : Fabric_tellKind_42 v2 v3 t0 z = some (r0, z0)) (P : pj_P B A K z H lo) (hl : lv_has ls 5 [(0, .ref (B.2.1 8)), (2, .int v2), (3, .long v3)]) : pj_W K H lo 42 ls [.long t0, .ref (B.2.1 8)] := by
  unfold Fabric_tellKind_42 at h
  refine pj_putJ C P 8 (LC8 hB) rfl fl_Fabric_30 rfl fy_1_4 h dd_Fabric_tellKind_42 (fun H lo z1 h P => ?_)
  refine pj_aload_n C dd_Fabric_tellKind_45 rfl hl 0 rfl ?_
  refine pj_iload_n C dd_Fabric_tellKind_46 rfl hl 1 rfl ?_
  refine pj_iconst (v := (nI 2)) C dd_Fabric_tellKind_47 rfl ?_
  refine pj_ic_lt C h dd_Fabric_tellKind_48 (fun h => ?_) (fun h => ?_)
  · refine pj_aload_n C dd_Fabric_tellKind_60 rfl hl 0 rfl ?_
    refine pj_getJ C P 8 (LC8 hB) rfl fl_Fabric_33 dd_Fabric_tellKind_61 ?_
    refine pj_lload_n C dd_Fabric_tellKind_64 rfl hl 2 rfl ?_
    refine pj_ldc2 (v := (-1 : Int64)) C co_Fabric_56 dd_Fabric_tellKind_65 ?_
    refine pj_lxor C dd_Fabric_tellKind_68 ?_
    refine pj_land C dd_Fabric_tellKind_69 ?_
    exact bt_Fabric_tellKind_70 hB C Q _ _ _ _ _ h P (lv_sub hl [] rfl)
  · refine pj_aload_n C dd_Fabric_tellKind_51 rfl hl 0 rfl ?_
    refine pj_getJ C P 8 (LC8 hB) rfl fl_Fabric_33 dd_Fabric_tellKind_52 ?_
    refine pj_lload_n C dd_Fabric_tellKind_55 rfl hl 2 rfl ?_
    refine pj_lor C dd_Fabric_tellKind_56 ?_
    refine pj_goto C dd_Fabric_tellKind_57 ?_
    exact bt_Fabric_tellKind_70 hB C Q _ _ _ _ _ h P (lv_sub hl [] rfl)
set_option maxHeartbeats 4000000 in
set_option maxRecDepth 100000 in
theorem ct_Fabric_tellKind {l : Launch} {B : pj_B} (hB : B.2.2.2.1 = pj_LC) {v1 : Int32} {v2 : Int32} {z : pj_S} {r0 : Int32} {z0 : pj_S} (h : Fabric_tellKind v1 v2 z = some (r0, z0)) : pj_Mi l yX1_tellKind cX1_tellKind 5 (some .boolean) 1 [.ref (B.2.1 8), .int v1, .int v2] B z r0 z0 := by
  refine pj_meti (own := RX1) (by decide +kernel) rfl (Nat.le_of_ble_eq_true rfl) ?_
  intro A K hK C Q H lo ls P hl
  have hl : lv_has ls 5 [(0, .ref (B.2.1 8)), (1, .int v1), (2, .int v2)] := hl
  unfold Fabric_tellKind at h
  refine pj_iload_n C dd_Fabric_tellKind_0 rfl hl 2 rfl ?_
  refine pj_if_lt C h dd_Fabric_tellKind_1 (fun h => ?_) (fun h => ?_)
  · refine pj_iconst (v := (nI 0)) C dd_Fabric_tellKind_9 rfl ?_
    exact pj_zret C Q P h dd_Fabric_tellKind_10
  · refine pj_iload_n C dd_Fabric_tellKind_4 rfl hl 2 rfl ?_
    refine pj_iconst (v := (nI 3)) C dd_Fabric_tellKind_5 rfl ?_
    refine pj_ic_le C h dd_Fabric_tellKind_6 (fun h => ?_) (fun h => ?_)
    · refine pj_lconst (v := (1 : Int64)) C dd_Fabric_tellKind_11 rfl ?_
      refine pj_iload_n C dd_Fabric_tellKind_12 rfl hl 1 rfl ?_
      refine pj_lshl C dd_Fabric_tellKind_13 ?_
      refine pj_lstb_n [(0, .ref (B.2.1 8)), (1, .int v1), (2, .int v2)] C h dd_Fabric_tellKind_14 rfl hl (by decide) rfl (fun x1 ls h hl => ?_)
      refine pj_aload_n C dd_Fabric_tellKind_15 rfl hl 1 rfl ?_
      refine pj_iload_n C dd_Fabric_tellKind_16 rfl hl 3 rfl ?_
      refine pj_iconst (v := (nI 1)) C dd_Fabric_tellKind_17 rfl ?_
      refine pj_iand C dd_Fabric_tellKind_18 ?_
      refine pj_iconst (v := (nI 1)) C dd_Fabric_tellKind_19 rfl ?_
      refine pj_ic_ne C h dd_Fabric_tellKind_20 (fun h => ?_) (fun h => ?_)
      · refine pj_aload_n C dd_Fabric_tellKind_32 rfl hl 1 rfl ?_
        refine pj_getJ C P 8 (LC8 hB) rfl fl_Fabric_30 dd_Fabric_tellKind_33 ?_
        refine pj_lload_n C dd_Fabric_tellKind_36 rfl hl 0 rfl ?_
        refine pj_ldc2 (v := (-1 : Int64)) C co_Fabric_56 dd_Fabric_tellKind_37 ?_
        refine pj_lxor C dd_Fabric_tellKind_40 ?_
        refine pj_land C dd_Fabric_tellKind_41 ?_
        exact bt_Fabric_tellKind_42 hB C Q _ _ _ _ _ _ _ h P (lv_sub hl [1, 3, 0] rfl)
      · refine pj_aload_n C dd_Fabric_tellKind_23 rfl hl 1 rfl ?_
        refine pj_getJ C P 8 (LC8 hB) rfl fl_Fabric_30 dd_Fabric_tellKind_24 ?_
        refine pj_lload_n C dd_Fabric_tellKind_27 rfl hl 0 rfl ?_
        refine pj_lor C dd_Fabric_tellKind_28 ?_
        refine pj_goto C dd_Fabric_tellKind_29 ?_
        exact bt_Fabric_tellKind_42 hB C Q _ _ _ _ _ _ _ h P (lv_sub hl [1, 3, 0] rfl)
    · refine pj_iconst (v := (nI 0)) C dd_Fabric_tellKind_9 rfl ?_
      exact pj_zret C Q P h dd_Fabric_tellKind_10
theorem dd_Fabric_tellCaught_0 : pj_d cX1_tellCaught 0 (.iload_n 2) 1 1 := ⟨by decide +kernel, rfl⟩
theorem dd_Fabric_tellCaught_1 : pj_dj cX1_tellCaught 1 (.ifCond .lt 8) 8 4 9 := ⟨by decide +kernel, rfl, by decide⟩
theorem dd_Fabric_tellCaught_4 : pj_d cX1_tellCaught 4 (.iload_n 2) 1 5 := ⟨by decide +kernel, rfl⟩
theorem dd_Fabric_tellCaught_5 : pj_d cX1_tellCaught 5 (.iconst 1) 1 6 := ⟨by decide +kernel, rfl⟩
theorem dd_Fabric_tellCaught_6 : pj_dj cX1_tellCaught 6 (.if_icmp .le 5) 5 9 11 := ⟨by decide +kernel, rfl, by decide⟩
theorem dd_Fabric_tellCaught_9 : pj_d cX1_tellCaught 9 (.iconst 0) 1 10 := ⟨by decide +kernel, rfl⟩
theorem dd_Fabric_tellCaught_10 : pj_d cX1_tellCaught 10 (.ireturn) 1 11 := ⟨by decide +kernel, rfl⟩
theorem dd_Fabric_tellCaught_11 : pj_d cX1_tellCaught 11 (.lconst 1) 1 12 := ⟨by decide +kernel, rfl⟩
theorem dd_Fabric_tellCaught_12 : pj_d cX1_tellCaught 12 (.iload_n 1) 1 13 := ⟨by decide +kernel, rfl⟩
theorem dd_Fabric_tellCaught_13 : pj_d cX1_tellCaught 13 (.lshl) 1 14 := ⟨by decide +kernel, rfl⟩
theorem dd_Fabric_tellCaught_14 : pj_d cX1_tellCaught 14 (.lstore_n 3) 1 15 := ⟨by decide +kernel, rfl⟩
theorem dd_Fabric_tellCaught_15 : pj_d cX1_tellCaught 15 (.aload_n 0) 1 16 := ⟨by decide +kernel, rfl⟩
theorem dd_Fabric_tellCaught_16 : pj_d cX1_tellCaught 16 (.iload_n 2) 1 17 := ⟨by decide +kernel, rfl⟩
theorem dd_Fabric_tellCaught_17 : pj_d cX1_tellCaught 17 (.iconst 1) 1 18 := ⟨by decide +kernel, rfl⟩
theorem dd_Fabric_tellCaught_18 : pj_dj cX1_tellCaught 18 (.if_icmp .ne 12) 12 21 30 := ⟨by decide +kernel, rfl, by decide⟩
theorem dd_Fabric_tellCaught_21 : pj_d cX1_tellCaught 21 (.aload_n 0) 1 22 := ⟨by decide +kernel, rfl⟩
theorem dd_Fabric_tellCaught_22 : pj_d cX1_tellCaught 22 (.getfield 39) 3 25 := ⟨by decide +kernel, rfl⟩
theorem dd_Fabric_tellCaught_25 : pj_d cX1_tellCaught 25 (.lload_n 3) 1 26 := ⟨by decide +kernel, rfl⟩
theorem dd_Fabric_tellCaught_26 : pj_d cX1_tellCaught 26 (.lor) 1 27 := ⟨by decide +kernel, rfl⟩
theorem dd_Fabric_tellCaught_27 : pj_dj cX1_tellCaught 27 (.goto 13) 13 30 40 := ⟨by decide +kernel, rfl, by decide⟩
theorem dd_Fabric_tellCaught_30 : pj_d cX1_tellCaught 30 (.aload_n 0) 1 31 := ⟨by decide +kernel, rfl⟩
theorem dd_Fabric_tellCaught_31 : pj_d cX1_tellCaught 31 (.getfield 39) 3 34 := ⟨by decide +kernel, rfl⟩
theorem dd_Fabric_tellCaught_34 : pj_d cX1_tellCaught 34 (.lload_n 3) 1 35 := ⟨by decide +kernel, rfl⟩
theorem dd_Fabric_tellCaught_35 : pj_d cX1_tellCaught 35 (.ldc2_w 56) 3 38 := ⟨by decide +kernel, rfl⟩
theorem dd_Fabric_tellCaught_38 : pj_d cX1_tellCaught 38 (.lxor) 1 39 := ⟨by decide +kernel, rfl⟩
theorem dd_Fabric_tellCaught_39 : pj_d cX1_tellCaught 39 (.land) 1 40 := ⟨by decide +kernel, rfl⟩
theorem dd_Fabric_tellCaught_40 : pj_d cX1_tellCaught 40 (.putfield 39) 3 43 := ⟨by decide +kernel, rfl⟩
theorem dd_Fabric_tellCaught_43 : pj_d cX1_tellCaught 43 (.iconst 1) 1 44 := ⟨by decide +kernel, rfl⟩
theorem dd_Fabric_tellCaught_44 : pj_d cX1_tellCaught 44 (.ireturn) 1 45 := ⟨by decide +kernel, rfl⟩
set_option maxHeartbeats 4000000 in
set_option maxRecDepth 100000 in
theorem bt_Fabric_tellCaught_40 {B : pj_B} {A : Nat → Prop} {K : pj_K} {r0 : Int32} {z0 : pj_S} (hB : B.2.2.2.1 = pj_LC) (C : pj_C B A K cX1_tellCaught 5 RX1 1) (Q : pj_Qi B A K (some .boolean) r0 z0)  (t0 : Int64) (z : pj_S) (H : Heap) (lo : List Loc) (ls : Array Slot) (h : Fabric_tellCaught_40 t0 z = some (r0, z0)) (P : pj_P B A K z H lo) (hl : lv_has ls 5 []) : pj_W K H lo 40 ls [.long t0, .ref (B.2.1 8)] := by
  unfold Fabric_tellCaught_40 at h
  refine pj_putJ C P 8 (LC8 hB) rfl fl_Fabric_39 rfl fy_1_7 h dd_Fabric_tellCaught_40 (fun H lo z1 h P => ?_)
  refine pj_iconst (v := (nI 1)) C dd_Fabric_tellCaught_43 rfl ?_
  exact pj_zret C Q P h dd_Fabric_tellCaught_44
set_option maxHeartbeats 4000000 in
set_option maxRecDepth 100000 in
theorem ct_Fabric_tellCaught {l : Launch} {B : pj_B} (hB : B.2.2.2.1 = pj_LC) {v1 : Int32} {v2 : Int32} {z : pj_S} {r0 : Int32} {z0 : pj_S} (h : Fabric_tellCaught v1 v2 z = some (r0, z0)) : pj_Mi l yX1_tellCaught cX1_tellCaught 5 (some .boolean) 1 [.ref (B.2.1 8), .int v1, .int v2] B z r0 z0 := by
  refine pj_meti (own := RX1) (by decide +kernel) rfl (Nat.le_of_ble_eq_true rfl) ?_
  intro A K hK C Q H lo ls P hl
  have hl : lv_has ls 5 [(0, .ref (B.2.1 8)), (1, .int v1), (2, .int v2)] := hl
  unfold Fabric_tellCaught at h
  refine pj_iload_n C dd_Fabric_tellCaught_0 rfl hl 2 rfl ?_
  refine pj_if_lt C h dd_Fabric_tellCaught_1 (fun h => ?_) (fun h => ?_)
  · refine pj_iconst (v := (nI 0)) C dd_Fabric_tellCaught_9 rfl ?_
    exact pj_zret C Q P h dd_Fabric_tellCaught_10
  · refine pj_iload_n C dd_Fabric_tellCaught_4 rfl hl 2 rfl ?_
    refine pj_iconst (v := (nI 1)) C dd_Fabric_tellCaught_5 rfl ?_
    refine pj_ic_le C h dd_Fabric_tellCaught_6 (fun h => ?_) (fun h => ?_)
    · refine pj_lconst (v := (1 : Int64)) C dd_Fabric_tellCaught_11 rfl ?_
      refine pj_iload_n C dd_Fabric_tellCaught_12 rfl hl 1 rfl ?_
      refine pj_lshl C dd_Fabric_tellCaught_13 ?_
      refine pj_lstb_n [(0, .ref (B.2.1 8)), (1, .int v1), (2, .int v2)] C h dd_Fabric_tellCaught_14 rfl hl (by decide) rfl (fun x1 ls h hl => ?_)
      refine pj_aload_n C dd_Fabric_tellCaught_15 rfl hl 1 rfl ?_
      refine pj_iload_n C dd_Fabric_tellCaught_16 rfl hl 3 rfl ?_
      refine pj_iconst (v := (nI 1)) C dd_Fabric_tellCaught_17 rfl ?_
      refine pj_ic_ne C h dd_Fabric_tellCaught_18 (fun h => ?_) (fun h => ?_)
      · refine pj_aload_n C dd_Fabric_tellCaught_30 rfl hl 1 rfl ?_
        refine pj_getJ C P 8 (LC8 hB) rfl fl_Fabric_39 dd_Fabric_tellCaught_31 ?_
        refine pj_lload_n C dd_Fabric_tellCaught_34 rfl hl 0 rfl ?_
        refine pj_ldc2 (v := (-1 : Int64)) C co_Fabric_56 dd_Fabric_tellCaught_35 ?_
        refine pj_lxor C dd_Fabric_tellCaught_38 ?_
        refine pj_land C dd_Fabric_tellCaught_39 ?_
        exact bt_Fabric_tellCaught_40 hB C Q _ _ _ _ _ h P (lv_sub hl [] rfl)
      · refine pj_aload_n C dd_Fabric_tellCaught_21 rfl hl 1 rfl ?_
        refine pj_getJ C P 8 (LC8 hB) rfl fl_Fabric_39 dd_Fabric_tellCaught_22 ?_
        refine pj_lload_n C dd_Fabric_tellCaught_25 rfl hl 0 rfl ?_
        refine pj_lor C dd_Fabric_tellCaught_26 ?_
        refine pj_goto C dd_Fabric_tellCaught_27 ?_
        exact bt_Fabric_tellCaught_40 hB C Q _ _ _ _ _ h P (lv_sub hl [] rfl)
    · refine pj_iconst (v := (nI 0)) C dd_Fabric_tellCaught_9 rfl ?_
      exact pj_zret C Q P h dd_Fabric_tellCaught_10
theorem dd_Fabric_bringBack_0 : pj_d cX1_bringBack 0 (.aload_n 0) 1 1 := ⟨by decide +kernel, rfl⟩
theorem dd_Fabric_bringBack_1 : pj_d cX1_bringBack 1 (.dup) 1 2 := ⟨by decide +kernel, rfl⟩
theorem dd_Fabric_bringBack_2 : pj_d cX1_bringBack 2 (.getfield 36) 3 5 := ⟨by decide +kernel, rfl⟩
theorem dd_Fabric_bringBack_5 : pj_d cX1_bringBack 5 (.lconst 1) 1 6 := ⟨by decide +kernel, rfl⟩
theorem dd_Fabric_bringBack_6 : pj_d cX1_bringBack 6 (.iload_n 1) 1 7 := ⟨by decide +kernel, rfl⟩
theorem dd_Fabric_bringBack_7 : pj_d cX1_bringBack 7 (.lshl) 1 8 := ⟨by decide +kernel, rfl⟩
theorem dd_Fabric_bringBack_8 : pj_d cX1_bringBack 8 (.lor) 1 9 := ⟨by decide +kernel, rfl⟩
theorem dd_Fabric_bringBack_9 : pj_d cX1_bringBack 9 (.putfield 36) 3 12 := ⟨by decide +kernel, rfl⟩
theorem dd_Fabric_bringBack_12 : pj_d cX1_bringBack 12 (.aload_n 0) 1 13 := ⟨by decide +kernel, rfl⟩
theorem dd_Fabric_bringBack_13 : pj_d cX1_bringBack 13 (.dup) 1 14 := ⟨by decide +kernel, rfl⟩
theorem dd_Fabric_bringBack_14 : pj_d cX1_bringBack 14 (.getfield 42) 3 17 := ⟨by decide +kernel, rfl⟩
theorem dd_Fabric_bringBack_17 : pj_d cX1_bringBack 17 (.lconst 1) 1 18 := ⟨by decide +kernel, rfl⟩
theorem dd_Fabric_bringBack_18 : pj_d cX1_bringBack 18 (.iload_n 1) 1 19 := ⟨by decide +kernel, rfl⟩
theorem dd_Fabric_bringBack_19 : pj_d cX1_bringBack 19 (.lshl) 1 20 := ⟨by decide +kernel, rfl⟩
theorem dd_Fabric_bringBack_20 : pj_d cX1_bringBack 20 (.ldc2_w 56) 3 23 := ⟨by decide +kernel, rfl⟩
theorem dd_Fabric_bringBack_23 : pj_d cX1_bringBack 23 (.lxor) 1 24 := ⟨by decide +kernel, rfl⟩
theorem dd_Fabric_bringBack_24 : pj_d cX1_bringBack 24 (.land) 1 25 := ⟨by decide +kernel, rfl⟩
theorem dd_Fabric_bringBack_25 : pj_d cX1_bringBack 25 (.putfield 42) 3 28 := ⟨by decide +kernel, rfl⟩
theorem dd_Fabric_bringBack_28 : pj_d cX1_bringBack 28 (.return_) 1 29 := ⟨by decide +kernel, rfl⟩
set_option maxHeartbeats 4000000 in
set_option maxRecDepth 100000 in
theorem ct_Fabric_bringBack {l : Launch} {B : pj_B} (hB : B.2.2.2.1 = pj_LC) {v1 : Int32} {z : pj_S} {r0 : Unit} {z0 : pj_S} (h : Fabric_bringBack v1 z = some (r0, z0)) : pj_Mv l yX1_bringBack cX1_bringBack 2 none 1 [.ref (B.2.1 8), .int v1] B z r0 z0 := by
  refine pj_metv (own := RX1) (by decide +kernel) rfl (Nat.le_of_ble_eq_true rfl) ?_
  intro A K hK C Q H lo ls P hl
  have hl : lv_has ls 2 [(0, .ref (B.2.1 8)), (1, .int v1)] := hl
  unfold Fabric_bringBack at h
  refine pj_aload_n C dd_Fabric_bringBack_0 rfl hl 0 rfl ?_
  refine pj_dup C dd_Fabric_bringBack_1 rfl ?_
  refine pj_getJ C P 8 (LC8 hB) rfl fl_Fabric_36 dd_Fabric_bringBack_2 ?_
  refine pj_lconst (v := (1 : Int64)) C dd_Fabric_bringBack_5 rfl ?_
  refine pj_iload_n C dd_Fabric_bringBack_6 rfl hl 1 rfl ?_
  refine pj_lshl C dd_Fabric_bringBack_7 ?_
  refine pj_lor C dd_Fabric_bringBack_8 ?_
  refine pj_putJ C P 8 (LC8 hB) rfl fl_Fabric_36 rfl fy_1_6 h dd_Fabric_bringBack_9 (fun H lo z1 h P => ?_)
  refine pj_aload_n C dd_Fabric_bringBack_12 rfl hl 0 rfl ?_
  refine pj_dup C dd_Fabric_bringBack_13 rfl ?_
  refine pj_getJ C P 8 (LC8 hB) rfl fl_Fabric_42 dd_Fabric_bringBack_14 ?_
  refine pj_lconst (v := (1 : Int64)) C dd_Fabric_bringBack_17 rfl ?_
  refine pj_iload_n C dd_Fabric_bringBack_18 rfl hl 1 rfl ?_
  refine pj_lshl C dd_Fabric_bringBack_19 ?_
  refine pj_ldc2 (v := (-1 : Int64)) C co_Fabric_56 dd_Fabric_bringBack_20 ?_
  refine pj_lxor C dd_Fabric_bringBack_23 ?_
  refine pj_land C dd_Fabric_bringBack_24 ?_
  refine pj_putJ C P 8 (LC8 hB) rfl fl_Fabric_42 rfl fy_1_8 h dd_Fabric_bringBack_25 (fun H lo z2 h P => ?_)
  exact pj_vret C Q P h dd_Fabric_bringBack_28
theorem dd_PJ_tellOfStitch_0 : pj_d cX10_tellOfStitch 0 (.aload_n 0) 1 1 := ⟨by decide +kernel, rfl⟩
theorem dd_PJ_tellOfStitch_1 : pj_d cX10_tellOfStitch 1 (.getfield 10) 3 4 := ⟨by decide +kernel, rfl⟩
theorem dd_PJ_tellOfStitch_4 : pj_d cX10_tellOfStitch 4 (.getfield 65) 3 7 := ⟨by decide +kernel, rfl⟩
theorem dd_PJ_tellOfStitch_7 : pj_d cX10_tellOfStitch 7 (.iload_n 2) 1 8 := ⟨by decide +kernel, rfl⟩
theorem dd_PJ_tellOfStitch_8 : pj_d cX10_tellOfStitch 8 (.invokevirtual 148) 3 11 := ⟨by decide +kernel, rfl⟩
theorem dd_PJ_tellOfStitch_11 : pj_dj cX10_tellOfStitch 11 (.ifCond .ne 5) 5 14 16 := ⟨by decide +kernel, rfl, by decide⟩
theorem dd_PJ_tellOfStitch_14 : pj_d cX10_tellOfStitch 14 (.iconst 0) 1 15 := ⟨by decide +kernel, rfl⟩
theorem dd_PJ_tellOfStitch_15 : pj_d cX10_tellOfStitch 15 (.ireturn) 1 16 := ⟨by decide +kernel, rfl⟩
theorem dd_PJ_tellOfStitch_16 : pj_d cX10_tellOfStitch 16 (.iload_n 1) 1 17 := ⟨by decide +kernel, rfl⟩
theorem dd_PJ_tellOfStitch_17 : pj_d cX10_tellOfStitch 17 (.tableswitch 70 0 3 #[31, 44, 70, 57]) 31 48 := ⟨by decide +kernel, rfl⟩
theorem dd_PJ_tellOfStitch_48 : pj_d cX10_tellOfStitch 48 (.aload_n 0) 1 49 := ⟨by decide +kernel, rfl⟩
theorem dd_PJ_tellOfStitch_49 : pj_d cX10_tellOfStitch 49 (.getfield 10) 3 52 := ⟨by decide +kernel, rfl⟩
theorem dd_PJ_tellOfStitch_52 : pj_d cX10_tellOfStitch 52 (.getfield 65) 3 55 := ⟨by decide +kernel, rfl⟩
theorem dd_PJ_tellOfStitch_55 : pj_d cX10_tellOfStitch 55 (.iload_n 2) 1 56 := ⟨by decide +kernel, rfl⟩
theorem dd_PJ_tellOfStitch_56 : pj_d cX10_tellOfStitch 56 (.iload_n 3) 1 57 := ⟨by decide +kernel, rfl⟩
theorem dd_PJ_tellOfStitch_57 : pj_d cX10_tellOfStitch 57 (.invokevirtual 279) 3 60 := ⟨by decide +kernel, rfl⟩
theorem dd_PJ_tellOfStitch_60 : pj_d cX10_tellOfStitch 60 (.ireturn) 1 61 := ⟨by decide +kernel, rfl⟩
theorem dd_PJ_tellOfStitch_61 : pj_d cX10_tellOfStitch 61 (.aload_n 0) 1 62 := ⟨by decide +kernel, rfl⟩
theorem dd_PJ_tellOfStitch_62 : pj_d cX10_tellOfStitch 62 (.getfield 10) 3 65 := ⟨by decide +kernel, rfl⟩
theorem dd_PJ_tellOfStitch_65 : pj_d cX10_tellOfStitch 65 (.getfield 65) 3 68 := ⟨by decide +kernel, rfl⟩
theorem dd_PJ_tellOfStitch_68 : pj_d cX10_tellOfStitch 68 (.iload_n 2) 1 69 := ⟨by decide +kernel, rfl⟩
theorem dd_PJ_tellOfStitch_69 : pj_d cX10_tellOfStitch 69 (.iload_n 3) 1 70 := ⟨by decide +kernel, rfl⟩
theorem dd_PJ_tellOfStitch_70 : pj_d cX10_tellOfStitch 70 (.invokevirtual 282) 3 73 := ⟨by decide +kernel, rfl⟩
theorem dd_PJ_tellOfStitch_73 : pj_d cX10_tellOfStitch 73 (.ireturn) 1 74 := ⟨by decide +kernel, rfl⟩
theorem dd_PJ_tellOfStitch_74 : pj_d cX10_tellOfStitch 74 (.aload_n 0) 1 75 := ⟨by decide +kernel, rfl⟩
theorem dd_PJ_tellOfStitch_75 : pj_d cX10_tellOfStitch 75 (.getfield 10) 3 78 := ⟨by decide +kernel, rfl⟩
theorem dd_PJ_tellOfStitch_78 : pj_d cX10_tellOfStitch 78 (.getfield 65) 3 81 := ⟨by decide +kernel, rfl⟩
theorem dd_PJ_tellOfStitch_81 : pj_d cX10_tellOfStitch 81 (.iload_n 2) 1 82 := ⟨by decide +kernel, rfl⟩
theorem dd_PJ_tellOfStitch_82 : pj_d cX10_tellOfStitch 82 (.invokevirtual 285) 3 85 := ⟨by decide +kernel, rfl⟩
theorem dd_PJ_tellOfStitch_85 : pj_d cX10_tellOfStitch 85 (.iconst 1) 1 86 := ⟨by decide +kernel, rfl⟩
theorem dd_PJ_tellOfStitch_86 : pj_d cX10_tellOfStitch 86 (.ireturn) 1 87 := ⟨by decide +kernel, rfl⟩
theorem dd_PJ_tellOfStitch_87 : pj_d cX10_tellOfStitch 87 (.iconst 0) 1 88 := ⟨by decide +kernel, rfl⟩
theorem dd_PJ_tellOfStitch_88 : pj_d cX10_tellOfStitch 88 (.ireturn) 1 89 := ⟨by decide +kernel, rfl⟩
set_option maxHeartbeats 4000000 in
set_option maxRecDepth 100000 in
theorem ct_PJ_tellOfStitch {l : Launch} {B : pj_B} (hB : B.2.2.2.1 = pj_LC) {v1 : Int32} {v2 : Int32} {v3 : Int32} {z : pj_S} {r0 : Int32} {z0 : pj_S} (h : PJ_tellOfStitch v1 v2 v3 z = some (r0, z0)) : pj_Mi l yX10_tellOfStitch cX10_tellOfStitch 4 (some .boolean) 3 [.ref (B.2.1 0), .int v1, .int v2, .int v3] B z r0 z0 := by
  refine pj_meti (own := RX10) (by decide +kernel) rfl (Nat.le_of_ble_eq_true rfl) ?_
  intro A K hK C Q H lo ls P hl
  have hl : lv_has ls 4 [(0, .ref (B.2.1 0)), (1, .int v1), (2, .int v2), (3, .int v3)] := hl
  unfold PJ_tellOfStitch at h
  refine pj_aload_n C dd_PJ_tellOfStitch_0 rfl hl 0 rfl ?_
  refine pj_getR C P 0 (LC0 hB) rfl fl_PJ_10 dd_PJ_tellOfStitch_1 ?_
  refine pj_getR C P 1 (LC1 hB) rfl fl_PJ_65 dd_PJ_tellOfStitch_4 ?_
  refine pj_iload_n C dd_PJ_tellOfStitch_7 rfl hl 2 rfl ?_
  obtain ⟨r3, z2, e1, h⟩ := pj_cE h
  refine pj_cVi (st := []) [.int v2] C P 8 (LC8 hB) rfl (ct_Fabric_has hB e1) cl_PJ_148 rfl (by decide) (by decide) hl.1 (Nat.le_of_ble_eq_true rfl) dd_PJ_tellOfStitch_8 (fun H lo P => ?_)
  refine pj_if_ne C h dd_PJ_tellOfStitch_11 (fun h => ?_) (fun h => ?_)
  · refine pj_iload_n C dd_PJ_tellOfStitch_16 rfl hl 1 rfl ?_
    refine pj_sw h (fun c0 h => ?_) (fun c0 h => ?_)
    · refine pj_swI (nI 0) (31) 48 C dd_PJ_tellOfStitch_17 c0 (by decide) ?_
      refine pj_aload_n C dd_PJ_tellOfStitch_48 rfl hl 0 rfl ?_
      refine pj_getR C P 0 (LC0 hB) rfl fl_PJ_10 dd_PJ_tellOfStitch_49 ?_
      refine pj_getR C P 1 (LC1 hB) rfl fl_PJ_65 dd_PJ_tellOfStitch_52 ?_
      refine pj_iload_n C dd_PJ_tellOfStitch_55 rfl hl 2 rfl ?_
      refine pj_iload_n C dd_PJ_tellOfStitch_56 rfl hl 3 rfl ?_
      obtain ⟨r6, z5, e4, h⟩ := pj_cE h
      refine pj_cVi (st := []) [.int v2, .int v3] C P 8 (LC8 hB) rfl (ct_Fabric_tellKind hB e4) cl_PJ_279 rfl (by decide) (by decide) hl.1 (Nat.le_of_ble_eq_true rfl) dd_PJ_tellOfStitch_57 (fun H lo P => ?_)
      exact pj_zret C Q P h dd_PJ_tellOfStitch_60
    refine pj_sw h (fun c1 h => ?_) (fun c1 h => ?_)
    · refine pj_swI (nI 1) (44) 61 C dd_PJ_tellOfStitch_17 c1 (by decide) ?_
      refine pj_aload_n C dd_PJ_tellOfStitch_61 rfl hl 0 rfl ?_
      refine pj_getR C P 0 (LC0 hB) rfl fl_PJ_10 dd_PJ_tellOfStitch_62 ?_
      refine pj_getR C P 1 (LC1 hB) rfl fl_PJ_65 dd_PJ_tellOfStitch_65 ?_
      refine pj_iload_n C dd_PJ_tellOfStitch_68 rfl hl 2 rfl ?_
      refine pj_iload_n C dd_PJ_tellOfStitch_69 rfl hl 3 rfl ?_
      obtain ⟨r9, z8, e7, h⟩ := pj_cE h
      refine pj_cVi (st := []) [.int v2, .int v3] C P 8 (LC8 hB) rfl (ct_Fabric_tellCaught hB e7) cl_PJ_282 rfl (by decide) (by decide) hl.1 (Nat.le_of_ble_eq_true rfl) dd_PJ_tellOfStitch_70 (fun H lo P => ?_)
      exact pj_zret C Q P h dd_PJ_tellOfStitch_73
    refine pj_sw h (fun c2 h => ?_) (fun c2 h => ?_)
    · refine pj_swI (nI 2) (70) 87 C dd_PJ_tellOfStitch_17 c2 (by decide) ?_
      refine pj_iconst (v := (nI 0)) C dd_PJ_tellOfStitch_87 rfl ?_
      exact pj_zret C Q P h dd_PJ_tellOfStitch_88
    refine pj_sw h (fun c3 h => ?_) (fun c3 h => ?_)
    · refine pj_swI (nI 3) (57) 74 C dd_PJ_tellOfStitch_17 c3 (by decide) ?_
      refine pj_aload_n C dd_PJ_tellOfStitch_74 rfl hl 0 rfl ?_
      refine pj_getR C P 0 (LC0 hB) rfl fl_PJ_10 dd_PJ_tellOfStitch_75 ?_
      refine pj_getR C P 1 (LC1 hB) rfl fl_PJ_65 dd_PJ_tellOfStitch_78 ?_
      refine pj_iload_n C dd_PJ_tellOfStitch_81 rfl hl 2 rfl ?_
      obtain ⟨r12, z11, e10, h⟩ := pj_cE h
      refine pj_cVv (st := []) [.int v2] C P 8 (LC8 hB) rfl (ct_Fabric_bringBack hB e10) cl_PJ_285 rfl (by decide) (by decide) hl.1 (Nat.le_of_ble_eq_true rfl) dd_PJ_tellOfStitch_82 (fun H lo P => ?_)
      refine pj_iconst (v := (nI 1)) C dd_PJ_tellOfStitch_85 rfl ?_
      exact pj_zret C Q P h dd_PJ_tellOfStitch_86
    have u0 := pj_nI c0 (n := 0) (by decide)
    have u1 := pj_nI c1 (n := 1) (by decide)
    have u2 := pj_nI c2 (n := 2) (by decide)
    have u3 := pj_nI c3 (n := 3) (by decide)
    refine pj_swO 87 C dd_PJ_tellOfStitch_17 (by omega) (by decide) ?_
    refine pj_iconst (v := (nI 0)) C dd_PJ_tellOfStitch_87 rfl ?_
    exact pj_zret C Q P h dd_PJ_tellOfStitch_88
  · refine pj_iconst (v := (nI 0)) C dd_PJ_tellOfStitch_14 rfl ?_
    exact pj_zret C Q P h dd_PJ_tellOfStitch_15
theorem dd_Fabric_tellBound_0 : pj_d cX1_tellBound 0 (.iload_n 1) 1 1 := ⟨by decide +kernel, rfl⟩
theorem dd_Fabric_tellBound_1 : pj_dj cX1_tellBound 1 (.ifCond .lt 8) 8 4 9 := ⟨by decide +kernel, rfl, by decide⟩
theorem dd_Fabric_tellBound_4 : pj_d cX1_tellBound 4 (.iload_n 1) 1 5 := ⟨by decide +kernel, rfl⟩
theorem dd_Fabric_tellBound_5 : pj_d cX1_tellBound 5 (.iconst 1) 1 6 := ⟨by decide +kernel, rfl⟩
theorem dd_Fabric_tellBound_6 : pj_dj cX1_tellBound 6 (.if_icmp .le 5) 5 9 11 := ⟨by decide +kernel, rfl, by decide⟩
theorem dd_Fabric_tellBound_9 : pj_d cX1_tellBound 9 (.iconst 0) 1 10 := ⟨by decide +kernel, rfl⟩
theorem dd_Fabric_tellBound_10 : pj_d cX1_tellBound 10 (.ireturn) 1 11 := ⟨by decide +kernel, rfl⟩
theorem dd_Fabric_tellBound_11 : pj_d cX1_tellBound 11 (.aload_n 0) 1 12 := ⟨by decide +kernel, rfl⟩
theorem dd_Fabric_tellBound_12 : pj_d cX1_tellBound 12 (.iload_n 1) 1 13 := ⟨by decide +kernel, rfl⟩
theorem dd_Fabric_tellBound_13 : pj_d cX1_tellBound 13 (.iconst 1) 1 14 := ⟨by decide +kernel, rfl⟩
theorem dd_Fabric_tellBound_14 : pj_dj cX1_tellBound 14 (.if_icmp .ne 7) 7 17 21 := ⟨by decide +kernel, rfl, by decide⟩
theorem dd_Fabric_tellBound_17 : pj_d cX1_tellBound 17 (.iconst 1) 1 18 := ⟨by decide +kernel, rfl⟩
theorem dd_Fabric_tellBound_18 : pj_dj cX1_tellBound 18 (.goto 4) 4 21 22 := ⟨by decide +kernel, rfl, by decide⟩
theorem dd_Fabric_tellBound_21 : pj_d cX1_tellBound 21 (.iconst 0) 1 22 := ⟨by decide +kernel, rfl⟩
theorem dd_Fabric_tellBound_22 : pj_d cX1_tellBound 22 (.putfield 18) 3 25 := ⟨by decide +kernel, rfl⟩
theorem dd_Fabric_tellBound_25 : pj_d cX1_tellBound 25 (.iconst 1) 1 26 := ⟨by decide +kernel, rfl⟩
theorem dd_Fabric_tellBound_26 : pj_d cX1_tellBound 26 (.ireturn) 1 27 := ⟨by decide +kernel, rfl⟩
set_option maxHeartbeats 4000000 in
set_option maxRecDepth 100000 in
theorem bt_Fabric_tellBound_22 {B : pj_B} {A : Nat → Prop} {K : pj_K} {r0 : Int32} {z0 : pj_S} (hB : B.2.2.2.1 = pj_LC) (C : pj_C B A K cX1_tellBound 2 RX1 1) (Q : pj_Qi B A K (some .boolean) r0 z0)  (t0 : Int32) (z : pj_S) (H : Heap) (lo : List Loc) (ls : Array Slot) (h : Fabric_tellBound_22 t0 z = some (r0, z0)) (P : pj_P B A K z H lo) (hl : lv_has ls 2 []) : pj_W K H lo 22 ls [.int t0, .ref (B.2.1 8)] := by
  unfold Fabric_tellBound_22 at h
  refine pj_putZ C P 8 (LC8 hB) rfl fl_Fabric_18 rfl fy_1_2 h dd_Fabric_tellBound_22 (fun H lo z1 h P => ?_)
  refine pj_iconst (v := (nI 1)) C dd_Fabric_tellBound_25 rfl ?_
  exact pj_zret C Q P h dd_Fabric_tellBound_26
set_option maxHeartbeats 4000000 in
set_option maxRecDepth 100000 in
theorem ct_Fabric_tellBound {l : Launch} {B : pj_B} (hB : B.2.2.2.1 = pj_LC) {v1 : Int32} {z : pj_S} {r0 : Int32} {z0 : pj_S} (h : Fabric_tellBound v1 z = some (r0, z0)) : pj_Mi l yX1_tellBound cX1_tellBound 2 (some .boolean) 1 [.ref (B.2.1 8), .int v1] B z r0 z0 := by
  refine pj_meti (own := RX1) (by decide +kernel) rfl (Nat.le_of_ble_eq_true rfl) ?_
  intro A K hK C Q H lo ls P hl
  have hl : lv_has ls 2 [(0, .ref (B.2.1 8)), (1, .int v1)] := hl
  unfold Fabric_tellBound at h
  refine pj_iload_n C dd_Fabric_tellBound_0 rfl hl 1 rfl ?_
  refine pj_if_lt C h dd_Fabric_tellBound_1 (fun h => ?_) (fun h => ?_)
  · refine pj_iconst (v := (nI 0)) C dd_Fabric_tellBound_9 rfl ?_
    exact pj_zret C Q P h dd_Fabric_tellBound_10
  · refine pj_iload_n C dd_Fabric_tellBound_4 rfl hl 1 rfl ?_
    refine pj_iconst (v := (nI 1)) C dd_Fabric_tellBound_5 rfl ?_
    refine pj_ic_le C h dd_Fabric_tellBound_6 (fun h => ?_) (fun h => ?_)
    · refine pj_aload_n C dd_Fabric_tellBound_11 rfl hl 0 rfl ?_
      refine pj_iload_n C dd_Fabric_tellBound_12 rfl hl 1 rfl ?_
      refine pj_iconst (v := (nI 1)) C dd_Fabric_tellBound_13 rfl ?_
      refine pj_ic_ne C h dd_Fabric_tellBound_14 (fun h => ?_) (fun h => ?_)
      · refine pj_iconst (v := (nI 0)) C dd_Fabric_tellBound_21 rfl ?_
        exact bt_Fabric_tellBound_22 hB C Q _ _ _ _ _ h P (lv_sub hl [] rfl)
      · refine pj_iconst (v := (nI 1)) C dd_Fabric_tellBound_17 rfl ?_
        refine pj_goto C dd_Fabric_tellBound_18 ?_
        exact bt_Fabric_tellBound_22 hB C Q _ _ _ _ _ h P (lv_sub hl [] rfl)
    · refine pj_iconst (v := (nI 0)) C dd_Fabric_tellBound_9 rfl ?_
      exact pj_zret C Q P h dd_Fabric_tellBound_10
theorem dd_PJ_set_0 : pj_d cX10_set 0 (.iload_n 1) 1 1 := ⟨by decide +kernel, rfl⟩
theorem dd_PJ_set_1 : pj_d cX10_set 1 (.iconst 2) 1 2 := ⟨by decide +kernel, rfl⟩
theorem dd_PJ_set_2 : pj_dj cX10_set 2 (.if_icmp .ne 17) 17 5 19 := ⟨by decide +kernel, rfl, by decide⟩
theorem dd_PJ_set_5 : pj_d cX10_set 5 (.aload_n 0) 1 6 := ⟨by decide +kernel, rfl⟩
theorem dd_PJ_set_6 : pj_d cX10_set 6 (.getfield 10) 3 9 := ⟨by decide +kernel, rfl⟩
theorem dd_PJ_set_9 : pj_d cX10_set 9 (.getfield 65) 3 12 := ⟨by decide +kernel, rfl⟩
theorem dd_PJ_set_12 : pj_d cX10_set 12 (.iload_n 3) 1 13 := ⟨by decide +kernel, rfl⟩
theorem dd_PJ_set_13 : pj_d cX10_set 13 (.invokevirtual 69) 3 16 := ⟨by decide +kernel, rfl⟩
theorem dd_PJ_set_16 : pj_dj cX10_set 16 (.goto 10) 10 19 26 := ⟨by decide +kernel, rfl, by decide⟩
theorem dd_PJ_set_19 : pj_d cX10_set 19 (.aload_n 0) 1 20 := ⟨by decide +kernel, rfl⟩
theorem dd_PJ_set_20 : pj_d cX10_set 20 (.iload_n 1) 1 21 := ⟨by decide +kernel, rfl⟩
theorem dd_PJ_set_21 : pj_d cX10_set 21 (.iload_n 2) 1 22 := ⟨by decide +kernel, rfl⟩
theorem dd_PJ_set_22 : pj_d cX10_set 22 (.iload_n 3) 1 23 := ⟨by decide +kernel, rfl⟩
theorem dd_PJ_set_23 : pj_d cX10_set 23 (.invokevirtual 75) 3 26 := ⟨by decide +kernel, rfl⟩
theorem dd_PJ_set_26 : pj_d cX10_set 26 (.istore 4) 2 28 := ⟨by decide +kernel, rfl⟩
theorem dd_PJ_set_28 : pj_d cX10_set 28 (.iload 4) 2 30 := ⟨by decide +kernel, rfl⟩
theorem dd_PJ_set_30 : pj_dj cX10_set 30 (.ifCond .eq 10) 10 33 40 := ⟨by decide +kernel, rfl, by decide⟩
theorem dd_PJ_set_33 : pj_d cX10_set 33 (.aload_n 0) 1 34 := ⟨by decide +kernel, rfl⟩
theorem dd_PJ_set_34 : pj_d cX10_set 34 (.getfield 22) 3 37 := ⟨by decide +kernel, rfl⟩
theorem dd_PJ_set_37 : pj_d cX10_set 37 (.invokevirtual 62) 3 40 := ⟨by decide +kernel, rfl⟩
theorem dd_PJ_set_40 : pj_d cX10_set 40 (.iload 4) 2 42 := ⟨by decide +kernel, rfl⟩
theorem dd_PJ_set_42 : pj_d cX10_set 42 (.ireturn) 1 43 := ⟨by decide +kernel, rfl⟩
set_option maxHeartbeats 4000000 in
set_option maxRecDepth 100000 in
theorem bt_PJ_set_40 {B : pj_B} {A : Nat → Prop} {K : pj_K} {r0 : Int32} {z0 : pj_S} (hB : B.2.2.2.1 = pj_LC) (C : pj_C B A K cX10_set 5 RX10 4) (Q : pj_Qi B A K (some .boolean) r0 z0)  (v4 : Int32) (z : pj_S) (H : Heap) (lo : List Loc) (ls : Array Slot) (h : PJ_set_40 v4 z = some (r0, z0)) (P : pj_P B A K z H lo) (hl : lv_has ls 5 [(4, .int v4)]) : pj_W K H lo 40 ls [] := by
  unfold PJ_set_40 at h
  refine pj_iload C dd_PJ_set_40 hl 0 rfl ?_
  exact pj_zret C Q P h dd_PJ_set_42
set_option maxHeartbeats 4000000 in
set_option maxRecDepth 100000 in
theorem bt_PJ_set_26 {B : pj_B} {A : Nat → Prop} {K : pj_K} {r0 : Int32} {z0 : pj_S} (hB : B.2.2.2.1 = pj_LC) (C : pj_C B A K cX10_set 5 RX10 4) (Q : pj_Qi B A K (some .boolean) r0 z0)  (t0 : Int32) (z : pj_S) (H : Heap) (lo : List Loc) (ls : Array Slot) (h : PJ_set_26 t0 z = some (r0, z0)) (P : pj_P B A K z H lo) (hl : lv_has ls 5 [(0, .ref (B.2.1 0))]) : pj_W K H lo 26 ls [.int t0] := by
  unfold PJ_set_26 at h
  refine pj_istore [(4, .int t0), (0, .ref (B.2.1 0))] C dd_PJ_set_26 hl (by decide) rfl (fun ls hl => ?_)
  refine pj_iload C dd_PJ_set_28 hl 0 rfl ?_
  refine pj_if_eq C h dd_PJ_set_30 (fun h => ?_) (fun h => ?_)
  · exact bt_PJ_set_40 hB C Q _ _ _ _ _ h P (lv_sub hl [0] rfl)
  · refine pj_aload_n C dd_PJ_set_33 rfl hl 1 rfl ?_
    refine pj_getR C P 0 (LC0 hB) rfl fl_PJ_22 dd_PJ_set_34 ?_
    obtain ⟨r3, z2, e1, h⟩ := pj_cE h
    refine pj_cVv (st := []) [] C P 3 (LC3 hB) rfl (ct_Past_forget hB e1) cl_PJ_62 rfl (by decide) (by decide) hl.1 (Nat.le_of_ble_eq_true rfl) dd_PJ_set_37 (fun H lo P => ?_)
    exact bt_PJ_set_40 hB C Q _ _ _ _ _ h P (lv_sub hl [0] rfl)
set_option maxHeartbeats 4000000 in
set_option maxRecDepth 100000 in
theorem ct_PJ_set {l : Launch} {B : pj_B} (hB : B.2.2.2.1 = pj_LC) {v1 : Int32} {v2 : Int32} {v3 : Int32} {z : pj_S} {r0 : Int32} {z0 : pj_S} (h : PJ_set v1 v2 v3 z = some (r0, z0)) : pj_Mi l yX10_set cX10_set 5 (some .boolean) 4 [.ref (B.2.1 0), .int v1, .int v2, .int v3] B z r0 z0 := by
  refine pj_meti (own := RX10) (by decide +kernel) rfl (Nat.le_of_ble_eq_true rfl) ?_
  intro A K hK C Q H lo ls P hl
  have hl : lv_has ls 5 [(0, .ref (B.2.1 0)), (1, .int v1), (2, .int v2), (3, .int v3)] := hl
  unfold PJ_set at h
  refine pj_iload_n C dd_PJ_set_0 rfl hl 1 rfl ?_
  refine pj_iconst (v := (nI 2)) C dd_PJ_set_1 rfl ?_
  refine pj_ic_ne C h dd_PJ_set_2 (fun h => ?_) (fun h => ?_)
  · refine pj_aload_n C dd_PJ_set_19 rfl hl 0 rfl ?_
    refine pj_iload_n C dd_PJ_set_20 rfl hl 1 rfl ?_
    refine pj_iload_n C dd_PJ_set_21 rfl hl 2 rfl ?_
    refine pj_iload_n C dd_PJ_set_22 rfl hl 3 rfl ?_
    obtain ⟨r3, z2, e1, h⟩ := pj_cE h
    refine pj_cVi (st := []) [.int v1, .int v2, .int v3] C P 0 (LC0 hB) rfl (ct_PJ_tellOfStitch hB e1) cl_PJ_75 rfl (by decide) (by decide) hl.1 (Nat.le_of_ble_eq_true rfl) dd_PJ_set_23 (fun H lo P => ?_)
    exact bt_PJ_set_26 hB C Q _ _ _ _ _ h P (lv_sub hl [0] rfl)
  · refine pj_aload_n C dd_PJ_set_5 rfl hl 0 rfl ?_
    refine pj_getR C P 0 (LC0 hB) rfl fl_PJ_10 dd_PJ_set_6 ?_
    refine pj_getR C P 1 (LC1 hB) rfl fl_PJ_65 dd_PJ_set_9 ?_
    refine pj_iload_n C dd_PJ_set_12 rfl hl 3 rfl ?_
    obtain ⟨r6, z5, e4, h⟩ := pj_cE h
    refine pj_cVi (st := []) [.int v3] C P 8 (LC8 hB) rfl (ct_Fabric_tellBound hB e4) cl_PJ_69 rfl (by decide) (by decide) hl.1 (Nat.le_of_ble_eq_true rfl) dd_PJ_set_13 (fun H lo P => ?_)
    refine pj_goto C dd_PJ_set_16 ?_
    exact bt_PJ_set_26 hB C Q _ _ _ _ _ h P (lv_sub hl [0] rfl)
theorem dd_Fabric_isHere_0 : pj_d cX1_isHere 0 (.aload_n 0) 1 1 := ⟨by decide +kernel, rfl⟩
theorem dd_Fabric_isHere_1 : pj_d cX1_isHere 1 (.iload_n 1) 1 2 := ⟨by decide +kernel, rfl⟩
theorem dd_Fabric_isHere_2 : pj_d cX1_isHere 2 (.invokevirtual 52) 3 5 := ⟨by decide +kernel, rfl⟩
theorem dd_Fabric_isHere_5 : pj_dj cX1_isHere 5 (.ifCond .eq 19) 19 8 24 := ⟨by decide +kernel, rfl, by decide⟩
theorem dd_Fabric_isHere_8 : pj_d cX1_isHere 8 (.aload_n 0) 1 9 := ⟨by decide +kernel, rfl⟩
theorem dd_Fabric_isHere_9 : pj_d cX1_isHere 9 (.getfield 36) 3 12 := ⟨by decide +kernel, rfl⟩
theorem dd_Fabric_isHere_12 : pj_d cX1_isHere 12 (.iload_n 1) 1 13 := ⟨by decide +kernel, rfl⟩
theorem dd_Fabric_isHere_13 : pj_d cX1_isHere 13 (.invokestatic 48) 3 16 := ⟨by decide +kernel, rfl⟩
theorem dd_Fabric_isHere_16 : pj_d cX1_isHere 16 (.iconst 1) 1 17 := ⟨by decide +kernel, rfl⟩
theorem dd_Fabric_isHere_17 : pj_dj cX1_isHere 17 (.if_icmp .ne 7) 7 20 24 := ⟨by decide +kernel, rfl, by decide⟩
theorem dd_Fabric_isHere_20 : pj_d cX1_isHere 20 (.iconst 1) 1 21 := ⟨by decide +kernel, rfl⟩
theorem dd_Fabric_isHere_21 : pj_dj cX1_isHere 21 (.goto 4) 4 24 25 := ⟨by decide +kernel, rfl, by decide⟩
theorem dd_Fabric_isHere_24 : pj_d cX1_isHere 24 (.iconst 0) 1 25 := ⟨by decide +kernel, rfl⟩
theorem dd_Fabric_isHere_25 : pj_d cX1_isHere 25 (.ireturn) 1 26 := ⟨by decide +kernel, rfl⟩
set_option maxHeartbeats 4000000 in
set_option maxRecDepth 100000 in
theorem ct_Fabric_isHere {l : Launch} {B : pj_B} (hB : B.2.2.2.1 = pj_LC) {v1 : Int32} {z : pj_S} {r0 : Int32} {z0 : pj_S} (h : Fabric_isHere v1 z = some (r0, z0)) : pj_Mi l yX1_isHere cX1_isHere 2 (some .boolean) 3 [.ref (B.2.1 8), .int v1] B z r0 z0 := by
  refine pj_meti (own := RX1) (by decide +kernel) rfl (Nat.le_of_ble_eq_true rfl) ?_
  intro A K hK C Q H lo ls P hl
  have hl : lv_has ls 2 [(0, .ref (B.2.1 8)), (1, .int v1)] := hl
  unfold Fabric_isHere at h
  refine pj_aload_n C dd_Fabric_isHere_0 rfl hl 0 rfl ?_
  refine pj_iload_n C dd_Fabric_isHere_1 rfl hl 1 rfl ?_
  obtain ⟨r3, z2, e1, h⟩ := pj_cE h
  refine pj_cVi (st := []) [.int v1] C P 8 (LC8 hB) rfl (ct_Fabric_has hB e1) cl_Fabric_52 rfl (by decide) (by decide) hl.1 (Nat.le_of_ble_eq_true rfl) dd_Fabric_isHere_2 (fun H lo P => ?_)
  refine pj_if_eq C h dd_Fabric_isHere_5 (fun h => ?_) (fun h => ?_)
  · refine pj_iconst (v := (nI 0)) C dd_Fabric_isHere_24 rfl ?_
    exact pj_zret C Q P h dd_Fabric_isHere_25
  · refine pj_aload_n C dd_Fabric_isHere_8 rfl hl 0 rfl ?_
    refine pj_getJ C P 8 (LC8 hB) rfl fl_Fabric_36 dd_Fabric_isHere_9 ?_
    refine pj_iload_n C dd_Fabric_isHere_12 rfl hl 1 rfl ?_
    obtain ⟨r6, z5, e4, h⟩ := pj_cE h
    refine pj_cNi (st := []) [.long (z2.2 8 6), .int v1] C P (ct_PJ_bitOf hB e4) cl_Fabric_48 rfl (by decide) (by decide) hl.1 (Nat.le_of_ble_eq_true rfl) dd_Fabric_isHere_13 (fun H lo P => ?_)
    refine pj_iconst (v := (nI 1)) C dd_Fabric_isHere_16 rfl ?_
    refine pj_ic_ne C h dd_Fabric_isHere_17 (fun h => ?_) (fun h => ?_)
    · refine pj_iconst (v := (nI 0)) C dd_Fabric_isHere_24 rfl ?_
      exact pj_zret C Q P h dd_Fabric_isHere_25
    · refine pj_iconst (v := (nI 1)) C dd_Fabric_isHere_20 rfl ?_
      refine pj_goto C dd_Fabric_isHere_21 ?_
      exact pj_zret C Q P h dd_Fabric_isHere_25
theorem dd_Past_keep_0 : pj_d cX4_keep 0 (.aload_n 0) 1 1 := ⟨by decide +kernel, rfl⟩
theorem dd_Past_keep_1 : pj_d cX4_keep 1 (.getfield 38) 3 4 := ⟨by decide +kernel, rfl⟩
theorem dd_Past_keep_4 : pj_d cX4_keep 4 (.bipush 7) 2 6 := ⟨by decide +kernel, rfl⟩
theorem dd_Past_keep_6 : pj_d cX4_keep 6 (.iand) 1 7 := ⟨by decide +kernel, rfl⟩
theorem dd_Past_keep_7 : pj_d cX4_keep 7 (.istore_n 2) 1 8 := ⟨by decide +kernel, rfl⟩
theorem dd_Past_keep_8 : pj_d cX4_keep 8 (.aload_n 0) 1 9 := ⟨by decide +kernel, rfl⟩
theorem dd_Past_keep_9 : pj_d cX4_keep 9 (.getfield 9) 3 12 := ⟨by decide +kernel, rfl⟩
theorem dd_Past_keep_12 : pj_d cX4_keep 12 (.iload_n 2) 1 13 := ⟨by decide +kernel, rfl⟩
theorem dd_Past_keep_13 : pj_d cX4_keep 13 (.aload_n 1) 1 14 := ⟨by decide +kernel, rfl⟩
theorem dd_Past_keep_14 : pj_d cX4_keep 14 (.getfield 41) 3 17 := ⟨by decide +kernel, rfl⟩
theorem dd_Past_keep_17 : pj_d cX4_keep 17 (.getfield 47) 3 20 := ⟨by decide +kernel, rfl⟩
theorem dd_Past_keep_20 : pj_d cX4_keep 20 (.lastore) 1 21 := ⟨by decide +kernel, rfl⟩
theorem dd_Past_keep_21 : pj_d cX4_keep 21 (.aload_n 0) 1 22 := ⟨by decide +kernel, rfl⟩
theorem dd_Past_keep_22 : pj_d cX4_keep 22 (.getfield 15) 3 25 := ⟨by decide +kernel, rfl⟩
theorem dd_Past_keep_25 : pj_d cX4_keep 25 (.iload_n 2) 1 26 := ⟨by decide +kernel, rfl⟩
theorem dd_Past_keep_26 : pj_d cX4_keep 26 (.aload_n 1) 1 27 := ⟨by decide +kernel, rfl⟩
theorem dd_Past_keep_27 : pj_d cX4_keep 27 (.getfield 41) 3 30 := ⟨by decide +kernel, rfl⟩
theorem dd_Past_keep_30 : pj_d cX4_keep 30 (.getfield 52) 3 33 := ⟨by decide +kernel, rfl⟩
theorem dd_Past_keep_33 : pj_d cX4_keep 33 (.lastore) 1 34 := ⟨by decide +kernel, rfl⟩
theorem dd_Past_keep_34 : pj_d cX4_keep 34 (.aload_n 0) 1 35 := ⟨by decide +kernel, rfl⟩
theorem dd_Past_keep_35 : pj_d cX4_keep 35 (.getfield 18) 3 38 := ⟨by decide +kernel, rfl⟩
theorem dd_Past_keep_38 : pj_d cX4_keep 38 (.iload_n 2) 1 39 := ⟨by decide +kernel, rfl⟩
theorem dd_Past_keep_39 : pj_d cX4_keep 39 (.aload_n 1) 1 40 := ⟨by decide +kernel, rfl⟩
theorem dd_Past_keep_40 : pj_d cX4_keep 40 (.getfield 41) 3 43 := ⟨by decide +kernel, rfl⟩
theorem dd_Past_keep_43 : pj_d cX4_keep 43 (.getfield 54) 3 46 := ⟨by decide +kernel, rfl⟩
theorem dd_Past_keep_46 : pj_d cX4_keep 46 (.lastore) 1 47 := ⟨by decide +kernel, rfl⟩
theorem dd_Past_keep_47 : pj_d cX4_keep 47 (.aload_n 0) 1 48 := ⟨by decide +kernel, rfl⟩
theorem dd_Past_keep_48 : pj_d cX4_keep 48 (.getfield 21) 3 51 := ⟨by decide +kernel, rfl⟩
theorem dd_Past_keep_51 : pj_d cX4_keep 51 (.iload_n 2) 1 52 := ⟨by decide +kernel, rfl⟩
theorem dd_Past_keep_52 : pj_d cX4_keep 52 (.aload_n 1) 1 53 := ⟨by decide +kernel, rfl⟩
theorem dd_Past_keep_53 : pj_d cX4_keep 53 (.getfield 56) 3 56 := ⟨by decide +kernel, rfl⟩
theorem dd_Past_keep_56 : pj_d cX4_keep 56 (.iastore) 1 57 := ⟨by decide +kernel, rfl⟩
theorem dd_Past_keep_57 : pj_d cX4_keep 57 (.aload_n 0) 1 58 := ⟨by decide +kernel, rfl⟩
theorem dd_Past_keep_58 : pj_d cX4_keep 58 (.getfield 25) 3 61 := ⟨by decide +kernel, rfl⟩
theorem dd_Past_keep_61 : pj_d cX4_keep 61 (.iload_n 2) 1 62 := ⟨by decide +kernel, rfl⟩
theorem dd_Past_keep_62 : pj_d cX4_keep 62 (.aload_n 1) 1 63 := ⟨by decide +kernel, rfl⟩
theorem dd_Past_keep_63 : pj_d cX4_keep 63 (.getfield 58) 3 66 := ⟨by decide +kernel, rfl⟩
theorem dd_Past_keep_66 : pj_d cX4_keep 66 (.iastore) 1 67 := ⟨by decide +kernel, rfl⟩
theorem dd_Past_keep_67 : pj_d cX4_keep 67 (.aload_n 0) 1 68 := ⟨by decide +kernel, rfl⟩
theorem dd_Past_keep_68 : pj_d cX4_keep 68 (.getfield 28) 3 71 := ⟨by decide +kernel, rfl⟩
theorem dd_Past_keep_71 : pj_d cX4_keep 71 (.iload_n 2) 1 72 := ⟨by decide +kernel, rfl⟩
theorem dd_Past_keep_72 : pj_d cX4_keep 72 (.aload_n 1) 1 73 := ⟨by decide +kernel, rfl⟩
theorem dd_Past_keep_73 : pj_d cX4_keep 73 (.getfield 60) 3 76 := ⟨by decide +kernel, rfl⟩
theorem dd_Past_keep_76 : pj_d cX4_keep 76 (.getfield 64) 3 79 := ⟨by decide +kernel, rfl⟩
theorem dd_Past_keep_79 : pj_d cX4_keep 79 (.iastore) 1 80 := ⟨by decide +kernel, rfl⟩
theorem dd_Past_keep_80 : pj_d cX4_keep 80 (.aload_n 0) 1 81 := ⟨by decide +kernel, rfl⟩
theorem dd_Past_keep_81 : pj_d cX4_keep 81 (.getfield 31) 3 84 := ⟨by decide +kernel, rfl⟩
theorem dd_Past_keep_84 : pj_d cX4_keep 84 (.iload_n 2) 1 85 := ⟨by decide +kernel, rfl⟩
theorem dd_Past_keep_85 : pj_d cX4_keep 85 (.aload_n 1) 1 86 := ⟨by decide +kernel, rfl⟩
theorem dd_Past_keep_86 : pj_d cX4_keep 86 (.getfield 67) 3 89 := ⟨by decide +kernel, rfl⟩
theorem dd_Past_keep_89 : pj_d cX4_keep 89 (.getfield 71) 3 92 := ⟨by decide +kernel, rfl⟩
theorem dd_Past_keep_92 : pj_d cX4_keep 92 (.iastore) 1 93 := ⟨by decide +kernel, rfl⟩
theorem dd_Past_keep_93 : pj_d cX4_keep 93 (.aload_n 0) 1 94 := ⟨by decide +kernel, rfl⟩
theorem dd_Past_keep_94 : pj_d cX4_keep 94 (.iload_n 2) 1 95 := ⟨by decide +kernel, rfl⟩
theorem dd_Past_keep_95 : pj_d cX4_keep 95 (.iconst 1) 1 96 := ⟨by decide +kernel, rfl⟩
theorem dd_Past_keep_96 : pj_d cX4_keep 96 (.iadd) 1 97 := ⟨by decide +kernel, rfl⟩
theorem dd_Past_keep_97 : pj_d cX4_keep 97 (.bipush 7) 2 99 := ⟨by decide +kernel, rfl⟩
theorem dd_Past_keep_99 : pj_d cX4_keep 99 (.iand) 1 100 := ⟨by decide +kernel, rfl⟩
theorem dd_Past_keep_100 : pj_d cX4_keep 100 (.putfield 38) 3 103 := ⟨by decide +kernel, rfl⟩
theorem dd_Past_keep_103 : pj_d cX4_keep 103 (.aload_n 0) 1 104 := ⟨by decide +kernel, rfl⟩
theorem dd_Past_keep_104 : pj_d cX4_keep 104 (.aload_n 0) 1 105 := ⟨by decide +kernel, rfl⟩
theorem dd_Past_keep_105 : pj_d cX4_keep 105 (.getfield 34) 3 108 := ⟨by decide +kernel, rfl⟩
theorem dd_Past_keep_108 : pj_d cX4_keep 108 (.iconst 1) 1 109 := ⟨by decide +kernel, rfl⟩
theorem dd_Past_keep_109 : pj_d cX4_keep 109 (.iadd) 1 110 := ⟨by decide +kernel, rfl⟩
theorem dd_Past_keep_110 : pj_d cX4_keep 110 (.bipush 8) 2 112 := ⟨by decide +kernel, rfl⟩
theorem dd_Past_keep_112 : pj_d cX4_keep 112 (.invokestatic 74) 3 115 := ⟨by decide +kernel, rfl⟩
theorem dd_Past_keep_115 : pj_d cX4_keep 115 (.putfield 34) 3 118 := ⟨by decide +kernel, rfl⟩
theorem dd_Past_keep_118 : pj_d cX4_keep 118 (.return_) 1 119 := ⟨by decide +kernel, rfl⟩
set_option maxHeartbeats 4000000 in
set_option maxRecDepth 100000 in
theorem ct_Past_keep {l : Launch} {B : pj_B} (hB : B.2.2.2.1 = pj_LC)  {z : pj_S} {r0 : Unit} {z0 : pj_S} (h : Past_keep z = some (r0, z0)) : pj_Mv l yX4_keep cX4_keep 3 none 1 [.ref (B.2.1 3), .ref (B.2.1 1)] B z r0 z0 := by
  refine pj_metv (own := RX4) (by decide +kernel) rfl (Nat.le_of_ble_eq_true rfl) ?_
  intro A K hK C Q H lo ls P hl
  have hl : lv_has ls 3 [(0, .ref (B.2.1 3)), (1, .ref (B.2.1 1))] := hl
  unfold Past_keep at h
  refine pj_aload_n C dd_Past_keep_0 rfl hl 0 rfl ?_
  refine pj_getI C P 3 (LC3 hB) rfl fl_Past_38 dd_Past_keep_1 ?_
  refine pj_bipush (v := (nI 7)) C dd_Past_keep_4 rfl ?_
  refine pj_iand C dd_Past_keep_6 ?_
  refine pj_istb_n [(0, .ref (B.2.1 3)), (1, .ref (B.2.1 1))] C h dd_Past_keep_7 rfl hl (by decide) rfl (fun x1 ls h hl => ?_)
  refine pj_aload_n C dd_Past_keep_8 rfl hl 1 rfl ?_
  refine pj_getR C P 3 (LC3 hB) rfl fl_Past_9 dd_Past_keep_9 ?_
  refine pj_iload_n C dd_Past_keep_12 rfl hl 0 rfl ?_
  refine pj_aload_n C dd_Past_keep_13 rfl hl 2 rfl ?_
  refine pj_getR C P 1 (LC1 hB) rfl fl_Past_41 dd_Past_keep_14 ?_
  refine pj_getJ C P 8 (LC8 hB) rfl fl_Past_47 dd_Past_keep_17 ?_
  refine pj_last C P 16 (LC16 hB) h dd_Past_keep_20 (fun H lo z2 h P => ?_)
  refine pj_aload_n C dd_Past_keep_21 rfl hl 1 rfl ?_
  refine pj_getR C P 3 (LC3 hB) rfl fl_Past_15 dd_Past_keep_22 ?_
  refine pj_iload_n C dd_Past_keep_25 rfl hl 0 rfl ?_
  refine pj_aload_n C dd_Past_keep_26 rfl hl 2 rfl ?_
  refine pj_getR C P 1 (LC1 hB) rfl fl_Past_41 dd_Past_keep_27 ?_
  refine pj_getJ C P 8 (LC8 hB) rfl fl_Past_52 dd_Past_keep_30 ?_
  refine pj_last C P 17 (LC17 hB) h dd_Past_keep_33 (fun H lo z3 h P => ?_)
  refine pj_aload_n C dd_Past_keep_34 rfl hl 1 rfl ?_
  refine pj_getR C P 3 (LC3 hB) rfl fl_Past_18 dd_Past_keep_35 ?_
  refine pj_iload_n C dd_Past_keep_38 rfl hl 0 rfl ?_
  refine pj_aload_n C dd_Past_keep_39 rfl hl 2 rfl ?_
  refine pj_getR C P 1 (LC1 hB) rfl fl_Past_41 dd_Past_keep_40 ?_
  refine pj_getJ C P 8 (LC8 hB) rfl fl_Past_54 dd_Past_keep_43 ?_
  refine pj_last C P 18 (LC18 hB) h dd_Past_keep_46 (fun H lo z4 h P => ?_)
  refine pj_aload_n C dd_Past_keep_47 rfl hl 1 rfl ?_
  refine pj_getR C P 3 (LC3 hB) rfl fl_Past_21 dd_Past_keep_48 ?_
  refine pj_iload_n C dd_Past_keep_51 rfl hl 0 rfl ?_
  refine pj_aload_n C dd_Past_keep_52 rfl hl 2 rfl ?_
  refine pj_getI C P 1 (LC1 hB) rfl fl_Past_56 dd_Past_keep_53 ?_
  refine pj_iast C P 19 (LC19 hB) h dd_Past_keep_56 (fun H lo z5 h P => ?_)
  refine pj_aload_n C dd_Past_keep_57 rfl hl 1 rfl ?_
  refine pj_getR C P 3 (LC3 hB) rfl fl_Past_25 dd_Past_keep_58 ?_
  refine pj_iload_n C dd_Past_keep_61 rfl hl 0 rfl ?_
  refine pj_aload_n C dd_Past_keep_62 rfl hl 2 rfl ?_
  refine pj_getI C P 1 (LC1 hB) rfl fl_Past_58 dd_Past_keep_63 ?_
  refine pj_iast C P 20 (LC20 hB) h dd_Past_keep_66 (fun H lo z6 h P => ?_)
  refine pj_aload_n C dd_Past_keep_67 rfl hl 1 rfl ?_
  refine pj_getR C P 3 (LC3 hB) rfl fl_Past_28 dd_Past_keep_68 ?_
  refine pj_iload_n C dd_Past_keep_71 rfl hl 0 rfl ?_
  refine pj_aload_n C dd_Past_keep_72 rfl hl 2 rfl ?_
  refine pj_getR C P 1 (LC1 hB) rfl fl_Past_60 dd_Past_keep_73 ?_
  refine pj_getI C P 10 (LC10 hB) rfl fl_Past_64 dd_Past_keep_76 ?_
  refine pj_iast C P 21 (LC21 hB) h dd_Past_keep_79 (fun H lo z7 h P => ?_)
  refine pj_aload_n C dd_Past_keep_80 rfl hl 1 rfl ?_
  refine pj_getR C P 3 (LC3 hB) rfl fl_Past_31 dd_Past_keep_81 ?_
  refine pj_iload_n C dd_Past_keep_84 rfl hl 0 rfl ?_
  refine pj_aload_n C dd_Past_keep_85 rfl hl 2 rfl ?_
  refine pj_getR C P 1 (LC1 hB) rfl fl_Past_67 dd_Past_keep_86 ?_
  refine pj_getI C P 11 (LC11 hB) rfl fl_Past_71 dd_Past_keep_89 ?_
  refine pj_iast C P 22 (LC22 hB) h dd_Past_keep_92 (fun H lo z8 h P => ?_)
  refine pj_aload_n C dd_Past_keep_93 rfl hl 1 rfl ?_
  refine pj_iload_n C dd_Past_keep_94 rfl hl 0 rfl ?_
  refine pj_iconst (v := (nI 1)) C dd_Past_keep_95 rfl ?_
  refine pj_iadd C dd_Past_keep_96 ?_
  refine pj_bipush (v := (nI 7)) C dd_Past_keep_97 rfl ?_
  refine pj_iand C dd_Past_keep_99 ?_
  refine pj_putI C P 3 (LC3 hB) rfl fl_Past_38 rfl fy_4_8 h dd_Past_keep_100 (fun H lo z9 h P => ?_)
  refine pj_aload_n C dd_Past_keep_103 rfl hl 1 rfl ?_
  refine pj_aload_n C dd_Past_keep_104 rfl hl 1 rfl ?_
  refine pj_getI C P 3 (LC3 hB) rfl fl_Past_34 dd_Past_keep_105 ?_
  refine pj_iconst (v := (nI 1)) C dd_Past_keep_108 rfl ?_
  refine pj_iadd C dd_Past_keep_109 ?_
  refine pj_bipush (v := (nI 8)) C dd_Past_keep_110 rfl ?_
  refine pj_mmin C cl_Past_74 (by decide) hl.1 (Nat.le_of_ble_eq_true rfl) dd_Past_keep_112 ?_
  refine pj_putI C P 3 (LC3 hB) rfl fl_Past_34 rfl fy_4_7 h dd_Past_keep_115 (fun H lo z10 h P => ?_)
  exact pj_vret C Q P h dd_Past_keep_118
theorem dd_Book_note_0 : pj_d cX0_note 0 (.aload_n 0) 1 1 := ⟨by decide +kernel, rfl⟩
theorem dd_Book_note_1 : pj_d cX0_note 1 (.getfield 27) 3 4 := ⟨by decide +kernel, rfl⟩
theorem dd_Book_note_4 : pj_dj cX0_note 4 (.ifCond .lt 12) 12 7 16 := ⟨by decide +kernel, rfl, by decide⟩
theorem dd_Book_note_7 : pj_d cX0_note 7 (.aload_n 0) 1 8 := ⟨by decide +kernel, rfl⟩
theorem dd_Book_note_8 : pj_d cX0_note 8 (.getfield 27) 3 11 := ⟨by decide +kernel, rfl⟩
theorem dd_Book_note_11 : pj_d cX0_note 11 (.bipush 100) 2 13 := ⟨by decide +kernel, rfl⟩
theorem dd_Book_note_13 : pj_dj cX0_note 13 (.if_icmp .lt 4) 4 16 17 := ⟨by decide +kernel, rfl, by decide⟩
theorem dd_Book_note_16 : pj_d cX0_note 16 (.return_) 1 17 := ⟨by decide +kernel, rfl⟩
theorem dd_Book_note_17 : pj_d cX0_note 17 (.aload_n 0) 1 18 := ⟨by decide +kernel, rfl⟩
theorem dd_Book_note_18 : pj_d cX0_note 18 (.getfield 9) 3 21 := ⟨by decide +kernel, rfl⟩
theorem dd_Book_note_21 : pj_d cX0_note 21 (.aload_n 0) 1 22 := ⟨by decide +kernel, rfl⟩
theorem dd_Book_note_22 : pj_d cX0_note 22 (.getfield 27) 3 25 := ⟨by decide +kernel, rfl⟩
theorem dd_Book_note_25 : pj_d cX0_note 25 (.iload_n 1) 1 26 := ⟨by decide +kernel, rfl⟩
theorem dd_Book_note_26 : pj_d cX0_note 26 (.iastore) 1 27 := ⟨by decide +kernel, rfl⟩
theorem dd_Book_note_27 : pj_d cX0_note 27 (.aload_n 0) 1 28 := ⟨by decide +kernel, rfl⟩
theorem dd_Book_note_28 : pj_d cX0_note 28 (.getfield 15) 3 31 := ⟨by decide +kernel, rfl⟩
theorem dd_Book_note_31 : pj_d cX0_note 31 (.aload_n 0) 1 32 := ⟨by decide +kernel, rfl⟩
theorem dd_Book_note_32 : pj_d cX0_note 32 (.getfield 27) 3 35 := ⟨by decide +kernel, rfl⟩
theorem dd_Book_note_35 : pj_d cX0_note 35 (.iload_n 2) 1 36 := ⟨by decide +kernel, rfl⟩
theorem dd_Book_note_36 : pj_d cX0_note 36 (.iastore) 1 37 := ⟨by decide +kernel, rfl⟩
theorem dd_Book_note_37 : pj_d cX0_note 37 (.aload_n 0) 1 38 := ⟨by decide +kernel, rfl⟩
theorem dd_Book_note_38 : pj_d cX0_note 38 (.getfield 18) 3 41 := ⟨by decide +kernel, rfl⟩
theorem dd_Book_note_41 : pj_d cX0_note 41 (.aload_n 0) 1 42 := ⟨by decide +kernel, rfl⟩
theorem dd_Book_note_42 : pj_d cX0_note 42 (.getfield 27) 3 45 := ⟨by decide +kernel, rfl⟩
theorem dd_Book_note_45 : pj_d cX0_note 45 (.iload_n 3) 1 46 := ⟨by decide +kernel, rfl⟩
theorem dd_Book_note_46 : pj_d cX0_note 46 (.iastore) 1 47 := ⟨by decide +kernel, rfl⟩
theorem dd_Book_note_47 : pj_d cX0_note 47 (.aload_n 0) 1 48 := ⟨by decide +kernel, rfl⟩
theorem dd_Book_note_48 : pj_d cX0_note 48 (.dup) 1 49 := ⟨by decide +kernel, rfl⟩
theorem dd_Book_note_49 : pj_d cX0_note 49 (.getfield 27) 3 52 := ⟨by decide +kernel, rfl⟩
theorem dd_Book_note_52 : pj_d cX0_note 52 (.iconst 1) 1 53 := ⟨by decide +kernel, rfl⟩
theorem dd_Book_note_53 : pj_d cX0_note 53 (.iadd) 1 54 := ⟨by decide +kernel, rfl⟩
theorem dd_Book_note_54 : pj_d cX0_note 54 (.putfield 27) 3 57 := ⟨by decide +kernel, rfl⟩
theorem dd_Book_note_57 : pj_d cX0_note 57 (.return_) 1 58 := ⟨by decide +kernel, rfl⟩
set_option maxHeartbeats 4000000 in
set_option maxRecDepth 100000 in
theorem ct_Book_note {l : Launch} {B : pj_B} (hB : B.2.2.2.1 = pj_LC) {v1 : Int32} {v2 : Int32} {v3 : Int32} {z : pj_S} {r0 : Unit} {z0 : pj_S} (h : Book_note v1 v2 v3 z = some (r0, z0)) : pj_Mv l yX0_note cX0_note 4 none 1 [.ref (B.2.1 10), .int v1, .int v2, .int v3] B z r0 z0 := by
  refine pj_metv (own := RX0) (by decide +kernel) rfl (Nat.le_of_ble_eq_true rfl) ?_
  intro A K hK C Q H lo ls P hl
  have hl : lv_has ls 4 [(0, .ref (B.2.1 10)), (1, .int v1), (2, .int v2), (3, .int v3)] := hl
  unfold Book_note at h
  refine pj_aload_n C dd_Book_note_0 rfl hl 0 rfl ?_
  refine pj_getI C P 10 (LC10 hB) rfl fl_Book_27 dd_Book_note_1 ?_
  refine pj_if_lt C h dd_Book_note_4 (fun h => ?_) (fun h => ?_)
  · exact pj_vret C Q P h dd_Book_note_16
  · refine pj_aload_n C dd_Book_note_7 rfl hl 0 rfl ?_
    refine pj_getI C P 10 (LC10 hB) rfl fl_Book_27 dd_Book_note_8 ?_
    refine pj_bipush (v := (nI 100)) C dd_Book_note_11 rfl ?_
    refine pj_ic_lt C h dd_Book_note_13 (fun h => ?_) (fun h => ?_)
    · refine pj_aload_n C dd_Book_note_17 rfl hl 0 rfl ?_
      refine pj_getR C P 10 (LC10 hB) rfl fl_Book_9 dd_Book_note_18 ?_
      refine pj_aload_n C dd_Book_note_21 rfl hl 0 rfl ?_
      refine pj_getI C P 10 (LC10 hB) rfl fl_Book_27 dd_Book_note_22 ?_
      refine pj_iload_n C dd_Book_note_25 rfl hl 1 rfl ?_
      refine pj_iast C P 31 (LC31 hB) h dd_Book_note_26 (fun H lo z1 h P => ?_)
      refine pj_aload_n C dd_Book_note_27 rfl hl 0 rfl ?_
      refine pj_getR C P 10 (LC10 hB) rfl fl_Book_15 dd_Book_note_28 ?_
      refine pj_aload_n C dd_Book_note_31 rfl hl 0 rfl ?_
      refine pj_getI C P 10 (LC10 hB) rfl fl_Book_27 dd_Book_note_32 ?_
      refine pj_iload_n C dd_Book_note_35 rfl hl 2 rfl ?_
      refine pj_iast C P 32 (LC32 hB) h dd_Book_note_36 (fun H lo z2 h P => ?_)
      refine pj_aload_n C dd_Book_note_37 rfl hl 0 rfl ?_
      refine pj_getR C P 10 (LC10 hB) rfl fl_Book_18 dd_Book_note_38 ?_
      refine pj_aload_n C dd_Book_note_41 rfl hl 0 rfl ?_
      refine pj_getI C P 10 (LC10 hB) rfl fl_Book_27 dd_Book_note_42 ?_
      refine pj_iload_n C dd_Book_note_45 rfl hl 3 rfl ?_
      refine pj_iast C P 33 (LC33 hB) h dd_Book_note_46 (fun H lo z3 h P => ?_)
      refine pj_aload_n C dd_Book_note_47 rfl hl 0 rfl ?_
      refine pj_dup C dd_Book_note_48 rfl ?_
      refine pj_getI C P 10 (LC10 hB) rfl fl_Book_27 dd_Book_note_49 ?_
      refine pj_iconst (v := (nI 1)) C dd_Book_note_52 rfl ?_
      refine pj_iadd C dd_Book_note_53 ?_
      refine pj_putI C P 10 (LC10 hB) rfl fl_Book_27 rfl fy_0_3 h dd_Book_note_54 (fun H lo z4 h P => ?_)
      exact pj_vret C Q P h dd_Book_note_57
    · exact pj_vret C Q P h dd_Book_note_16
theorem dd_Whole_letGo_0 : pj_d cX8_letGo 0 (.aload_n 0) 1 1 := ⟨by decide +kernel, rfl⟩
theorem dd_Whole_letGo_1 : pj_d cX8_letGo 1 (.getfield 12) 3 4 := ⟨by decide +kernel, rfl⟩
theorem dd_Whole_letGo_4 : pj_d cX8_letGo 4 (.dup) 1 5 := ⟨by decide +kernel, rfl⟩
theorem dd_Whole_letGo_5 : pj_d cX8_letGo 5 (.getfield 81) 3 8 := ⟨by decide +kernel, rfl⟩
theorem dd_Whole_letGo_8 : pj_d cX8_letGo 8 (.lconst 1) 1 9 := ⟨by decide +kernel, rfl⟩
theorem dd_Whole_letGo_9 : pj_d cX8_letGo 9 (.iload_n 1) 1 10 := ⟨by decide +kernel, rfl⟩
theorem dd_Whole_letGo_10 : pj_d cX8_letGo 10 (.lshl) 1 11 := ⟨by decide +kernel, rfl⟩
theorem dd_Whole_letGo_11 : pj_d cX8_letGo 11 (.ldc2_w 85) 3 14 := ⟨by decide +kernel, rfl⟩
theorem dd_Whole_letGo_14 : pj_d cX8_letGo 14 (.lxor) 1 15 := ⟨by decide +kernel, rfl⟩
theorem dd_Whole_letGo_15 : pj_d cX8_letGo 15 (.land) 1 16 := ⟨by decide +kernel, rfl⟩
theorem dd_Whole_letGo_16 : pj_d cX8_letGo 16 (.putfield 81) 3 19 := ⟨by decide +kernel, rfl⟩
theorem dd_Whole_letGo_19 : pj_d cX8_letGo 19 (.aload_n 0) 1 20 := ⟨by decide +kernel, rfl⟩
theorem dd_Whole_letGo_20 : pj_d cX8_letGo 20 (.getfield 28) 3 23 := ⟨by decide +kernel, rfl⟩
theorem dd_Whole_letGo_23 : pj_d cX8_letGo 23 (.aload_n 0) 1 24 := ⟨by decide +kernel, rfl⟩
theorem dd_Whole_letGo_24 : pj_d cX8_letGo 24 (.getfield 51) 3 27 := ⟨by decide +kernel, rfl⟩
theorem dd_Whole_letGo_27 : pj_d cX8_letGo 27 (.iload_n 1) 1 28 := ⟨by decide +kernel, rfl⟩
theorem dd_Whole_letGo_28 : pj_d cX8_letGo 28 (.iload_n 2) 1 29 := ⟨by decide +kernel, rfl⟩
theorem dd_Whole_letGo_29 : pj_d cX8_letGo 29 (.invokevirtual 87) 3 32 := ⟨by decide +kernel, rfl⟩
theorem dd_Whole_letGo_32 : pj_d cX8_letGo 32 (.return_) 1 33 := ⟨by decide +kernel, rfl⟩
set_option maxHeartbeats 4000000 in
set_option maxRecDepth 100000 in
theorem ct_Whole_letGo {l : Launch} {B : pj_B} (hB : B.2.2.2.1 = pj_LC) {v1 : Int32} {v2 : Int32} {z : pj_S} {r0 : Unit} {z0 : pj_S} (h : Whole_letGo v1 v2 z = some (r0, z0)) : pj_Mv l yX8_letGo cX8_letGo 3 none 2 [.ref (B.2.1 1), .int v1, .int v2] B z r0 z0 := by
  refine pj_metv (own := RX8) (by decide +kernel) rfl (Nat.le_of_ble_eq_true rfl) ?_
  intro A K hK C Q H lo ls P hl
  have hl : lv_has ls 3 [(0, .ref (B.2.1 1)), (1, .int v1), (2, .int v2)] := hl
  unfold Whole_letGo at h
  refine pj_aload_n C dd_Whole_letGo_0 rfl hl 0 rfl ?_
  refine pj_getR C P 1 (LC1 hB) rfl fl_Whole_12 dd_Whole_letGo_1 ?_
  refine pj_dup C dd_Whole_letGo_4 rfl ?_
  refine pj_getJ C P 8 (LC8 hB) rfl fl_Whole_81 dd_Whole_letGo_5 ?_
  refine pj_lconst (v := (1 : Int64)) C dd_Whole_letGo_8 rfl ?_
  refine pj_iload_n C dd_Whole_letGo_9 rfl hl 1 rfl ?_
  refine pj_lshl C dd_Whole_letGo_10 ?_
  refine pj_ldc2 (v := (-1 : Int64)) C co_Whole_85 dd_Whole_letGo_11 ?_
  refine pj_lxor C dd_Whole_letGo_14 ?_
  refine pj_land C dd_Whole_letGo_15 ?_
  refine pj_putJ C P 8 (LC8 hB) rfl fl_Whole_81 rfl fy_1_6 h dd_Whole_letGo_16 (fun H lo z1 h P => ?_)
  refine pj_aload_n C dd_Whole_letGo_19 rfl hl 0 rfl ?_
  refine pj_getR C P 1 (LC1 hB) rfl fl_Whole_28 dd_Whole_letGo_20 ?_
  refine pj_aload_n C dd_Whole_letGo_23 rfl hl 0 rfl ?_
  refine pj_getI C P 1 (LC1 hB) rfl fl_Whole_51 dd_Whole_letGo_24 ?_
  refine pj_iload_n C dd_Whole_letGo_27 rfl hl 1 rfl ?_
  refine pj_iload_n C dd_Whole_letGo_28 rfl hl 2 rfl ?_
  obtain ⟨r4, z3, e2, h⟩ := pj_cE h
  refine pj_cVv (st := []) [.int (z1.1 1 4), .int v1, .int v2] C P 10 (LC10 hB) rfl (ct_Book_note hB e2) cl_Whole_87 rfl (by decide) (by decide) hl.1 (Nat.le_of_ble_eq_true rfl) dd_Whole_letGo_29 (fun H lo P => ?_)
  exact pj_vret C Q P h dd_Whole_letGo_32
theorem dd_PJ_gone_0 : pj_d cX10_gone 0 (.aload_n 0) 1 1 := ⟨by decide +kernel, rfl⟩
theorem dd_PJ_gone_1 : pj_d cX10_gone 1 (.getfield 10) 3 4 := ⟨by decide +kernel, rfl⟩
theorem dd_PJ_gone_4 : pj_d cX10_gone 4 (.getfield 65) 3 7 := ⟨by decide +kernel, rfl⟩
theorem dd_PJ_gone_7 : pj_d cX10_gone 7 (.iload_n 1) 1 8 := ⟨by decide +kernel, rfl⟩
theorem dd_PJ_gone_8 : pj_d cX10_gone 8 (.invokevirtual 79) 3 11 := ⟨by decide +kernel, rfl⟩
theorem dd_PJ_gone_11 : pj_dj cX10_gone 11 (.ifCond .ne 5) 5 14 16 := ⟨by decide +kernel, rfl, by decide⟩
theorem dd_PJ_gone_14 : pj_d cX10_gone 14 (.iconst 0) 1 15 := ⟨by decide +kernel, rfl⟩
theorem dd_PJ_gone_15 : pj_d cX10_gone 15 (.ireturn) 1 16 := ⟨by decide +kernel, rfl⟩
theorem dd_PJ_gone_16 : pj_d cX10_gone 16 (.aload_n 0) 1 17 := ⟨by decide +kernel, rfl⟩
theorem dd_PJ_gone_17 : pj_d cX10_gone 17 (.getfield 22) 3 20 := ⟨by decide +kernel, rfl⟩
theorem dd_PJ_gone_20 : pj_d cX10_gone 20 (.aload_n 0) 1 21 := ⟨by decide +kernel, rfl⟩
theorem dd_PJ_gone_21 : pj_d cX10_gone 21 (.getfield 10) 3 24 := ⟨by decide +kernel, rfl⟩
theorem dd_PJ_gone_24 : pj_d cX10_gone 24 (.invokevirtual 82) 3 27 := ⟨by decide +kernel, rfl⟩
theorem dd_PJ_gone_27 : pj_d cX10_gone 27 (.aload_n 0) 1 28 := ⟨by decide +kernel, rfl⟩
theorem dd_PJ_gone_28 : pj_d cX10_gone 28 (.getfield 10) 3 31 := ⟨by decide +kernel, rfl⟩
theorem dd_PJ_gone_31 : pj_d cX10_gone 31 (.iload_n 1) 1 32 := ⟨by decide +kernel, rfl⟩
theorem dd_PJ_gone_32 : pj_d cX10_gone 32 (.iconst 0) 1 33 := ⟨by decide +kernel, rfl⟩
theorem dd_PJ_gone_33 : pj_d cX10_gone 33 (.invokevirtual 86) 3 36 := ⟨by decide +kernel, rfl⟩
theorem dd_PJ_gone_36 : pj_d cX10_gone 36 (.iconst 1) 1 37 := ⟨by decide +kernel, rfl⟩
theorem dd_PJ_gone_37 : pj_d cX10_gone 37 (.ireturn) 1 38 := ⟨by decide +kernel, rfl⟩
set_option maxHeartbeats 4000000 in
set_option maxRecDepth 100000 in
theorem ct_PJ_gone {l : Launch} {B : pj_B} (hB : B.2.2.2.1 = pj_LC) {v1 : Int32} {z : pj_S} {r0 : Int32} {z0 : pj_S} (h : PJ_gone v1 z = some (r0, z0)) : pj_Mi l yX10_gone cX10_gone 2 (some .boolean) 4 [.ref (B.2.1 0), .int v1] B z r0 z0 := by
  refine pj_meti (own := RX10) (by decide +kernel) rfl (Nat.le_of_ble_eq_true rfl) ?_
  intro A K hK C Q H lo ls P hl
  have hl : lv_has ls 2 [(0, .ref (B.2.1 0)), (1, .int v1)] := hl
  unfold PJ_gone at h
  refine pj_aload_n C dd_PJ_gone_0 rfl hl 0 rfl ?_
  refine pj_getR C P 0 (LC0 hB) rfl fl_PJ_10 dd_PJ_gone_1 ?_
  refine pj_getR C P 1 (LC1 hB) rfl fl_PJ_65 dd_PJ_gone_4 ?_
  refine pj_iload_n C dd_PJ_gone_7 rfl hl 1 rfl ?_
  obtain ⟨r3, z2, e1, h⟩ := pj_cE h
  refine pj_cVi (st := []) [.int v1] C P 8 (LC8 hB) rfl (ct_Fabric_isHere hB e1) cl_PJ_79 rfl (by decide) (by decide) hl.1 (Nat.le_of_ble_eq_true rfl) dd_PJ_gone_8 (fun H lo P => ?_)
  refine pj_if_ne C h dd_PJ_gone_11 (fun h => ?_) (fun h => ?_)
  · refine pj_aload_n C dd_PJ_gone_16 rfl hl 0 rfl ?_
    refine pj_getR C P 0 (LC0 hB) rfl fl_PJ_22 dd_PJ_gone_17 ?_
    refine pj_aload_n C dd_PJ_gone_20 rfl hl 0 rfl ?_
    refine pj_getR C P 0 (LC0 hB) rfl fl_PJ_10 dd_PJ_gone_21 ?_
    obtain ⟨r6, z5, e4, h⟩ := pj_cE h
    refine pj_cVv (st := []) [.ref (B.2.1 1)] C P 3 (LC3 hB) rfl (ct_Past_keep hB e4) cl_PJ_82 rfl (by decide) (by decide) hl.1 (Nat.le_of_ble_eq_true rfl) dd_PJ_gone_24 (fun H lo P => ?_)
    refine pj_aload_n C dd_PJ_gone_27 rfl hl 0 rfl ?_
    refine pj_getR C P 0 (LC0 hB) rfl fl_PJ_10 dd_PJ_gone_28 ?_
    refine pj_iload_n C dd_PJ_gone_31 rfl hl 1 rfl ?_
    refine pj_iconst (v := (nI 0)) C dd_PJ_gone_32 rfl ?_
    obtain ⟨r9, z8, e7, h⟩ := pj_cE h
    refine pj_cVv (st := []) [.int v1, .int (nI 0)] C P 1 (LC1 hB) rfl (ct_Whole_letGo hB e7) cl_PJ_86 rfl (by decide) (by decide) hl.1 (Nat.le_of_ble_eq_true rfl) dd_PJ_gone_33 (fun H lo P => ?_)
    refine pj_iconst (v := (nI 1)) C dd_PJ_gone_36 rfl ?_
    exact pj_zret C Q P h dd_PJ_gone_37
  · refine pj_iconst (v := (nI 0)) C dd_PJ_gone_14 rfl ?_
    exact pj_zret C Q P h dd_PJ_gone_15
theorem dd_Fabric_places_0 : pj_d cX1_places 0 (.aload_n 0) 1 1 := ⟨by decide +kernel, rfl⟩
theorem dd_Fabric_places_1 : pj_d cX1_places 1 (.getfield 9) 3 4 := ⟨by decide +kernel, rfl⟩
theorem dd_Fabric_places_4 : pj_d cX1_places 4 (.aload_n 0) 1 5 := ⟨by decide +kernel, rfl⟩
theorem dd_Fabric_places_5 : pj_d cX1_places 5 (.getfield 15) 3 8 := ⟨by decide +kernel, rfl⟩
theorem dd_Fabric_places_8 : pj_d cX1_places 8 (.imul) 1 9 := ⟨by decide +kernel, rfl⟩
theorem dd_Fabric_places_9 : pj_d cX1_places 9 (.ireturn) 1 10 := ⟨by decide +kernel, rfl⟩
set_option maxHeartbeats 4000000 in
set_option maxRecDepth 100000 in
theorem ct_Fabric_places {l : Launch} {B : pj_B} (hB : B.2.2.2.1 = pj_LC)  {z : pj_S} {r0 : Int32} {z0 : pj_S} (h : Fabric_places z = some (r0, z0)) : pj_Mi l yX1_places cX1_places 1 (some .int) 1 [.ref (B.2.1 8)] B z r0 z0 := by
  refine pj_meti (own := RX1) (by decide +kernel) rfl (Nat.le_of_ble_eq_true rfl) ?_
  intro A K hK C Q H lo ls P hl
  have hl : lv_has ls 1 [(0, .ref (B.2.1 8))] := hl
  unfold Fabric_places at h
  refine pj_aload_n C dd_Fabric_places_0 rfl hl 0 rfl ?_
  refine pj_getI C P 8 (LC8 hB) rfl fl_Fabric_9 dd_Fabric_places_1 ?_
  refine pj_aload_n C dd_Fabric_places_4 rfl hl 0 rfl ?_
  refine pj_getI C P 8 (LC8 hB) rfl fl_Fabric_15 dd_Fabric_places_5 ?_
  refine pj_imul C dd_Fabric_places_8 ?_
  exact pj_iret C Q P h dd_Fabric_places_9
theorem dd_Fabric_canCut_0 : pj_d cX1_canCut 0 (.iload_n 1) 1 1 := ⟨by decide +kernel, rfl⟩
theorem dd_Fabric_canCut_1 : pj_dj cX1_canCut 1 (.ifCond .lt 28) 28 4 29 := ⟨by decide +kernel, rfl, by decide⟩
theorem dd_Fabric_canCut_4 : pj_d cX1_canCut 4 (.iload_n 1) 1 5 := ⟨by decide +kernel, rfl⟩
theorem dd_Fabric_canCut_5 : pj_d cX1_canCut 5 (.aload_n 0) 1 6 := ⟨by decide +kernel, rfl⟩
theorem dd_Fabric_canCut_6 : pj_d cX1_canCut 6 (.invokevirtual 73) 3 9 := ⟨by decide +kernel, rfl⟩
theorem dd_Fabric_canCut_9 : pj_d cX1_canCut 9 (.iconst 1) 1 10 := ⟨by decide +kernel, rfl⟩
theorem dd_Fabric_canCut_10 : pj_d cX1_canCut 10 (.isub) 1 11 := ⟨by decide +kernel, rfl⟩
theorem dd_Fabric_canCut_11 : pj_dj cX1_canCut 11 (.if_icmp .ge 18) 18 14 29 := ⟨by decide +kernel, rfl, by decide⟩
theorem dd_Fabric_canCut_14 : pj_d cX1_canCut 14 (.aload_n 0) 1 15 := ⟨by decide +kernel, rfl⟩
theorem dd_Fabric_canCut_15 : pj_d cX1_canCut 15 (.getfield 45) 3 18 := ⟨by decide +kernel, rfl⟩
theorem dd_Fabric_canCut_18 : pj_d cX1_canCut 18 (.iload_n 1) 1 19 := ⟨by decide +kernel, rfl⟩
theorem dd_Fabric_canCut_19 : pj_d cX1_canCut 19 (.invokestatic 48) 3 22 := ⟨by decide +kernel, rfl⟩
theorem dd_Fabric_canCut_22 : pj_dj cX1_canCut 22 (.ifCond .ne 7) 7 25 29 := ⟨by decide +kernel, rfl, by decide⟩
theorem dd_Fabric_canCut_25 : pj_d cX1_canCut 25 (.iconst 1) 1 26 := ⟨by decide +kernel, rfl⟩
theorem dd_Fabric_canCut_26 : pj_dj cX1_canCut 26 (.goto 4) 4 29 30 := ⟨by decide +kernel, rfl, by decide⟩
theorem dd_Fabric_canCut_29 : pj_d cX1_canCut 29 (.iconst 0) 1 30 := ⟨by decide +kernel, rfl⟩
theorem dd_Fabric_canCut_30 : pj_d cX1_canCut 30 (.ireturn) 1 31 := ⟨by decide +kernel, rfl⟩
set_option maxHeartbeats 4000000 in
set_option maxRecDepth 100000 in
theorem ct_Fabric_canCut {l : Launch} {B : pj_B} (hB : B.2.2.2.1 = pj_LC) {v1 : Int32} {z : pj_S} {r0 : Int32} {z0 : pj_S} (h : Fabric_canCut v1 z = some (r0, z0)) : pj_Mi l yX1_canCut cX1_canCut 2 (some .boolean) 2 [.ref (B.2.1 8), .int v1] B z r0 z0 := by
  refine pj_meti (own := RX1) (by decide +kernel) rfl (Nat.le_of_ble_eq_true rfl) ?_
  intro A K hK C Q H lo ls P hl
  have hl : lv_has ls 2 [(0, .ref (B.2.1 8)), (1, .int v1)] := hl
  unfold Fabric_canCut at h
  refine pj_iload_n C dd_Fabric_canCut_0 rfl hl 1 rfl ?_
  refine pj_if_lt C h dd_Fabric_canCut_1 (fun h => ?_) (fun h => ?_)
  · refine pj_iconst (v := (nI 0)) C dd_Fabric_canCut_29 rfl ?_
    exact pj_zret C Q P h dd_Fabric_canCut_30
  · refine pj_iload_n C dd_Fabric_canCut_4 rfl hl 1 rfl ?_
    refine pj_aload_n C dd_Fabric_canCut_5 rfl hl 0 rfl ?_
    obtain ⟨r3, z2, e1, h⟩ := pj_cE h
    refine pj_cVi (st := [.int v1]) [] C P 8 (LC8 hB) rfl (ct_Fabric_places hB e1) cl_Fabric_73 rfl (by decide) (by decide) hl.1 (Nat.le_of_ble_eq_true rfl) dd_Fabric_canCut_6 (fun H lo P => ?_)
    refine pj_iconst (v := (nI 1)) C dd_Fabric_canCut_9 rfl ?_
    refine pj_isub C dd_Fabric_canCut_10 ?_
    refine pj_ic_ge C h dd_Fabric_canCut_11 (fun h => ?_) (fun h => ?_)
    · refine pj_iconst (v := (nI 0)) C dd_Fabric_canCut_29 rfl ?_
      exact pj_zret C Q P h dd_Fabric_canCut_30
    · refine pj_aload_n C dd_Fabric_canCut_14 rfl hl 0 rfl ?_
      refine pj_getJ C P 8 (LC8 hB) rfl fl_Fabric_45 dd_Fabric_canCut_15 ?_
      refine pj_iload_n C dd_Fabric_canCut_18 rfl hl 1 rfl ?_
      obtain ⟨r6, z5, e4, h⟩ := pj_cE h
      refine pj_cNi (st := []) [.long (z2.2 8 9), .int v1] C P (ct_PJ_bitOf hB e4) cl_Fabric_48 rfl (by decide) (by decide) hl.1 (Nat.le_of_ble_eq_true rfl) dd_Fabric_canCut_19 (fun H lo P => ?_)
      refine pj_if_ne C h dd_Fabric_canCut_22 (fun h => ?_) (fun h => ?_)
      · refine pj_iconst (v := (nI 0)) C dd_Fabric_canCut_29 rfl ?_
        exact pj_zret C Q P h dd_Fabric_canCut_30
      · refine pj_iconst (v := (nI 1)) C dd_Fabric_canCut_25 rfl ?_
        refine pj_goto C dd_Fabric_canCut_26 ?_
        exact pj_zret C Q P h dd_Fabric_canCut_30
theorem dd_PJ_cut_0 : pj_d cX10_cut 0 (.aload_n 0) 1 1 := ⟨by decide +kernel, rfl⟩
theorem dd_PJ_cut_1 : pj_d cX10_cut 1 (.getfield 10) 3 4 := ⟨by decide +kernel, rfl⟩
theorem dd_PJ_cut_4 : pj_d cX10_cut 4 (.getfield 65) 3 7 := ⟨by decide +kernel, rfl⟩
theorem dd_PJ_cut_7 : pj_d cX10_cut 7 (.iload_n 1) 1 8 := ⟨by decide +kernel, rfl⟩
theorem dd_PJ_cut_8 : pj_d cX10_cut 8 (.invokevirtual 89) 3 11 := ⟨by decide +kernel, rfl⟩
theorem dd_PJ_cut_11 : pj_dj cX10_cut 11 (.ifCond .ne 5) 5 14 16 := ⟨by decide +kernel, rfl, by decide⟩
theorem dd_PJ_cut_14 : pj_d cX10_cut 14 (.iconst 0) 1 15 := ⟨by decide +kernel, rfl⟩
theorem dd_PJ_cut_15 : pj_d cX10_cut 15 (.ireturn) 1 16 := ⟨by decide +kernel, rfl⟩
theorem dd_PJ_cut_16 : pj_d cX10_cut 16 (.aload_n 0) 1 17 := ⟨by decide +kernel, rfl⟩
theorem dd_PJ_cut_17 : pj_d cX10_cut 17 (.getfield 22) 3 20 := ⟨by decide +kernel, rfl⟩
theorem dd_PJ_cut_20 : pj_d cX10_cut 20 (.aload_n 0) 1 21 := ⟨by decide +kernel, rfl⟩
theorem dd_PJ_cut_21 : pj_d cX10_cut 21 (.getfield 10) 3 24 := ⟨by decide +kernel, rfl⟩
theorem dd_PJ_cut_24 : pj_d cX10_cut 24 (.invokevirtual 82) 3 27 := ⟨by decide +kernel, rfl⟩
theorem dd_PJ_cut_27 : pj_d cX10_cut 27 (.aload_n 0) 1 28 := ⟨by decide +kernel, rfl⟩
theorem dd_PJ_cut_28 : pj_d cX10_cut 28 (.getfield 10) 3 31 := ⟨by decide +kernel, rfl⟩
theorem dd_PJ_cut_31 : pj_d cX10_cut 31 (.getfield 65) 3 34 := ⟨by decide +kernel, rfl⟩
theorem dd_PJ_cut_34 : pj_d cX10_cut 34 (.dup) 1 35 := ⟨by decide +kernel, rfl⟩
theorem dd_PJ_cut_35 : pj_d cX10_cut 35 (.getfield 92) 3 38 := ⟨by decide +kernel, rfl⟩
theorem dd_PJ_cut_38 : pj_d cX10_cut 38 (.lconst 1) 1 39 := ⟨by decide +kernel, rfl⟩
theorem dd_PJ_cut_39 : pj_d cX10_cut 39 (.iload_n 1) 1 40 := ⟨by decide +kernel, rfl⟩
theorem dd_PJ_cut_40 : pj_d cX10_cut 40 (.lshl) 1 41 := ⟨by decide +kernel, rfl⟩
theorem dd_PJ_cut_41 : pj_d cX10_cut 41 (.lor) 1 42 := ⟨by decide +kernel, rfl⟩
theorem dd_PJ_cut_42 : pj_d cX10_cut 42 (.putfield 92) 3 45 := ⟨by decide +kernel, rfl⟩
theorem dd_PJ_cut_45 : pj_d cX10_cut 45 (.iconst 1) 1 46 := ⟨by decide +kernel, rfl⟩
theorem dd_PJ_cut_46 : pj_d cX10_cut 46 (.ireturn) 1 47 := ⟨by decide +kernel, rfl⟩
set_option maxHeartbeats 4000000 in
set_option maxRecDepth 100000 in
theorem ct_PJ_cut {l : Launch} {B : pj_B} (hB : B.2.2.2.1 = pj_LC) {v1 : Int32} {z : pj_S} {r0 : Int32} {z0 : pj_S} (h : PJ_cut v1 z = some (r0, z0)) : pj_Mi l yX10_cut cX10_cut 2 (some .boolean) 3 [.ref (B.2.1 0), .int v1] B z r0 z0 := by
  refine pj_meti (own := RX10) (by decide +kernel) rfl (Nat.le_of_ble_eq_true rfl) ?_
  intro A K hK C Q H lo ls P hl
  have hl : lv_has ls 2 [(0, .ref (B.2.1 0)), (1, .int v1)] := hl
  unfold PJ_cut at h
  refine pj_aload_n C dd_PJ_cut_0 rfl hl 0 rfl ?_
  refine pj_getR C P 0 (LC0 hB) rfl fl_PJ_10 dd_PJ_cut_1 ?_
  refine pj_getR C P 1 (LC1 hB) rfl fl_PJ_65 dd_PJ_cut_4 ?_
  refine pj_iload_n C dd_PJ_cut_7 rfl hl 1 rfl ?_
  obtain ⟨r3, z2, e1, h⟩ := pj_cE h
  refine pj_cVi (st := []) [.int v1] C P 8 (LC8 hB) rfl (ct_Fabric_canCut hB e1) cl_PJ_89 rfl (by decide) (by decide) hl.1 (Nat.le_of_ble_eq_true rfl) dd_PJ_cut_8 (fun H lo P => ?_)
  refine pj_if_ne C h dd_PJ_cut_11 (fun h => ?_) (fun h => ?_)
  · refine pj_aload_n C dd_PJ_cut_16 rfl hl 0 rfl ?_
    refine pj_getR C P 0 (LC0 hB) rfl fl_PJ_22 dd_PJ_cut_17 ?_
    refine pj_aload_n C dd_PJ_cut_20 rfl hl 0 rfl ?_
    refine pj_getR C P 0 (LC0 hB) rfl fl_PJ_10 dd_PJ_cut_21 ?_
    obtain ⟨r6, z5, e4, h⟩ := pj_cE h
    refine pj_cVv (st := []) [.ref (B.2.1 1)] C P 3 (LC3 hB) rfl (ct_Past_keep hB e4) cl_PJ_82 rfl (by decide) (by decide) hl.1 (Nat.le_of_ble_eq_true rfl) dd_PJ_cut_24 (fun H lo P => ?_)
    refine pj_aload_n C dd_PJ_cut_27 rfl hl 0 rfl ?_
    refine pj_getR C P 0 (LC0 hB) rfl fl_PJ_10 dd_PJ_cut_28 ?_
    refine pj_getR C P 1 (LC1 hB) rfl fl_PJ_65 dd_PJ_cut_31 ?_
    refine pj_dup C dd_PJ_cut_34 rfl ?_
    refine pj_getJ C P 8 (LC8 hB) rfl fl_PJ_92 dd_PJ_cut_35 ?_
    refine pj_lconst (v := (1 : Int64)) C dd_PJ_cut_38 rfl ?_
    refine pj_iload_n C dd_PJ_cut_39 rfl hl 1 rfl ?_
    refine pj_lshl C dd_PJ_cut_40 ?_
    refine pj_lor C dd_PJ_cut_41 ?_
    refine pj_putJ C P 8 (LC8 hB) rfl fl_PJ_92 rfl fy_1_9 h dd_PJ_cut_42 (fun H lo z7 h P => ?_)
    refine pj_iconst (v := (nI 1)) C dd_PJ_cut_45 rfl ?_
    exact pj_zret C Q P h dd_PJ_cut_46
  · refine pj_iconst (v := (nI 0)) C dd_PJ_cut_14 rfl ?_
    exact pj_zret C Q P h dd_PJ_cut_15
theorem dd_Fabric_isEnd_0 : pj_d cX1_isEnd 0 (.iload_n 1) 1 1 := ⟨by decide +kernel, rfl⟩
theorem dd_Fabric_isEnd_1 : pj_dj cX1_isEnd 1 (.ifCond .lt 11) 11 4 12 := ⟨by decide +kernel, rfl, by decide⟩
theorem dd_Fabric_isEnd_4 : pj_d cX1_isEnd 4 (.iload_n 1) 1 5 := ⟨by decide +kernel, rfl⟩
theorem dd_Fabric_isEnd_5 : pj_d cX1_isEnd 5 (.aload_n 0) 1 6 := ⟨by decide +kernel, rfl⟩
theorem dd_Fabric_isEnd_6 : pj_d cX1_isEnd 6 (.invokevirtual 73) 3 9 := ⟨by decide +kernel, rfl⟩
theorem dd_Fabric_isEnd_9 : pj_dj cX1_isEnd 9 (.if_icmp .lt 5) 5 12 14 := ⟨by decide +kernel, rfl, by decide⟩
theorem dd_Fabric_isEnd_12 : pj_d cX1_isEnd 12 (.iconst 0) 1 13 := ⟨by decide +kernel, rfl⟩
theorem dd_Fabric_isEnd_13 : pj_d cX1_isEnd 13 (.ireturn) 1 14 := ⟨by decide +kernel, rfl⟩
theorem dd_Fabric_isEnd_14 : pj_d cX1_isEnd 14 (.iload_n 2) 1 15 := ⟨by decide +kernel, rfl⟩
theorem dd_Fabric_isEnd_15 : pj_d cX1_isEnd 15 (.iconst 1) 1 16 := ⟨by decide +kernel, rfl⟩
theorem dd_Fabric_isEnd_16 : pj_dj cX1_isEnd 16 (.if_icmp .ne 27) 27 19 43 := ⟨by decide +kernel, rfl, by decide⟩
theorem dd_Fabric_isEnd_19 : pj_d cX1_isEnd 19 (.iload_n 1) 1 20 := ⟨by decide +kernel, rfl⟩
theorem dd_Fabric_isEnd_20 : pj_dj cX1_isEnd 20 (.ifCond .eq 17) 17 23 37 := ⟨by decide +kernel, rfl, by decide⟩
theorem dd_Fabric_isEnd_23 : pj_d cX1_isEnd 23 (.aload_n 0) 1 24 := ⟨by decide +kernel, rfl⟩
theorem dd_Fabric_isEnd_24 : pj_d cX1_isEnd 24 (.getfield 45) 3 27 := ⟨by decide +kernel, rfl⟩
theorem dd_Fabric_isEnd_27 : pj_d cX1_isEnd 27 (.iload_n 1) 1 28 := ⟨by decide +kernel, rfl⟩
theorem dd_Fabric_isEnd_28 : pj_d cX1_isEnd 28 (.iconst 1) 1 29 := ⟨by decide +kernel, rfl⟩
theorem dd_Fabric_isEnd_29 : pj_d cX1_isEnd 29 (.isub) 1 30 := ⟨by decide +kernel, rfl⟩
theorem dd_Fabric_isEnd_30 : pj_d cX1_isEnd 30 (.invokestatic 48) 3 33 := ⟨by decide +kernel, rfl⟩
theorem dd_Fabric_isEnd_33 : pj_d cX1_isEnd 33 (.iconst 1) 1 34 := ⟨by decide +kernel, rfl⟩
theorem dd_Fabric_isEnd_34 : pj_dj cX1_isEnd 34 (.if_icmp .ne 7) 7 37 41 := ⟨by decide +kernel, rfl, by decide⟩
theorem dd_Fabric_isEnd_37 : pj_d cX1_isEnd 37 (.iconst 1) 1 38 := ⟨by decide +kernel, rfl⟩
theorem dd_Fabric_isEnd_38 : pj_dj cX1_isEnd 38 (.goto 4) 4 41 42 := ⟨by decide +kernel, rfl, by decide⟩
theorem dd_Fabric_isEnd_41 : pj_d cX1_isEnd 41 (.iconst 0) 1 42 := ⟨by decide +kernel, rfl⟩
theorem dd_Fabric_isEnd_42 : pj_d cX1_isEnd 42 (.ireturn) 1 43 := ⟨by decide +kernel, rfl⟩
theorem dd_Fabric_isEnd_43 : pj_d cX1_isEnd 43 (.iload_n 2) 1 44 := ⟨by decide +kernel, rfl⟩
theorem dd_Fabric_isEnd_44 : pj_dj cX1_isEnd 44 (.ifCond .ne 29) 29 47 73 := ⟨by decide +kernel, rfl, by decide⟩
theorem dd_Fabric_isEnd_47 : pj_d cX1_isEnd 47 (.iload_n 1) 1 48 := ⟨by decide +kernel, rfl⟩
theorem dd_Fabric_isEnd_48 : pj_d cX1_isEnd 48 (.aload_n 0) 1 49 := ⟨by decide +kernel, rfl⟩
theorem dd_Fabric_isEnd_49 : pj_d cX1_isEnd 49 (.invokevirtual 73) 3 52 := ⟨by decide +kernel, rfl⟩
theorem dd_Fabric_isEnd_52 : pj_d cX1_isEnd 52 (.iconst 1) 1 53 := ⟨by decide +kernel, rfl⟩
theorem dd_Fabric_isEnd_53 : pj_d cX1_isEnd 53 (.isub) 1 54 := ⟨by decide +kernel, rfl⟩
theorem dd_Fabric_isEnd_54 : pj_dj cX1_isEnd 54 (.if_icmp .eq 15) 15 57 69 := ⟨by decide +kernel, rfl, by decide⟩
theorem dd_Fabric_isEnd_57 : pj_d cX1_isEnd 57 (.aload_n 0) 1 58 := ⟨by decide +kernel, rfl⟩
theorem dd_Fabric_isEnd_58 : pj_d cX1_isEnd 58 (.getfield 45) 3 61 := ⟨by decide +kernel, rfl⟩
theorem dd_Fabric_isEnd_61 : pj_d cX1_isEnd 61 (.iload_n 1) 1 62 := ⟨by decide +kernel, rfl⟩
theorem dd_Fabric_isEnd_62 : pj_d cX1_isEnd 62 (.invokestatic 48) 3 65 := ⟨by decide +kernel, rfl⟩
theorem dd_Fabric_isEnd_65 : pj_d cX1_isEnd 65 (.iconst 1) 1 66 := ⟨by decide +kernel, rfl⟩
theorem dd_Fabric_isEnd_66 : pj_dj cX1_isEnd 66 (.if_icmp .ne 7) 7 69 73 := ⟨by decide +kernel, rfl, by decide⟩
theorem dd_Fabric_isEnd_69 : pj_d cX1_isEnd 69 (.iconst 1) 1 70 := ⟨by decide +kernel, rfl⟩
theorem dd_Fabric_isEnd_70 : pj_dj cX1_isEnd 70 (.goto 4) 4 73 74 := ⟨by decide +kernel, rfl, by decide⟩
theorem dd_Fabric_isEnd_73 : pj_d cX1_isEnd 73 (.iconst 0) 1 74 := ⟨by decide +kernel, rfl⟩
theorem dd_Fabric_isEnd_74 : pj_d cX1_isEnd 74 (.ireturn) 1 75 := ⟨by decide +kernel, rfl⟩
set_option maxHeartbeats 4000000 in
set_option maxRecDepth 100000 in
theorem bt_Fabric_isEnd_37 {B : pj_B} {A : Nat → Prop} {K : pj_K} {r0 : Int32} {z0 : pj_S} (hB : B.2.2.2.1 = pj_LC) (C : pj_C B A K cX1_isEnd 3 RX1 2) (Q : pj_Qi B A K (some .boolean) r0 z0)   (z : pj_S) (H : Heap) (lo : List Loc) (ls : Array Slot) (h : Fabric_isEnd_37 z = some (r0, z0)) (P : pj_P B A K z H lo) (hl : lv_has ls 3 []) : pj_W K H lo 37 ls [] := by
  unfold Fabric_isEnd_37 at h
  refine pj_iconst (v := (nI 1)) C dd_Fabric_isEnd_37 rfl ?_
  refine pj_goto C dd_Fabric_isEnd_38 ?_
  exact pj_zret C Q P h dd_Fabric_isEnd_42
set_option maxHeartbeats 4000000 in
set_option maxRecDepth 100000 in
theorem bt_Fabric_isEnd_69 {B : pj_B} {A : Nat → Prop} {K : pj_K} {r0 : Int32} {z0 : pj_S} (hB : B.2.2.2.1 = pj_LC) (C : pj_C B A K cX1_isEnd 3 RX1 2) (Q : pj_Qi B A K (some .boolean) r0 z0)   (z : pj_S) (H : Heap) (lo : List Loc) (ls : Array Slot) (h : Fabric_isEnd_69 z = some (r0, z0)) (P : pj_P B A K z H lo) (hl : lv_has ls 3 []) : pj_W K H lo 69 ls [] := by
  unfold Fabric_isEnd_69 at h
  refine pj_iconst (v := (nI 1)) C dd_Fabric_isEnd_69 rfl ?_
  refine pj_goto C dd_Fabric_isEnd_70 ?_
  exact pj_zret C Q P h dd_Fabric_isEnd_74
set_option maxHeartbeats 4000000 in
set_option maxRecDepth 100000 in
theorem ct_Fabric_isEnd {l : Launch} {B : pj_B} (hB : B.2.2.2.1 = pj_LC) {v1 : Int32} {v2 : Int32} {z : pj_S} {r0 : Int32} {z0 : pj_S} (h : Fabric_isEnd v1 v2 z = some (r0, z0)) : pj_Mi l yX1_isEnd cX1_isEnd 3 (some .boolean) 2 [.ref (B.2.1 8), .int v1, .int v2] B z r0 z0 := by
  refine pj_meti (own := RX1) (by decide +kernel) rfl (Nat.le_of_ble_eq_true rfl) ?_
  intro A K hK C Q H lo ls P hl
  have hl : lv_has ls 3 [(0, .ref (B.2.1 8)), (1, .int v1), (2, .int v2)] := hl
  unfold Fabric_isEnd at h
  refine pj_iload_n C dd_Fabric_isEnd_0 rfl hl 1 rfl ?_
  refine pj_if_lt C h dd_Fabric_isEnd_1 (fun h => ?_) (fun h => ?_)
  · refine pj_iconst (v := (nI 0)) C dd_Fabric_isEnd_12 rfl ?_
    exact pj_zret C Q P h dd_Fabric_isEnd_13
  · refine pj_iload_n C dd_Fabric_isEnd_4 rfl hl 1 rfl ?_
    refine pj_aload_n C dd_Fabric_isEnd_5 rfl hl 0 rfl ?_
    obtain ⟨r3, z2, e1, h⟩ := pj_cE h
    refine pj_cVi (st := [.int v1]) [] C P 8 (LC8 hB) rfl (ct_Fabric_places hB e1) cl_Fabric_73 rfl (by decide) (by decide) hl.1 (Nat.le_of_ble_eq_true rfl) dd_Fabric_isEnd_6 (fun H lo P => ?_)
    refine pj_ic_lt C h dd_Fabric_isEnd_9 (fun h => ?_) (fun h => ?_)
    · refine pj_iload_n C dd_Fabric_isEnd_14 rfl hl 2 rfl ?_
      refine pj_iconst (v := (nI 1)) C dd_Fabric_isEnd_15 rfl ?_
      refine pj_ic_ne C h dd_Fabric_isEnd_16 (fun h => ?_) (fun h => ?_)
      · refine pj_iload_n C dd_Fabric_isEnd_43 rfl hl 2 rfl ?_
        refine pj_if_ne C h dd_Fabric_isEnd_44 (fun h => ?_) (fun h => ?_)
        · refine pj_iconst (v := (nI 0)) C dd_Fabric_isEnd_73 rfl ?_
          exact pj_zret C Q P h dd_Fabric_isEnd_74
        · refine pj_iload_n C dd_Fabric_isEnd_47 rfl hl 1 rfl ?_
          refine pj_aload_n C dd_Fabric_isEnd_48 rfl hl 0 rfl ?_
          obtain ⟨r6, z5, e4, h⟩ := pj_cE h
          refine pj_cVi (st := [.int v1]) [] C P 8 (LC8 hB) rfl (ct_Fabric_places hB e4) cl_Fabric_73 rfl (by decide) (by decide) hl.1 (Nat.le_of_ble_eq_true rfl) dd_Fabric_isEnd_49 (fun H lo P => ?_)
          refine pj_iconst (v := (nI 1)) C dd_Fabric_isEnd_52 rfl ?_
          refine pj_isub C dd_Fabric_isEnd_53 ?_
          refine pj_ic_eq C h dd_Fabric_isEnd_54 (fun h => ?_) (fun h => ?_)
          · exact bt_Fabric_isEnd_69 hB C Q _ _ _ _ h P (lv_sub hl [] rfl)
          · refine pj_aload_n C dd_Fabric_isEnd_57 rfl hl 0 rfl ?_
            refine pj_getJ C P 8 (LC8 hB) rfl fl_Fabric_45 dd_Fabric_isEnd_58 ?_
            refine pj_iload_n C dd_Fabric_isEnd_61 rfl hl 1 rfl ?_
            obtain ⟨r9, z8, e7, h⟩ := pj_cE h
            refine pj_cNi (st := []) [.long (z5.2 8 9), .int v1] C P (ct_PJ_bitOf hB e7) cl_Fabric_48 rfl (by decide) (by decide) hl.1 (Nat.le_of_ble_eq_true rfl) dd_Fabric_isEnd_62 (fun H lo P => ?_)
            refine pj_iconst (v := (nI 1)) C dd_Fabric_isEnd_65 rfl ?_
            refine pj_ic_ne C h dd_Fabric_isEnd_66 (fun h => ?_) (fun h => ?_)
            · refine pj_iconst (v := (nI 0)) C dd_Fabric_isEnd_73 rfl ?_
              exact pj_zret C Q P h dd_Fabric_isEnd_74
            · exact bt_Fabric_isEnd_69 hB C Q _ _ _ _ h P (lv_sub hl [] rfl)
      · refine pj_iload_n C dd_Fabric_isEnd_19 rfl hl 1 rfl ?_
        refine pj_if_eq C h dd_Fabric_isEnd_20 (fun h => ?_) (fun h => ?_)
        · exact bt_Fabric_isEnd_37 hB C Q _ _ _ _ h P (lv_sub hl [] rfl)
        · refine pj_aload_n C dd_Fabric_isEnd_23 rfl hl 0 rfl ?_
          refine pj_getJ C P 8 (LC8 hB) rfl fl_Fabric_45 dd_Fabric_isEnd_24 ?_
          refine pj_iload_n C dd_Fabric_isEnd_27 rfl hl 1 rfl ?_
          refine pj_iconst (v := (nI 1)) C dd_Fabric_isEnd_28 rfl ?_
          refine pj_isub C dd_Fabric_isEnd_29 ?_
          obtain ⟨r12, z11, e10, h⟩ := pj_cE h
          refine pj_cNi (st := []) [.long (z2.2 8 9), .int (v1 - (nI 1))] C P (ct_PJ_bitOf hB e10) cl_Fabric_48 rfl (by decide) (by decide) hl.1 (Nat.le_of_ble_eq_true rfl) dd_Fabric_isEnd_30 (fun H lo P => ?_)
          refine pj_iconst (v := (nI 1)) C dd_Fabric_isEnd_33 rfl ?_
          refine pj_ic_ne C h dd_Fabric_isEnd_34 (fun h => ?_) (fun h => ?_)
          · refine pj_iconst (v := (nI 0)) C dd_Fabric_isEnd_41 rfl ?_
            exact pj_zret C Q P h dd_Fabric_isEnd_42
          · exact bt_Fabric_isEnd_37 hB C Q _ _ _ _ h P (lv_sub hl [] rfl)
    · refine pj_iconst (v := (nI 0)) C dd_Fabric_isEnd_12 rfl ?_
      exact pj_zret C Q P h dd_Fabric_isEnd_13
