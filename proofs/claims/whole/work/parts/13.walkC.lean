theorem dd_Law_take_0 : pj_d cX2_take 0 (.aload_n 0) 1 1 := ⟨by decide +kernel, rfl⟩
theorem dd_Law_take_1 : pj_d cX2_take 1 (.iconst 0) 1 2 := ⟨by decide +kernel, rfl⟩
theorem dd_Law_take_2 : pj_d cX2_take 2 (.iload_n 2) 1 3 := ⟨by decide +kernel, rfl⟩
theorem dd_Law_take_3 : pj_d cX2_take 3 (.aload_n 0) 1 4 := ⟨by decide +kernel, rfl⟩
theorem dd_Law_take_4 : pj_d cX2_take 4 (.getfield 9) 3 7 := ⟨by decide +kernel, rfl⟩
theorem dd_Law_take_7 : pj_d cX2_take 7 (.arraylength) 1 8 := ⟨by decide +kernel, rfl⟩
theorem dd_Law_take_8 : pj_d cX2_take 8 (.aload_n 1) 1 9 := ⟨by decide +kernel, rfl⟩
theorem dd_Law_take_9 : pj_d cX2_take 9 (.arraylength) 1 10 := ⟨by decide +kernel, rfl⟩
theorem dd_Law_take_10 : pj_d cX2_take 10 (.invokestatic 25) 3 13 := ⟨by decide +kernel, rfl⟩
theorem dd_Law_take_13 : pj_d cX2_take 13 (.invokestatic 25) 3 16 := ⟨by decide +kernel, rfl⟩
theorem dd_Law_take_16 : pj_d cX2_take 16 (.invokestatic 31) 3 19 := ⟨by decide +kernel, rfl⟩
theorem dd_Law_take_19 : pj_d cX2_take 19 (.putfield 18) 3 22 := ⟨by decide +kernel, rfl⟩
theorem dd_Law_take_22 : pj_d cX2_take 22 (.aload_n 1) 1 23 := ⟨by decide +kernel, rfl⟩
theorem dd_Law_take_23 : pj_d cX2_take 23 (.iconst 0) 1 24 := ⟨by decide +kernel, rfl⟩
theorem dd_Law_take_24 : pj_d cX2_take 24 (.aload_n 0) 1 25 := ⟨by decide +kernel, rfl⟩
theorem dd_Law_take_25 : pj_d cX2_take 25 (.getfield 9) 3 28 := ⟨by decide +kernel, rfl⟩
theorem dd_Law_take_28 : pj_d cX2_take 28 (.iconst 0) 1 29 := ⟨by decide +kernel, rfl⟩
theorem dd_Law_take_29 : pj_d cX2_take 29 (.aload_n 0) 1 30 := ⟨by decide +kernel, rfl⟩
theorem dd_Law_take_30 : pj_d cX2_take 30 (.getfield 18) 3 33 := ⟨by decide +kernel, rfl⟩
theorem dd_Law_take_33 : pj_d cX2_take 33 (.invokestatic 34) 3 36 := ⟨by decide +kernel, rfl⟩
theorem dd_Law_take_36 : pj_d cX2_take 36 (.aload_n 0) 1 37 := ⟨by decide +kernel, rfl⟩
theorem dd_Law_take_37 : pj_d cX2_take 37 (.iload_n 3) 1 38 := ⟨by decide +kernel, rfl⟩
theorem dd_Law_take_38 : pj_d cX2_take 38 (.putfield 22) 3 41 := ⟨by decide +kernel, rfl⟩
theorem dd_Law_take_41 : pj_d cX2_take 41 (.return_) 1 42 := ⟨by decide +kernel, rfl⟩
set_option maxHeartbeats 4000000 in
set_option maxRecDepth 100000 in
theorem ct_Law_take {l : Launch} {B : pj_B} (hB : B.2.2.2.1 = pj_LC) {v2 : Int32} {v3 : Int32} {z : pj_S} {r0 : Unit} {z0 : pj_S} (h : Law_take v2 v3 z = some (r0, z0)) : pj_Mv l yX2_take cX2_take 4 none 1 [.ref (B.2.1 9), .ref (B.2.1 27), .int v2, .int v3] B z r0 z0 := by
  refine pj_metv (own := RX2) (by decide +kernel) rfl (Nat.le_of_ble_eq_true rfl) ?_
  intro A K hK C Q H lo ls P hl
  have hl : lv_has ls 4 [(0, .ref (B.2.1 9)), (1, .ref (B.2.1 27)), (2, .int v2), (3, .int v3)] := hl
  unfold Law_take at h
  refine pj_aload_n C dd_Law_take_0 rfl hl 0 rfl ?_
  refine pj_iconst (v := (nI 0)) C dd_Law_take_1 rfl ?_
  refine pj_iload_n C dd_Law_take_2 rfl hl 2 rfl ?_
  refine pj_aload_n C dd_Law_take_3 rfl hl 0 rfl ?_
  refine pj_getR C P 9 (LC9 hB) rfl fl_Law_9 dd_Law_take_4 ?_
  refine pj_alen (nI 400) C P 29 (LC29 hB) (by decide) (by decide) dd_Law_take_7 ?_
  refine pj_aload_n C dd_Law_take_8 rfl hl 1 rfl ?_
  refine pj_alen (nI 400) C P 27 (LC27 hB) (by decide) (by decide) dd_Law_take_9 ?_
  refine pj_mmin C cl_Law_25 (by decide) hl.1 (Nat.le_of_ble_eq_true rfl) dd_Law_take_10 ?_
  refine pj_mmin C cl_Law_25 (by decide) hl.1 (Nat.le_of_ble_eq_true rfl) dd_Law_take_13 ?_
  refine pj_mmax C cl_Law_31 (by decide) hl.1 (Nat.le_of_ble_eq_true rfl) dd_Law_take_16 ?_
  refine pj_putI C P 9 (LC9 hB) rfl fl_Law_18 rfl fy_2_2 h dd_Law_take_19 (fun H lo z1 h P => ?_)
  refine pj_aload_n C dd_Law_take_22 rfl hl 1 rfl ?_
  refine pj_iconst (v := (nI 0)) C dd_Law_take_23 rfl ?_
  refine pj_aload_n C dd_Law_take_24 rfl hl 0 rfl ?_
  refine pj_getR C P 9 (LC9 hB) rfl fl_Law_9 dd_Law_take_25 ?_
  refine pj_iconst (v := (nI 0)) C dd_Law_take_28 rfl ?_
  refine pj_aload_n C dd_Law_take_29 rfl hl 0 rfl ?_
  refine pj_getI C P 9 (LC9 hB) rfl fl_Law_18 dd_Law_take_30 ?_
  refine pj_copy C P 27 29 (LC27 hB) (LC29 hB) h cl_Law_34 (by decide) hl.1 (Nat.le_of_ble_eq_true rfl) dd_Law_take_33 (fun H lo z2 h P => ?_)
  refine pj_aload_n C dd_Law_take_36 rfl hl 0 rfl ?_
  refine pj_iload_n C dd_Law_take_37 rfl hl 3 rfl ?_
  refine pj_putI C P 9 (LC9 hB) rfl fl_Law_22 rfl fy_2_3 h dd_Law_take_38 (fun H lo z3 h P => ?_)
  exact pj_vret C Q P h dd_Law_take_41
theorem dd_Reader_token_0 : pj_d cX3_token 0 (.aload_n 0) 1 1 := ⟨by decide +kernel, rfl⟩
theorem dd_Reader_token_1 : pj_d cX3_token 1 (.getfield 31) 3 4 := ⟨by decide +kernel, rfl⟩
theorem dd_Reader_token_4 : pj_dj cX3_token 4 (.ifCond .lt 38) 38 7 42 := ⟨by decide +kernel, rfl, by decide⟩
theorem dd_Reader_token_7 : pj_d cX3_token 7 (.aload_n 0) 1 8 := ⟨by decide +kernel, rfl⟩
theorem dd_Reader_token_8 : pj_d cX3_token 8 (.getfield 31) 3 11 := ⟨by decide +kernel, rfl⟩
theorem dd_Reader_token_11 : pj_d cX3_token 11 (.aload_n 0) 1 12 := ⟨by decide +kernel, rfl⟩
theorem dd_Reader_token_12 : pj_d cX3_token 12 (.getfield 58) 3 15 := ⟨by decide +kernel, rfl⟩
theorem dd_Reader_token_15 : pj_dj cX3_token 15 (.if_icmp .ge 27) 27 18 42 := ⟨by decide +kernel, rfl, by decide⟩
theorem dd_Reader_token_18 : pj_d cX3_token 18 (.aload_n 0) 1 19 := ⟨by decide +kernel, rfl⟩
theorem dd_Reader_token_19 : pj_d cX3_token 19 (.getfield 31) 3 22 := ⟨by decide +kernel, rfl⟩
theorem dd_Reader_token_22 : pj_d cX3_token 22 (.aload_n 0) 1 23 := ⟨by decide +kernel, rfl⟩
theorem dd_Reader_token_23 : pj_d cX3_token 23 (.getfield 9) 3 26 := ⟨by decide +kernel, rfl⟩
theorem dd_Reader_token_26 : pj_d cX3_token 26 (.arraylength) 1 27 := ⟨by decide +kernel, rfl⟩
theorem dd_Reader_token_27 : pj_dj cX3_token 27 (.if_icmp .ge 15) 15 30 42 := ⟨by decide +kernel, rfl, by decide⟩
theorem dd_Reader_token_30 : pj_d cX3_token 30 (.aload_n 0) 1 31 := ⟨by decide +kernel, rfl⟩
theorem dd_Reader_token_31 : pj_d cX3_token 31 (.getfield 9) 3 34 := ⟨by decide +kernel, rfl⟩
theorem dd_Reader_token_34 : pj_d cX3_token 34 (.aload_n 0) 1 35 := ⟨by decide +kernel, rfl⟩
theorem dd_Reader_token_35 : pj_d cX3_token 35 (.getfield 31) 3 38 := ⟨by decide +kernel, rfl⟩
theorem dd_Reader_token_38 : pj_d cX3_token 38 (.iaload) 1 39 := ⟨by decide +kernel, rfl⟩
theorem dd_Reader_token_39 : pj_dj cX3_token 39 (.goto 4) 4 42 43 := ⟨by decide +kernel, rfl, by decide⟩
theorem dd_Reader_token_42 : pj_d cX3_token 42 (.iconst 0) 1 43 := ⟨by decide +kernel, rfl⟩
theorem dd_Reader_token_43 : pj_d cX3_token 43 (.ireturn) 1 44 := ⟨by decide +kernel, rfl⟩
set_option maxHeartbeats 4000000 in
set_option maxRecDepth 100000 in
theorem ct_Reader_token {l : Launch} {B : pj_B} (hB : B.2.2.2.1 = pj_LC)  {z : pj_S} {r0 : Int32} {z0 : pj_S} (h : Reader_token z = some (r0, z0)) : pj_Mi l yX3_token cX3_token 1 (some .int) 1 [.ref (B.2.1 5)] B z r0 z0 := by
  refine pj_meti (own := RX3) (by decide +kernel) rfl (Nat.le_of_ble_eq_true rfl) ?_
  intro A K hK C Q H lo ls P hl
  have hl : lv_has ls 1 [(0, .ref (B.2.1 5))] := hl
  unfold Reader_token at h
  refine pj_aload_n C dd_Reader_token_0 rfl hl 0 rfl ?_
  refine pj_getI C P 5 (LC5 hB) rfl fl_Reader_31 dd_Reader_token_1 ?_
  refine pj_if_lt C h dd_Reader_token_4 (fun h => ?_) (fun h => ?_)
  · refine pj_iconst (v := (nI 0)) C dd_Reader_token_42 rfl ?_
    exact pj_iret C Q P h dd_Reader_token_43
  · refine pj_aload_n C dd_Reader_token_7 rfl hl 0 rfl ?_
    refine pj_getI C P 5 (LC5 hB) rfl fl_Reader_31 dd_Reader_token_8 ?_
    refine pj_aload_n C dd_Reader_token_11 rfl hl 0 rfl ?_
    refine pj_getI C P 5 (LC5 hB) rfl fl_Reader_58 dd_Reader_token_12 ?_
    refine pj_ic_ge C h dd_Reader_token_15 (fun h => ?_) (fun h => ?_)
    · refine pj_iconst (v := (nI 0)) C dd_Reader_token_42 rfl ?_
      exact pj_iret C Q P h dd_Reader_token_43
    · refine pj_aload_n C dd_Reader_token_18 rfl hl 0 rfl ?_
      refine pj_getI C P 5 (LC5 hB) rfl fl_Reader_31 dd_Reader_token_19 ?_
      refine pj_aload_n C dd_Reader_token_22 rfl hl 0 rfl ?_
      refine pj_getR C P 5 (LC5 hB) rfl fl_Reader_9 dd_Reader_token_23 ?_
      refine pj_alen (nI 401) C P 24 (LC24 hB) (by decide) (by decide) dd_Reader_token_26 ?_
      refine pj_ic_ge C h dd_Reader_token_27 (fun h => ?_) (fun h => ?_)
      · refine pj_iconst (v := (nI 0)) C dd_Reader_token_42 rfl ?_
        exact pj_iret C Q P h dd_Reader_token_43
      · refine pj_aload_n C dd_Reader_token_30 rfl hl 0 rfl ?_
        refine pj_getR C P 5 (LC5 hB) rfl fl_Reader_9 dd_Reader_token_31 ?_
        refine pj_aload_n C dd_Reader_token_34 rfl hl 0 rfl ?_
        refine pj_getI C P 5 (LC5 hB) rfl fl_Reader_31 dd_Reader_token_35 ?_
        refine pj_iald C P 24 (LC24 hB) h dd_Reader_token_38 (fun h => ?_)
        refine pj_goto C dd_Reader_token_39 ?_
        exact pj_iret C Q P h dd_Reader_token_43
theorem dd_Reader_emit_0 : pj_d cX3_emit 0 (.aload_n 0) 1 1 := ⟨by decide +kernel, rfl⟩
theorem dd_Reader_emit_1 : pj_d cX3_emit 1 (.getfield 34) 3 4 := ⟨by decide +kernel, rfl⟩
theorem dd_Reader_emit_4 : pj_dj cX3_emit 4 (.ifCond .lt 35) 35 7 39 := ⟨by decide +kernel, rfl, by decide⟩
theorem dd_Reader_emit_7 : pj_d cX3_emit 7 (.aload_n 0) 1 8 := ⟨by decide +kernel, rfl⟩
theorem dd_Reader_emit_8 : pj_d cX3_emit 8 (.getfield 34) 3 11 := ⟨by decide +kernel, rfl⟩
theorem dd_Reader_emit_11 : pj_d cX3_emit 11 (.aload_n 0) 1 12 := ⟨by decide +kernel, rfl⟩
theorem dd_Reader_emit_12 : pj_d cX3_emit 12 (.getfield 21) 3 15 := ⟨by decide +kernel, rfl⟩
theorem dd_Reader_emit_15 : pj_d cX3_emit 15 (.arraylength) 1 16 := ⟨by decide +kernel, rfl⟩
theorem dd_Reader_emit_16 : pj_dj cX3_emit 16 (.if_icmp .ge 23) 23 19 39 := ⟨by decide +kernel, rfl, by decide⟩
theorem dd_Reader_emit_19 : pj_d cX3_emit 19 (.aload_n 0) 1 20 := ⟨by decide +kernel, rfl⟩
theorem dd_Reader_emit_20 : pj_d cX3_emit 20 (.getfield 21) 3 23 := ⟨by decide +kernel, rfl⟩
theorem dd_Reader_emit_23 : pj_d cX3_emit 23 (.aload_n 0) 1 24 := ⟨by decide +kernel, rfl⟩
theorem dd_Reader_emit_24 : pj_d cX3_emit 24 (.getfield 34) 3 27 := ⟨by decide +kernel, rfl⟩
theorem dd_Reader_emit_27 : pj_d cX3_emit 27 (.iload_n 1) 1 28 := ⟨by decide +kernel, rfl⟩
theorem dd_Reader_emit_28 : pj_d cX3_emit 28 (.iastore) 1 29 := ⟨by decide +kernel, rfl⟩
theorem dd_Reader_emit_29 : pj_d cX3_emit 29 (.aload_n 0) 1 30 := ⟨by decide +kernel, rfl⟩
theorem dd_Reader_emit_30 : pj_d cX3_emit 30 (.dup) 1 31 := ⟨by decide +kernel, rfl⟩
theorem dd_Reader_emit_31 : pj_d cX3_emit 31 (.getfield 34) 3 34 := ⟨by decide +kernel, rfl⟩
theorem dd_Reader_emit_34 : pj_d cX3_emit 34 (.iconst 1) 1 35 := ⟨by decide +kernel, rfl⟩
theorem dd_Reader_emit_35 : pj_d cX3_emit 35 (.iadd) 1 36 := ⟨by decide +kernel, rfl⟩
theorem dd_Reader_emit_36 : pj_d cX3_emit 36 (.putfield 34) 3 39 := ⟨by decide +kernel, rfl⟩
theorem dd_Reader_emit_39 : pj_d cX3_emit 39 (.return_) 1 40 := ⟨by decide +kernel, rfl⟩
set_option maxHeartbeats 4000000 in
set_option maxRecDepth 100000 in
theorem ct_Reader_emit {l : Launch} {B : pj_B} (hB : B.2.2.2.1 = pj_LC) {v1 : Int32} {z : pj_S} {r0 : Unit} {z0 : pj_S} (h : Reader_emit v1 z = some (r0, z0)) : pj_Mv l yX3_emit cX3_emit 2 none 1 [.ref (B.2.1 5), .int v1] B z r0 z0 := by
  refine pj_metv (own := RX3) (by decide +kernel) rfl (Nat.le_of_ble_eq_true rfl) ?_
  intro A K hK C Q H lo ls P hl
  have hl : lv_has ls 2 [(0, .ref (B.2.1 5)), (1, .int v1)] := hl
  unfold Reader_emit at h
  refine pj_aload_n C dd_Reader_emit_0 rfl hl 0 rfl ?_
  refine pj_getI C P 5 (LC5 hB) rfl fl_Reader_34 dd_Reader_emit_1 ?_
  refine pj_if_lt C h dd_Reader_emit_4 (fun h => ?_) (fun h => ?_)
  · exact pj_vret C Q P h dd_Reader_emit_39
  · refine pj_aload_n C dd_Reader_emit_7 rfl hl 0 rfl ?_
    refine pj_getI C P 5 (LC5 hB) rfl fl_Reader_34 dd_Reader_emit_8 ?_
    refine pj_aload_n C dd_Reader_emit_11 rfl hl 0 rfl ?_
    refine pj_getR C P 5 (LC5 hB) rfl fl_Reader_21 dd_Reader_emit_12 ?_
    refine pj_alen (nI 400) C P 27 (LC27 hB) (by decide) (by decide) dd_Reader_emit_15 ?_
    refine pj_ic_ge C h dd_Reader_emit_16 (fun h => ?_) (fun h => ?_)
    · exact pj_vret C Q P h dd_Reader_emit_39
    · refine pj_aload_n C dd_Reader_emit_19 rfl hl 0 rfl ?_
      refine pj_getR C P 5 (LC5 hB) rfl fl_Reader_21 dd_Reader_emit_20 ?_
      refine pj_aload_n C dd_Reader_emit_23 rfl hl 0 rfl ?_
      refine pj_getI C P 5 (LC5 hB) rfl fl_Reader_34 dd_Reader_emit_24 ?_
      refine pj_iload_n C dd_Reader_emit_27 rfl hl 1 rfl ?_
      refine pj_iast C P 27 (LC27 hB) h dd_Reader_emit_28 (fun H lo z1 h P => ?_)
      refine pj_aload_n C dd_Reader_emit_29 rfl hl 0 rfl ?_
      refine pj_dup C dd_Reader_emit_30 rfl ?_
      refine pj_getI C P 5 (LC5 hB) rfl fl_Reader_34 dd_Reader_emit_31 ?_
      refine pj_iconst (v := (nI 1)) C dd_Reader_emit_34 rfl ?_
      refine pj_iadd C dd_Reader_emit_35 ?_
      refine pj_putI C P 5 (LC5 hB) rfl fl_Reader_34 rfl fy_3_6 h dd_Reader_emit_36 (fun H lo z2 h P => ?_)
      exact pj_vret C Q P h dd_Reader_emit_39
theorem dd_Reader_fails_0 : pj_d cX3_fails 0 (.aload_n 0) 1 1 := ⟨by decide +kernel, rfl⟩
theorem dd_Reader_fails_1 : pj_d cX3_fails 1 (.iload_n 1) 1 2 := ⟨by decide +kernel, rfl⟩
theorem dd_Reader_fails_2 : pj_d cX3_fails 2 (.putfield 28) 3 5 := ⟨by decide +kernel, rfl⟩
theorem dd_Reader_fails_5 : pj_d cX3_fails 5 (.aload_n 0) 1 6 := ⟨by decide +kernel, rfl⟩
theorem dd_Reader_fails_6 : pj_d cX3_fails 6 (.aload_n 0) 1 7 := ⟨by decide +kernel, rfl⟩
theorem dd_Reader_fails_7 : pj_d cX3_fails 7 (.getfield 31) 3 10 := ⟨by decide +kernel, rfl⟩
theorem dd_Reader_fails_10 : pj_dj cX3_fails 10 (.ifCond .lt 27) 27 13 37 := ⟨by decide +kernel, rfl, by decide⟩
theorem dd_Reader_fails_13 : pj_d cX3_fails 13 (.aload_n 0) 1 14 := ⟨by decide +kernel, rfl⟩
theorem dd_Reader_fails_14 : pj_d cX3_fails 14 (.getfield 31) 3 17 := ⟨by decide +kernel, rfl⟩
theorem dd_Reader_fails_17 : pj_d cX3_fails 17 (.aload_n 0) 1 18 := ⟨by decide +kernel, rfl⟩
theorem dd_Reader_fails_18 : pj_d cX3_fails 18 (.getfield 15) 3 21 := ⟨by decide +kernel, rfl⟩
theorem dd_Reader_fails_21 : pj_d cX3_fails 21 (.arraylength) 1 22 := ⟨by decide +kernel, rfl⟩
theorem dd_Reader_fails_22 : pj_dj cX3_fails 22 (.if_icmp .ge 15) 15 25 37 := ⟨by decide +kernel, rfl, by decide⟩
theorem dd_Reader_fails_25 : pj_d cX3_fails 25 (.aload_n 0) 1 26 := ⟨by decide +kernel, rfl⟩
theorem dd_Reader_fails_26 : pj_d cX3_fails 26 (.getfield 15) 3 29 := ⟨by decide +kernel, rfl⟩
theorem dd_Reader_fails_29 : pj_d cX3_fails 29 (.aload_n 0) 1 30 := ⟨by decide +kernel, rfl⟩
theorem dd_Reader_fails_30 : pj_d cX3_fails 30 (.getfield 31) 3 33 := ⟨by decide +kernel, rfl⟩
theorem dd_Reader_fails_33 : pj_d cX3_fails 33 (.iaload) 1 34 := ⟨by decide +kernel, rfl⟩
theorem dd_Reader_fails_34 : pj_dj cX3_fails 34 (.goto 4) 4 37 38 := ⟨by decide +kernel, rfl, by decide⟩
theorem dd_Reader_fails_37 : pj_d cX3_fails 37 (.iconst (-1)) 1 38 := ⟨by decide +kernel, rfl⟩
theorem dd_Reader_fails_38 : pj_d cX3_fails 38 (.putfield 24) 3 41 := ⟨by decide +kernel, rfl⟩
theorem dd_Reader_fails_41 : pj_d cX3_fails 41 (.iconst 0) 1 42 := ⟨by decide +kernel, rfl⟩
theorem dd_Reader_fails_42 : pj_d cX3_fails 42 (.ireturn) 1 43 := ⟨by decide +kernel, rfl⟩
set_option maxHeartbeats 4000000 in
set_option maxRecDepth 100000 in
theorem bt_Reader_fails_38 {B : pj_B} {A : Nat → Prop} {K : pj_K} {r0 : Int32} {z0 : pj_S} (hB : B.2.2.2.1 = pj_LC) (C : pj_C B A K cX3_fails 2 RX3 1) (Q : pj_Qi B A K (some .boolean) r0 z0)  (t0 : Int32) (z : pj_S) (H : Heap) (lo : List Loc) (ls : Array Slot) (h : Reader_fails_38 t0 z = some (r0, z0)) (P : pj_P B A K z H lo) (hl : lv_has ls 2 []) : pj_W K H lo 38 ls [.int t0, .ref (B.2.1 5)] := by
  unfold Reader_fails_38 at h
  refine pj_putI C P 5 (LC5 hB) rfl fl_Reader_24 rfl fy_3_9 h dd_Reader_fails_38 (fun H lo z1 h P => ?_)
  refine pj_iconst (v := (nI 0)) C dd_Reader_fails_41 rfl ?_
  exact pj_zret C Q P h dd_Reader_fails_42
set_option maxHeartbeats 4000000 in
set_option maxRecDepth 100000 in
theorem bt_Reader_fails_37 {B : pj_B} {A : Nat → Prop} {K : pj_K} {r0 : Int32} {z0 : pj_S} (hB : B.2.2.2.1 = pj_LC) (C : pj_C B A K cX3_fails 2 RX3 1) (Q : pj_Qi B A K (some .boolean) r0 z0)   (z : pj_S) (H : Heap) (lo : List Loc) (ls : Array Slot) (h : Reader_fails_37 z = some (r0, z0)) (P : pj_P B A K z H lo) (hl : lv_has ls 2 []) : pj_W K H lo 37 ls [.ref (B.2.1 5)] := by
  unfold Reader_fails_37 at h
  refine pj_iconst (v := (-1 : Int32)) C dd_Reader_fails_37 rfl ?_
  exact bt_Reader_fails_38 hB C Q _ _ _ _ _ h P (lv_sub hl [] rfl)
set_option maxHeartbeats 4000000 in
set_option maxRecDepth 100000 in
theorem ct_Reader_fails {l : Launch} {B : pj_B} (hB : B.2.2.2.1 = pj_LC) {v1 : Int32} {z : pj_S} {r0 : Int32} {z0 : pj_S} (h : Reader_fails v1 z = some (r0, z0)) : pj_Mi l yX3_fails cX3_fails 2 (some .boolean) 1 [.ref (B.2.1 5), .int v1] B z r0 z0 := by
  refine pj_meti (own := RX3) (by decide +kernel) rfl (Nat.le_of_ble_eq_true rfl) ?_
  intro A K hK C Q H lo ls P hl
  have hl : lv_has ls 2 [(0, .ref (B.2.1 5)), (1, .int v1)] := hl
  unfold Reader_fails at h
  refine pj_aload_n C dd_Reader_fails_0 rfl hl 0 rfl ?_
  refine pj_iload_n C dd_Reader_fails_1 rfl hl 1 rfl ?_
  refine pj_putI C P 5 (LC5 hB) rfl fl_Reader_28 rfl fy_3_8 h dd_Reader_fails_2 (fun H lo z1 h P => ?_)
  refine pj_aload_n C dd_Reader_fails_5 rfl hl 0 rfl ?_
  refine pj_aload_n C dd_Reader_fails_6 rfl hl 0 rfl ?_
  refine pj_getI C P 5 (LC5 hB) rfl fl_Reader_31 dd_Reader_fails_7 ?_
  refine pj_if_lt C h dd_Reader_fails_10 (fun h => ?_) (fun h => ?_)
  · exact bt_Reader_fails_37 hB C Q _ _ _ _ h P (lv_sub hl [] rfl)
  · refine pj_aload_n C dd_Reader_fails_13 rfl hl 0 rfl ?_
    refine pj_getI C P 5 (LC5 hB) rfl fl_Reader_31 dd_Reader_fails_14 ?_
    refine pj_aload_n C dd_Reader_fails_17 rfl hl 0 rfl ?_
    refine pj_getR C P 5 (LC5 hB) rfl fl_Reader_15 dd_Reader_fails_18 ?_
    refine pj_alen (nI 401) C P 25 (LC25 hB) (by decide) (by decide) dd_Reader_fails_21 ?_
    refine pj_ic_ge C h dd_Reader_fails_22 (fun h => ?_) (fun h => ?_)
    · exact bt_Reader_fails_37 hB C Q _ _ _ _ h P (lv_sub hl [] rfl)
    · refine pj_aload_n C dd_Reader_fails_25 rfl hl 0 rfl ?_
      refine pj_getR C P 5 (LC5 hB) rfl fl_Reader_15 dd_Reader_fails_26 ?_
      refine pj_aload_n C dd_Reader_fails_29 rfl hl 0 rfl ?_
      refine pj_getI C P 5 (LC5 hB) rfl fl_Reader_31 dd_Reader_fails_30 ?_
      refine pj_iald C P 25 (LC25 hB) h dd_Reader_fails_33 (fun h => ?_)
      refine pj_goto C dd_Reader_fails_34 ?_
      exact bt_Reader_fails_38 hB C Q _ _ _ _ _ h P (lv_sub hl [] rfl)
theorem dd_Reader_readSign_0 : pj_d cX3_readSign 0 (.aload_n 0) 1 1 := ⟨by decide +kernel, rfl⟩
theorem dd_Reader_readSign_1 : pj_d cX3_readSign 1 (.invokevirtual 44) 3 4 := ⟨by decide +kernel, rfl⟩
theorem dd_Reader_readSign_4 : pj_d cX3_readSign 4 (.iload_n 1) 1 5 := ⟨by decide +kernel, rfl⟩
theorem dd_Reader_readSign_5 : pj_dj cX3_readSign 5 (.if_icmp .eq 9) 9 8 14 := ⟨by decide +kernel, rfl, by decide⟩
theorem dd_Reader_readSign_8 : pj_d cX3_readSign 8 (.aload_n 0) 1 9 := ⟨by decide +kernel, rfl⟩
theorem dd_Reader_readSign_9 : pj_d cX3_readSign 9 (.iconst 1) 1 10 := ⟨by decide +kernel, rfl⟩
theorem dd_Reader_readSign_10 : pj_d cX3_readSign 10 (.invokevirtual 122) 3 13 := ⟨by decide +kernel, rfl⟩
theorem dd_Reader_readSign_13 : pj_d cX3_readSign 13 (.ireturn) 1 14 := ⟨by decide +kernel, rfl⟩
theorem dd_Reader_readSign_14 : pj_d cX3_readSign 14 (.aload_n 0) 1 15 := ⟨by decide +kernel, rfl⟩
theorem dd_Reader_readSign_15 : pj_d cX3_readSign 15 (.dup) 1 16 := ⟨by decide +kernel, rfl⟩
theorem dd_Reader_readSign_16 : pj_d cX3_readSign 16 (.getfield 31) 3 19 := ⟨by decide +kernel, rfl⟩
theorem dd_Reader_readSign_19 : pj_d cX3_readSign 19 (.iconst 1) 1 20 := ⟨by decide +kernel, rfl⟩
theorem dd_Reader_readSign_20 : pj_d cX3_readSign 20 (.iadd) 1 21 := ⟨by decide +kernel, rfl⟩
theorem dd_Reader_readSign_21 : pj_d cX3_readSign 21 (.putfield 31) 3 24 := ⟨by decide +kernel, rfl⟩
theorem dd_Reader_readSign_24 : pj_d cX3_readSign 24 (.iconst 1) 1 25 := ⟨by decide +kernel, rfl⟩
theorem dd_Reader_readSign_25 : pj_d cX3_readSign 25 (.ireturn) 1 26 := ⟨by decide +kernel, rfl⟩
set_option maxHeartbeats 4000000 in
set_option maxRecDepth 100000 in
theorem ct_Reader_readSign {l : Launch} {B : pj_B} (hB : B.2.2.2.1 = pj_LC) {v1 : Int32} {z : pj_S} {r0 : Int32} {z0 : pj_S} (h : Reader_readSign v1 z = some (r0, z0)) : pj_Mi l yX3_readSign cX3_readSign 2 (some .boolean) 2 [.ref (B.2.1 5), .int v1] B z r0 z0 := by
  refine pj_meti (own := RX3) (by decide +kernel) rfl (Nat.le_of_ble_eq_true rfl) ?_
  intro A K hK C Q H lo ls P hl
  have hl : lv_has ls 2 [(0, .ref (B.2.1 5)), (1, .int v1)] := hl
  unfold Reader_readSign at h
  refine pj_aload_n C dd_Reader_readSign_0 rfl hl 0 rfl ?_
  obtain ⟨r3, z2, e1, h⟩ := pj_cE h
  refine pj_cVi (st := []) [] C P 5 (LC5 hB) rfl (ct_Reader_token hB e1) cl_Reader_44 rfl (by decide) (by decide) hl.1 (Nat.le_of_ble_eq_true rfl) dd_Reader_readSign_1 (fun H lo P => ?_)
  refine pj_iload_n C dd_Reader_readSign_4 rfl hl 1 rfl ?_
  refine pj_ic_eq C h dd_Reader_readSign_5 (fun h => ?_) (fun h => ?_)
  · refine pj_aload_n C dd_Reader_readSign_14 rfl hl 0 rfl ?_
    refine pj_dup C dd_Reader_readSign_15 rfl ?_
    refine pj_getI C P 5 (LC5 hB) rfl fl_Reader_31 dd_Reader_readSign_16 ?_
    refine pj_iconst (v := (nI 1)) C dd_Reader_readSign_19 rfl ?_
    refine pj_iadd C dd_Reader_readSign_20 ?_
    refine pj_putI C P 5 (LC5 hB) rfl fl_Reader_31 rfl fy_3_5 h dd_Reader_readSign_21 (fun H lo z4 h P => ?_)
    refine pj_iconst (v := (nI 1)) C dd_Reader_readSign_24 rfl ?_
    exact pj_zret C Q P h dd_Reader_readSign_25
  · refine pj_aload_n C dd_Reader_readSign_8 rfl hl 0 rfl ?_
    refine pj_iconst (v := (nI 1)) C dd_Reader_readSign_9 rfl ?_
    obtain ⟨r7, z6, e5, h⟩ := pj_cE h
    refine pj_cVi (st := []) [.int (nI 1)] C P 5 (LC5 hB) rfl (ct_Reader_fails hB e5) cl_Reader_122 rfl (by decide) (by decide) hl.1 (Nat.le_of_ble_eq_true rfl) dd_Reader_readSign_10 (fun H lo P => ?_)
    exact pj_zret C Q P h dd_Reader_readSign_13
theorem dd_Reader_value_0 : pj_d cX3_value 0 (.aload_n 0) 1 1 := ⟨by decide +kernel, rfl⟩
theorem dd_Reader_value_1 : pj_d cX3_value 1 (.getfield 31) 3 4 := ⟨by decide +kernel, rfl⟩
theorem dd_Reader_value_4 : pj_dj cX3_value 4 (.ifCond .lt 38) 38 7 42 := ⟨by decide +kernel, rfl, by decide⟩
theorem dd_Reader_value_7 : pj_d cX3_value 7 (.aload_n 0) 1 8 := ⟨by decide +kernel, rfl⟩
theorem dd_Reader_value_8 : pj_d cX3_value 8 (.getfield 31) 3 11 := ⟨by decide +kernel, rfl⟩
theorem dd_Reader_value_11 : pj_d cX3_value 11 (.aload_n 0) 1 12 := ⟨by decide +kernel, rfl⟩
theorem dd_Reader_value_12 : pj_d cX3_value 12 (.getfield 58) 3 15 := ⟨by decide +kernel, rfl⟩
theorem dd_Reader_value_15 : pj_dj cX3_value 15 (.if_icmp .ge 27) 27 18 42 := ⟨by decide +kernel, rfl, by decide⟩
theorem dd_Reader_value_18 : pj_d cX3_value 18 (.aload_n 0) 1 19 := ⟨by decide +kernel, rfl⟩
theorem dd_Reader_value_19 : pj_d cX3_value 19 (.getfield 31) 3 22 := ⟨by decide +kernel, rfl⟩
theorem dd_Reader_value_22 : pj_d cX3_value 22 (.aload_n 0) 1 23 := ⟨by decide +kernel, rfl⟩
theorem dd_Reader_value_23 : pj_d cX3_value 23 (.getfield 18) 3 26 := ⟨by decide +kernel, rfl⟩
theorem dd_Reader_value_26 : pj_d cX3_value 26 (.arraylength) 1 27 := ⟨by decide +kernel, rfl⟩
theorem dd_Reader_value_27 : pj_dj cX3_value 27 (.if_icmp .ge 15) 15 30 42 := ⟨by decide +kernel, rfl, by decide⟩
theorem dd_Reader_value_30 : pj_d cX3_value 30 (.aload_n 0) 1 31 := ⟨by decide +kernel, rfl⟩
theorem dd_Reader_value_31 : pj_d cX3_value 31 (.getfield 18) 3 34 := ⟨by decide +kernel, rfl⟩
theorem dd_Reader_value_34 : pj_d cX3_value 34 (.aload_n 0) 1 35 := ⟨by decide +kernel, rfl⟩
theorem dd_Reader_value_35 : pj_d cX3_value 35 (.getfield 31) 3 38 := ⟨by decide +kernel, rfl⟩
theorem dd_Reader_value_38 : pj_d cX3_value 38 (.iaload) 1 39 := ⟨by decide +kernel, rfl⟩
theorem dd_Reader_value_39 : pj_dj cX3_value 39 (.goto 4) 4 42 43 := ⟨by decide +kernel, rfl, by decide⟩
theorem dd_Reader_value_42 : pj_d cX3_value 42 (.iconst 0) 1 43 := ⟨by decide +kernel, rfl⟩
theorem dd_Reader_value_43 : pj_d cX3_value 43 (.ireturn) 1 44 := ⟨by decide +kernel, rfl⟩
set_option maxHeartbeats 4000000 in
set_option maxRecDepth 100000 in
theorem ct_Reader_value {l : Launch} {B : pj_B} (hB : B.2.2.2.1 = pj_LC)  {z : pj_S} {r0 : Int32} {z0 : pj_S} (h : Reader_value z = some (r0, z0)) : pj_Mi l yX3_value cX3_value 1 (some .int) 1 [.ref (B.2.1 5)] B z r0 z0 := by
  refine pj_meti (own := RX3) (by decide +kernel) rfl (Nat.le_of_ble_eq_true rfl) ?_
  intro A K hK C Q H lo ls P hl
  have hl : lv_has ls 1 [(0, .ref (B.2.1 5))] := hl
  unfold Reader_value at h
  refine pj_aload_n C dd_Reader_value_0 rfl hl 0 rfl ?_
  refine pj_getI C P 5 (LC5 hB) rfl fl_Reader_31 dd_Reader_value_1 ?_
  refine pj_if_lt C h dd_Reader_value_4 (fun h => ?_) (fun h => ?_)
  · refine pj_iconst (v := (nI 0)) C dd_Reader_value_42 rfl ?_
    exact pj_iret C Q P h dd_Reader_value_43
  · refine pj_aload_n C dd_Reader_value_7 rfl hl 0 rfl ?_
    refine pj_getI C P 5 (LC5 hB) rfl fl_Reader_31 dd_Reader_value_8 ?_
    refine pj_aload_n C dd_Reader_value_11 rfl hl 0 rfl ?_
    refine pj_getI C P 5 (LC5 hB) rfl fl_Reader_58 dd_Reader_value_12 ?_
    refine pj_ic_ge C h dd_Reader_value_15 (fun h => ?_) (fun h => ?_)
    · refine pj_iconst (v := (nI 0)) C dd_Reader_value_42 rfl ?_
      exact pj_iret C Q P h dd_Reader_value_43
    · refine pj_aload_n C dd_Reader_value_18 rfl hl 0 rfl ?_
      refine pj_getI C P 5 (LC5 hB) rfl fl_Reader_31 dd_Reader_value_19 ?_
      refine pj_aload_n C dd_Reader_value_22 rfl hl 0 rfl ?_
      refine pj_getR C P 5 (LC5 hB) rfl fl_Reader_18 dd_Reader_value_23 ?_
      refine pj_alen (nI 401) C P 26 (LC26 hB) (by decide) (by decide) dd_Reader_value_26 ?_
      refine pj_ic_ge C h dd_Reader_value_27 (fun h => ?_) (fun h => ?_)
      · refine pj_iconst (v := (nI 0)) C dd_Reader_value_42 rfl ?_
        exact pj_iret C Q P h dd_Reader_value_43
      · refine pj_aload_n C dd_Reader_value_30 rfl hl 0 rfl ?_
        refine pj_getR C P 5 (LC5 hB) rfl fl_Reader_18 dd_Reader_value_31 ?_
        refine pj_aload_n C dd_Reader_value_34 rfl hl 0 rfl ?_
        refine pj_getI C P 5 (LC5 hB) rfl fl_Reader_31 dd_Reader_value_35 ?_
        refine pj_iald C P 26 (LC26 hB) h dd_Reader_value_38 (fun h => ?_)
        refine pj_goto C dd_Reader_value_39 ?_
        exact pj_iret C Q P h dd_Reader_value_43
theorem dd_Reader_readUnit_0 : pj_d cX3_readUnit 0 (.aload_n 0) 1 1 := ⟨by decide +kernel, rfl⟩
theorem dd_Reader_readUnit_1 : pj_d cX3_readUnit 1 (.invokevirtual 44) 3 4 := ⟨by decide +kernel, rfl⟩
theorem dd_Reader_readUnit_4 : pj_d cX3_readUnit 4 (.istore_n 1) 1 5 := ⟨by decide +kernel, rfl⟩
theorem dd_Reader_readUnit_5 : pj_d cX3_readUnit 5 (.iload_n 1) 1 6 := ⟨by decide +kernel, rfl⟩
theorem dd_Reader_readUnit_6 : pj_d cX3_readUnit 6 (.iconst 1) 1 7 := ⟨by decide +kernel, rfl⟩
theorem dd_Reader_readUnit_7 : pj_dj cX3_readUnit 7 (.if_icmp .ne 14) 14 10 21 := ⟨by decide +kernel, rfl, by decide⟩
theorem dd_Reader_readUnit_10 : pj_d cX3_readUnit 10 (.aload_n 0) 1 11 := ⟨by decide +kernel, rfl⟩
theorem dd_Reader_readUnit_11 : pj_d cX3_readUnit 11 (.aload_n 0) 1 12 := ⟨by decide +kernel, rfl⟩
theorem dd_Reader_readUnit_12 : pj_d cX3_readUnit 12 (.invokevirtual 147) 3 15 := ⟨by decide +kernel, rfl⟩
theorem dd_Reader_readUnit_15 : pj_d cX3_readUnit 15 (.invokevirtual 131) 3 18 := ⟨by decide +kernel, rfl⟩
theorem dd_Reader_readUnit_18 : pj_dj cX3_readUnit 18 (.goto 29) 29 21 47 := ⟨by decide +kernel, rfl, by decide⟩
theorem dd_Reader_readUnit_21 : pj_d cX3_readUnit 21 (.iload_n 1) 1 22 := ⟨by decide +kernel, rfl⟩
theorem dd_Reader_readUnit_22 : pj_d cX3_readUnit 22 (.bipush (-11)) 2 24 := ⟨by decide +kernel, rfl⟩
theorem dd_Reader_readUnit_24 : pj_dj cX3_readUnit 24 (.if_icmp .gt 17) 17 27 41 := ⟨by decide +kernel, rfl, by decide⟩
theorem dd_Reader_readUnit_27 : pj_d cX3_readUnit 27 (.iload_n 1) 1 28 := ⟨by decide +kernel, rfl⟩
theorem dd_Reader_readUnit_28 : pj_d cX3_readUnit 28 (.bipush (-17)) 2 30 := ⟨by decide +kernel, rfl⟩
theorem dd_Reader_readUnit_30 : pj_dj cX3_readUnit 30 (.if_icmp .lt 11) 11 33 41 := ⟨by decide +kernel, rfl, by decide⟩
theorem dd_Reader_readUnit_33 : pj_d cX3_readUnit 33 (.aload_n 0) 1 34 := ⟨by decide +kernel, rfl⟩
theorem dd_Reader_readUnit_34 : pj_d cX3_readUnit 34 (.iload_n 1) 1 35 := ⟨by decide +kernel, rfl⟩
theorem dd_Reader_readUnit_35 : pj_d cX3_readUnit 35 (.invokevirtual 131) 3 38 := ⟨by decide +kernel, rfl⟩
theorem dd_Reader_readUnit_38 : pj_dj cX3_readUnit 38 (.goto 9) 9 41 47 := ⟨by decide +kernel, rfl, by decide⟩
theorem dd_Reader_readUnit_41 : pj_d cX3_readUnit 41 (.aload_n 0) 1 42 := ⟨by decide +kernel, rfl⟩
theorem dd_Reader_readUnit_42 : pj_d cX3_readUnit 42 (.iconst 1) 1 43 := ⟨by decide +kernel, rfl⟩
theorem dd_Reader_readUnit_43 : pj_d cX3_readUnit 43 (.invokevirtual 122) 3 46 := ⟨by decide +kernel, rfl⟩
theorem dd_Reader_readUnit_46 : pj_d cX3_readUnit 46 (.ireturn) 1 47 := ⟨by decide +kernel, rfl⟩
theorem dd_Reader_readUnit_47 : pj_d cX3_readUnit 47 (.aload_n 0) 1 48 := ⟨by decide +kernel, rfl⟩
theorem dd_Reader_readUnit_48 : pj_d cX3_readUnit 48 (.dup) 1 49 := ⟨by decide +kernel, rfl⟩
theorem dd_Reader_readUnit_49 : pj_d cX3_readUnit 49 (.getfield 31) 3 52 := ⟨by decide +kernel, rfl⟩
theorem dd_Reader_readUnit_52 : pj_d cX3_readUnit 52 (.iconst 1) 1 53 := ⟨by decide +kernel, rfl⟩
theorem dd_Reader_readUnit_53 : pj_d cX3_readUnit 53 (.iadd) 1 54 := ⟨by decide +kernel, rfl⟩
theorem dd_Reader_readUnit_54 : pj_d cX3_readUnit 54 (.putfield 31) 3 57 := ⟨by decide +kernel, rfl⟩
theorem dd_Reader_readUnit_57 : pj_d cX3_readUnit 57 (.iconst 1) 1 58 := ⟨by decide +kernel, rfl⟩
theorem dd_Reader_readUnit_58 : pj_d cX3_readUnit 58 (.ireturn) 1 59 := ⟨by decide +kernel, rfl⟩
set_option maxHeartbeats 4000000 in
set_option maxRecDepth 100000 in
theorem bt_Reader_readUnit_41 {B : pj_B} {A : Nat → Prop} {K : pj_K} {r0 : Int32} {z0 : pj_S} (hB : B.2.2.2.1 = pj_LC) (C : pj_C B A K cX3_readUnit 2 RX3 2) (Q : pj_Qi B A K (some .boolean) r0 z0)   (z : pj_S) (H : Heap) (lo : List Loc) (ls : Array Slot) (h : Reader_readUnit_41 z = some (r0, z0)) (P : pj_P B A K z H lo) (hl : lv_has ls 2 [(0, .ref (B.2.1 5))]) : pj_W K H lo 41 ls [] := by
  unfold Reader_readUnit_41 at h
  refine pj_aload_n C dd_Reader_readUnit_41 rfl hl 0 rfl ?_
  refine pj_iconst (v := (nI 1)) C dd_Reader_readUnit_42 rfl ?_
  obtain ⟨r3, z2, e1, h⟩ := pj_cE h
  refine pj_cVi (st := []) [.int (nI 1)] C P 5 (LC5 hB) rfl (ct_Reader_fails hB e1) cl_Reader_122 rfl (by decide) (by decide) hl.1 (Nat.le_of_ble_eq_true rfl) dd_Reader_readUnit_43 (fun H lo P => ?_)
  exact pj_zret C Q P h dd_Reader_readUnit_46
set_option maxHeartbeats 4000000 in
set_option maxRecDepth 100000 in
theorem bt_Reader_readUnit_47 {B : pj_B} {A : Nat → Prop} {K : pj_K} {r0 : Int32} {z0 : pj_S} (hB : B.2.2.2.1 = pj_LC) (C : pj_C B A K cX3_readUnit 2 RX3 2) (Q : pj_Qi B A K (some .boolean) r0 z0)   (z : pj_S) (H : Heap) (lo : List Loc) (ls : Array Slot) (h : Reader_readUnit_47 z = some (r0, z0)) (P : pj_P B A K z H lo) (hl : lv_has ls 2 [(0, .ref (B.2.1 5))]) : pj_W K H lo 47 ls [] := by
  unfold Reader_readUnit_47 at h
  refine pj_aload_n C dd_Reader_readUnit_47 rfl hl 0 rfl ?_
  refine pj_dup C dd_Reader_readUnit_48 rfl ?_
  refine pj_getI C P 5 (LC5 hB) rfl fl_Reader_31 dd_Reader_readUnit_49 ?_
  refine pj_iconst (v := (nI 1)) C dd_Reader_readUnit_52 rfl ?_
  refine pj_iadd C dd_Reader_readUnit_53 ?_
  refine pj_putI C P 5 (LC5 hB) rfl fl_Reader_31 rfl fy_3_5 h dd_Reader_readUnit_54 (fun H lo z1 h P => ?_)
  refine pj_iconst (v := (nI 1)) C dd_Reader_readUnit_57 rfl ?_
  exact pj_zret C Q P h dd_Reader_readUnit_58
set_option maxHeartbeats 4000000 in
set_option maxRecDepth 100000 in
theorem ct_Reader_readUnit {l : Launch} {B : pj_B} (hB : B.2.2.2.1 = pj_LC)  {z : pj_S} {r0 : Int32} {z0 : pj_S} (h : Reader_readUnit z = some (r0, z0)) : pj_Mi l yX3_readUnit cX3_readUnit 2 (some .boolean) 2 [.ref (B.2.1 5)] B z r0 z0 := by
  refine pj_meti (own := RX3) (by decide +kernel) rfl (Nat.le_of_ble_eq_true rfl) ?_
  intro A K hK C Q H lo ls P hl
  have hl : lv_has ls 2 [(0, .ref (B.2.1 5))] := hl
  unfold Reader_readUnit at h
  refine pj_aload_n C dd_Reader_readUnit_0 rfl hl 0 rfl ?_
  obtain ⟨r3, z2, e1, h⟩ := pj_cE h
  refine pj_cVi (st := []) [] C P 5 (LC5 hB) rfl (ct_Reader_token hB e1) cl_Reader_44 rfl (by decide) (by decide) hl.1 (Nat.le_of_ble_eq_true rfl) dd_Reader_readUnit_1 (fun H lo P => ?_)
  refine pj_istore_n [(1, .int r3), (0, .ref (B.2.1 5))] C dd_Reader_readUnit_4 rfl hl (by decide) rfl (fun ls hl => ?_)
  refine pj_iload_n C dd_Reader_readUnit_5 rfl hl 0 rfl ?_
  refine pj_iconst (v := (nI 1)) C dd_Reader_readUnit_6 rfl ?_
  refine pj_ic_ne C h dd_Reader_readUnit_7 (fun h => ?_) (fun h => ?_)
  · refine pj_iload_n C dd_Reader_readUnit_21 rfl hl 0 rfl ?_
    refine pj_bipush (v := (-11 : Int32)) C dd_Reader_readUnit_22 rfl ?_
    refine pj_ic_gt C h dd_Reader_readUnit_24 (fun h => ?_) (fun h => ?_)
    · exact bt_Reader_readUnit_41 hB C Q _ _ _ _ h P (lv_sub hl [1] rfl)
    · refine pj_iload_n C dd_Reader_readUnit_27 rfl hl 0 rfl ?_
      refine pj_bipush (v := (-17 : Int32)) C dd_Reader_readUnit_28 rfl ?_
      refine pj_ic_lt C h dd_Reader_readUnit_30 (fun h => ?_) (fun h => ?_)
      · exact bt_Reader_readUnit_41 hB C Q _ _ _ _ h P (lv_sub hl [1] rfl)
      · refine pj_aload_n C dd_Reader_readUnit_33 rfl hl 1 rfl ?_
        refine pj_iload_n C dd_Reader_readUnit_34 rfl hl 0 rfl ?_
        obtain ⟨r6, z5, e4, h⟩ := pj_cE h
        refine pj_cVv (st := []) [.int r3] C P 5 (LC5 hB) rfl (ct_Reader_emit hB e4) cl_Reader_131 rfl (by decide) (by decide) hl.1 (Nat.le_of_ble_eq_true rfl) dd_Reader_readUnit_35 (fun H lo P => ?_)
        refine pj_goto C dd_Reader_readUnit_38 ?_
        exact bt_Reader_readUnit_47 hB C Q _ _ _ _ h P (lv_sub hl [1] rfl)
  · refine pj_aload_n C dd_Reader_readUnit_10 rfl hl 1 rfl ?_
    refine pj_aload_n C dd_Reader_readUnit_11 rfl hl 1 rfl ?_
    obtain ⟨r9, z8, e7, h⟩ := pj_cE h
    refine pj_cVi (st := [.ref (B.2.1 5)]) [] C P 5 (LC5 hB) rfl (ct_Reader_value hB e7) cl_Reader_147 rfl (by decide) (by decide) hl.1 (Nat.le_of_ble_eq_true rfl) dd_Reader_readUnit_12 (fun H lo P => ?_)
    obtain ⟨r12, z11, e10, h⟩ := pj_cE h
    refine pj_cVv (st := []) [.int r9] C P 5 (LC5 hB) rfl (ct_Reader_emit hB e10) cl_Reader_131 rfl (by decide) (by decide) hl.1 (Nat.le_of_ble_eq_true rfl) dd_Reader_readUnit_15 (fun H lo P => ?_)
    refine pj_goto C dd_Reader_readUnit_18 ?_
    exact bt_Reader_readUnit_47 hB C Q _ _ _ _ h P (lv_sub hl [1] rfl)
theorem dd_Reader_readDivisor_0 : pj_d cX3_readDivisor 0 (.aload_n 0) 1 1 := ⟨by decide +kernel, rfl⟩
theorem dd_Reader_readDivisor_1 : pj_d cX3_readDivisor 1 (.invokevirtual 44) 3 4 := ⟨by decide +kernel, rfl⟩
theorem dd_Reader_readDivisor_4 : pj_d cX3_readDivisor 4 (.iconst 1) 1 5 := ⟨by decide +kernel, rfl⟩
theorem dd_Reader_readDivisor_5 : pj_dj cX3_readDivisor 5 (.if_icmp .eq 9) 9 8 14 := ⟨by decide +kernel, rfl, by decide⟩
theorem dd_Reader_readDivisor_8 : pj_d cX3_readDivisor 8 (.aload_n 0) 1 9 := ⟨by decide +kernel, rfl⟩
theorem dd_Reader_readDivisor_9 : pj_d cX3_readDivisor 9 (.iconst 1) 1 10 := ⟨by decide +kernel, rfl⟩
theorem dd_Reader_readDivisor_10 : pj_d cX3_readDivisor 10 (.invokevirtual 122) 3 13 := ⟨by decide +kernel, rfl⟩
theorem dd_Reader_readDivisor_13 : pj_d cX3_readDivisor 13 (.ireturn) 1 14 := ⟨by decide +kernel, rfl⟩
theorem dd_Reader_readDivisor_14 : pj_d cX3_readDivisor 14 (.aload_n 0) 1 15 := ⟨by decide +kernel, rfl⟩
theorem dd_Reader_readDivisor_15 : pj_d cX3_readDivisor 15 (.invokevirtual 147) 3 18 := ⟨by decide +kernel, rfl⟩
theorem dd_Reader_readDivisor_18 : pj_dj cX3_readDivisor 18 (.ifCond .ne 9) 9 21 27 := ⟨by decide +kernel, rfl, by decide⟩
theorem dd_Reader_readDivisor_21 : pj_d cX3_readDivisor 21 (.aload_n 0) 1 22 := ⟨by decide +kernel, rfl⟩
theorem dd_Reader_readDivisor_22 : pj_d cX3_readDivisor 22 (.iconst 2) 1 23 := ⟨by decide +kernel, rfl⟩
theorem dd_Reader_readDivisor_23 : pj_d cX3_readDivisor 23 (.invokevirtual 122) 3 26 := ⟨by decide +kernel, rfl⟩
theorem dd_Reader_readDivisor_26 : pj_d cX3_readDivisor 26 (.ireturn) 1 27 := ⟨by decide +kernel, rfl⟩
theorem dd_Reader_readDivisor_27 : pj_d cX3_readDivisor 27 (.aload_n 0) 1 28 := ⟨by decide +kernel, rfl⟩
theorem dd_Reader_readDivisor_28 : pj_d cX3_readDivisor 28 (.aload_n 0) 1 29 := ⟨by decide +kernel, rfl⟩
theorem dd_Reader_readDivisor_29 : pj_d cX3_readDivisor 29 (.invokevirtual 147) 3 32 := ⟨by decide +kernel, rfl⟩
theorem dd_Reader_readDivisor_32 : pj_d cX3_readDivisor 32 (.invokevirtual 131) 3 35 := ⟨by decide +kernel, rfl⟩
theorem dd_Reader_readDivisor_35 : pj_d cX3_readDivisor 35 (.aload_n 0) 1 36 := ⟨by decide +kernel, rfl⟩
theorem dd_Reader_readDivisor_36 : pj_d cX3_readDivisor 36 (.dup) 1 37 := ⟨by decide +kernel, rfl⟩
theorem dd_Reader_readDivisor_37 : pj_d cX3_readDivisor 37 (.getfield 31) 3 40 := ⟨by decide +kernel, rfl⟩
theorem dd_Reader_readDivisor_40 : pj_d cX3_readDivisor 40 (.iconst 1) 1 41 := ⟨by decide +kernel, rfl⟩
theorem dd_Reader_readDivisor_41 : pj_d cX3_readDivisor 41 (.iadd) 1 42 := ⟨by decide +kernel, rfl⟩
theorem dd_Reader_readDivisor_42 : pj_d cX3_readDivisor 42 (.putfield 31) 3 45 := ⟨by decide +kernel, rfl⟩
theorem dd_Reader_readDivisor_45 : pj_d cX3_readDivisor 45 (.iconst 1) 1 46 := ⟨by decide +kernel, rfl⟩
theorem dd_Reader_readDivisor_46 : pj_d cX3_readDivisor 46 (.ireturn) 1 47 := ⟨by decide +kernel, rfl⟩
set_option maxHeartbeats 4000000 in
set_option maxRecDepth 100000 in
theorem ct_Reader_readDivisor {l : Launch} {B : pj_B} (hB : B.2.2.2.1 = pj_LC)  {z : pj_S} {r0 : Int32} {z0 : pj_S} (h : Reader_readDivisor z = some (r0, z0)) : pj_Mi l yX3_readDivisor cX3_readDivisor 1 (some .boolean) 2 [.ref (B.2.1 5)] B z r0 z0 := by
  refine pj_meti (own := RX3) (by decide +kernel) rfl (Nat.le_of_ble_eq_true rfl) ?_
  intro A K hK C Q H lo ls P hl
  have hl : lv_has ls 1 [(0, .ref (B.2.1 5))] := hl
  unfold Reader_readDivisor at h
  refine pj_aload_n C dd_Reader_readDivisor_0 rfl hl 0 rfl ?_
  obtain ⟨r3, z2, e1, h⟩ := pj_cE h
  refine pj_cVi (st := []) [] C P 5 (LC5 hB) rfl (ct_Reader_token hB e1) cl_Reader_44 rfl (by decide) (by decide) hl.1 (Nat.le_of_ble_eq_true rfl) dd_Reader_readDivisor_1 (fun H lo P => ?_)
  refine pj_iconst (v := (nI 1)) C dd_Reader_readDivisor_4 rfl ?_
  refine pj_ic_eq C h dd_Reader_readDivisor_5 (fun h => ?_) (fun h => ?_)
  · refine pj_aload_n C dd_Reader_readDivisor_14 rfl hl 0 rfl ?_
    obtain ⟨r6, z5, e4, h⟩ := pj_cE h
    refine pj_cVi (st := []) [] C P 5 (LC5 hB) rfl (ct_Reader_value hB e4) cl_Reader_147 rfl (by decide) (by decide) hl.1 (Nat.le_of_ble_eq_true rfl) dd_Reader_readDivisor_15 (fun H lo P => ?_)
    refine pj_if_ne C h dd_Reader_readDivisor_18 (fun h => ?_) (fun h => ?_)
    · refine pj_aload_n C dd_Reader_readDivisor_27 rfl hl 0 rfl ?_
      refine pj_aload_n C dd_Reader_readDivisor_28 rfl hl 0 rfl ?_
      obtain ⟨r9, z8, e7, h⟩ := pj_cE h
      refine pj_cVi (st := [.ref (B.2.1 5)]) [] C P 5 (LC5 hB) rfl (ct_Reader_value hB e7) cl_Reader_147 rfl (by decide) (by decide) hl.1 (Nat.le_of_ble_eq_true rfl) dd_Reader_readDivisor_29 (fun H lo P => ?_)
      obtain ⟨r12, z11, e10, h⟩ := pj_cE h
      refine pj_cVv (st := []) [.int r9] C P 5 (LC5 hB) rfl (ct_Reader_emit hB e10) cl_Reader_131 rfl (by decide) (by decide) hl.1 (Nat.le_of_ble_eq_true rfl) dd_Reader_readDivisor_32 (fun H lo P => ?_)
      refine pj_aload_n C dd_Reader_readDivisor_35 rfl hl 0 rfl ?_
      refine pj_dup C dd_Reader_readDivisor_36 rfl ?_
      refine pj_getI C P 5 (LC5 hB) rfl fl_Reader_31 dd_Reader_readDivisor_37 ?_
      refine pj_iconst (v := (nI 1)) C dd_Reader_readDivisor_40 rfl ?_
      refine pj_iadd C dd_Reader_readDivisor_41 ?_
      refine pj_putI C P 5 (LC5 hB) rfl fl_Reader_31 rfl fy_3_5 h dd_Reader_readDivisor_42 (fun H lo z13 h P => ?_)
      refine pj_iconst (v := (nI 1)) C dd_Reader_readDivisor_45 rfl ?_
      exact pj_zret C Q P h dd_Reader_readDivisor_46
    · refine pj_aload_n C dd_Reader_readDivisor_21 rfl hl 0 rfl ?_
      refine pj_iconst (v := (nI 2)) C dd_Reader_readDivisor_22 rfl ?_
      obtain ⟨r16, z15, e14, h⟩ := pj_cE h
      refine pj_cVi (st := []) [.int (nI 2)] C P 5 (LC5 hB) rfl (ct_Reader_fails hB e14) cl_Reader_122 rfl (by decide) (by decide) hl.1 (Nat.le_of_ble_eq_true rfl) dd_Reader_readDivisor_23 (fun H lo P => ?_)
      exact pj_zret C Q P h dd_Reader_readDivisor_26
  · refine pj_aload_n C dd_Reader_readDivisor_8 rfl hl 0 rfl ?_
    refine pj_iconst (v := (nI 1)) C dd_Reader_readDivisor_9 rfl ?_
    obtain ⟨r19, z18, e17, h⟩ := pj_cE h
    refine pj_cVi (st := []) [.int (nI 1)] C P 5 (LC5 hB) rfl (ct_Reader_fails hB e17) cl_Reader_122 rfl (by decide) (by decide) hl.1 (Nat.le_of_ble_eq_true rfl) dd_Reader_readDivisor_10 (fun H lo P => ?_)
    exact pj_zret C Q P h dd_Reader_readDivisor_13
theorem dd_Reader_readSum_0 : pj_d cX3_readSum 0 (.aload_n 0) 1 1 := ⟨by decide +kernel, rfl⟩
theorem dd_Reader_readSum_1 : pj_d cX3_readSum 1 (.invokevirtual 141) 3 4 := ⟨by decide +kernel, rfl⟩
theorem dd_Reader_readSum_4 : pj_dj cX3_readSum 4 (.ifCond .ne 5) 5 7 9 := ⟨by decide +kernel, rfl, by decide⟩
theorem dd_Reader_readSum_7 : pj_d cX3_readSum 7 (.iconst 0) 1 8 := ⟨by decide +kernel, rfl⟩
theorem dd_Reader_readSum_8 : pj_d cX3_readSum 8 (.ireturn) 1 9 := ⟨by decide +kernel, rfl⟩
theorem dd_Reader_readSum_9 : pj_d cX3_readSum 9 (.iconst 0) 1 10 := ⟨by decide +kernel, rfl⟩
theorem dd_Reader_readSum_10 : pj_d cX3_readSum 10 (.istore_n 1) 1 11 := ⟨by decide +kernel, rfl⟩
theorem dd_Reader_readSum_11 : pj_d cX3_readSum 11 (.iconst 0) 1 12 := ⟨by decide +kernel, rfl⟩
theorem dd_Reader_readSum_12 : pj_d cX3_readSum 12 (.istore_n 2) 1 13 := ⟨by decide +kernel, rfl⟩
theorem dd_Reader_readSum_13 : pj_d cX3_readSum 13 (.iload_n 2) 1 14 := ⟨by decide +kernel, rfl⟩
theorem dd_Reader_readSum_14 : pj_d cX3_readSum 14 (.sipush 400) 3 17 := ⟨by decide +kernel, rfl⟩
theorem dd_Reader_readSum_17 : pj_dj cX3_readSum 17 (.if_icmp .gt 142) 142 20 159 := ⟨by decide +kernel, rfl, by decide⟩
theorem dd_Reader_readSum_20 : pj_d cX3_readSum 20 (.aload_n 0) 1 21 := ⟨by decide +kernel, rfl⟩
theorem dd_Reader_readSum_21 : pj_d cX3_readSum 21 (.invokevirtual 44) 3 24 := ⟨by decide +kernel, rfl⟩
theorem dd_Reader_readSum_24 : pj_d cX3_readSum 24 (.istore_n 3) 1 25 := ⟨by decide +kernel, rfl⟩
theorem dd_Reader_readSum_25 : pj_d cX3_readSum 25 (.iload_n 3) 1 26 := ⟨by decide +kernel, rfl⟩
theorem dd_Reader_readSum_26 : pj_d cX3_readSum 26 (.bipush 43) 2 28 := ⟨by decide +kernel, rfl⟩
theorem dd_Reader_readSum_28 : pj_dj cX3_readSum 28 (.if_icmp .eq 24) 24 31 52 := ⟨by decide +kernel, rfl, by decide⟩
theorem dd_Reader_readSum_31 : pj_d cX3_readSum 31 (.iload_n 3) 1 32 := ⟨by decide +kernel, rfl⟩
theorem dd_Reader_readSum_32 : pj_d cX3_readSum 32 (.bipush 45) 2 34 := ⟨by decide +kernel, rfl⟩
theorem dd_Reader_readSum_34 : pj_dj cX3_readSum 34 (.if_icmp .eq 18) 18 37 52 := ⟨by decide +kernel, rfl, by decide⟩
theorem dd_Reader_readSum_37 : pj_d cX3_readSum 37 (.iload_n 3) 1 38 := ⟨by decide +kernel, rfl⟩
theorem dd_Reader_readSum_38 : pj_d cX3_readSum 38 (.bipush 42) 2 40 := ⟨by decide +kernel, rfl⟩
theorem dd_Reader_readSum_40 : pj_dj cX3_readSum 40 (.if_icmp .eq 12) 12 43 52 := ⟨by decide +kernel, rfl, by decide⟩
theorem dd_Reader_readSum_43 : pj_d cX3_readSum 43 (.iload_n 3) 1 44 := ⟨by decide +kernel, rfl⟩
theorem dd_Reader_readSum_44 : pj_d cX3_readSum 44 (.bipush 47) 2 46 := ⟨by decide +kernel, rfl⟩
theorem dd_Reader_readSum_46 : pj_dj cX3_readSum 46 (.if_icmp .eq 6) 6 49 52 := ⟨by decide +kernel, rfl, by decide⟩
theorem dd_Reader_readSum_49 : pj_dj cX3_readSum 49 (.goto 110) 110 52 159 := ⟨by decide +kernel, rfl, by decide⟩
theorem dd_Reader_readSum_52 : pj_d cX3_readSum 52 (.aload_n 0) 1 53 := ⟨by decide +kernel, rfl⟩
theorem dd_Reader_readSum_53 : pj_d cX3_readSum 53 (.dup) 1 54 := ⟨by decide +kernel, rfl⟩
theorem dd_Reader_readSum_54 : pj_d cX3_readSum 54 (.getfield 31) 3 57 := ⟨by decide +kernel, rfl⟩
theorem dd_Reader_readSum_57 : pj_d cX3_readSum 57 (.iconst 1) 1 58 := ⟨by decide +kernel, rfl⟩
theorem dd_Reader_readSum_58 : pj_d cX3_readSum 58 (.iadd) 1 59 := ⟨by decide +kernel, rfl⟩
theorem dd_Reader_readSum_59 : pj_d cX3_readSum 59 (.putfield 31) 3 62 := ⟨by decide +kernel, rfl⟩
theorem dd_Reader_readSum_62 : pj_d cX3_readSum 62 (.iload_n 3) 1 63 := ⟨by decide +kernel, rfl⟩
theorem dd_Reader_readSum_63 : pj_d cX3_readSum 63 (.bipush 43) 2 65 := ⟨by decide +kernel, rfl⟩
theorem dd_Reader_readSum_65 : pj_dj cX3_readSum 65 (.if_icmp .eq 9) 9 68 74 := ⟨by decide +kernel, rfl, by decide⟩
theorem dd_Reader_readSum_68 : pj_d cX3_readSum 68 (.iload_n 3) 1 69 := ⟨by decide +kernel, rfl⟩
theorem dd_Reader_readSum_69 : pj_d cX3_readSum 69 (.bipush 45) 2 71 := ⟨by decide +kernel, rfl⟩
theorem dd_Reader_readSum_71 : pj_dj cX3_readSum 71 (.if_icmp .ne 12) 12 74 83 := ⟨by decide +kernel, rfl, by decide⟩
theorem dd_Reader_readSum_74 : pj_d cX3_readSum 74 (.iload_n 1) 1 75 := ⟨by decide +kernel, rfl⟩
theorem dd_Reader_readSum_75 : pj_dj cX3_readSum 75 (.ifCond .eq 8) 8 78 83 := ⟨by decide +kernel, rfl, by decide⟩
theorem dd_Reader_readSum_78 : pj_d cX3_readSum 78 (.aload_n 0) 1 79 := ⟨by decide +kernel, rfl⟩
theorem dd_Reader_readSum_79 : pj_d cX3_readSum 79 (.iload_n 1) 1 80 := ⟨by decide +kernel, rfl⟩
theorem dd_Reader_readSum_80 : pj_d cX3_readSum 80 (.invokevirtual 131) 3 83 := ⟨by decide +kernel, rfl⟩
theorem dd_Reader_readSum_83 : pj_d cX3_readSum 83 (.iload_n 3) 1 84 := ⟨by decide +kernel, rfl⟩
theorem dd_Reader_readSum_84 : pj_d cX3_readSum 84 (.bipush 47) 2 86 := ⟨by decide +kernel, rfl⟩
theorem dd_Reader_readSum_86 : pj_dj cX3_readSum 86 (.if_icmp .ne 13) 13 89 99 := ⟨by decide +kernel, rfl, by decide⟩
theorem dd_Reader_readSum_89 : pj_d cX3_readSum 89 (.aload_n 0) 1 90 := ⟨by decide +kernel, rfl⟩
theorem dd_Reader_readSum_90 : pj_d cX3_readSum 90 (.invokevirtual 144) 3 93 := ⟨by decide +kernel, rfl⟩
theorem dd_Reader_readSum_93 : pj_dj cX3_readSum 93 (.ifCond .eq 13) 13 96 106 := ⟨by decide +kernel, rfl, by decide⟩
theorem dd_Reader_readSum_96 : pj_dj cX3_readSum 96 (.goto 12) 12 99 108 := ⟨by decide +kernel, rfl, by decide⟩
theorem dd_Reader_readSum_99 : pj_d cX3_readSum 99 (.aload_n 0) 1 100 := ⟨by decide +kernel, rfl⟩
theorem dd_Reader_readSum_100 : pj_d cX3_readSum 100 (.invokevirtual 141) 3 103 := ⟨by decide +kernel, rfl⟩
theorem dd_Reader_readSum_103 : pj_dj cX3_readSum 103 (.ifCond .ne 5) 5 106 108 := ⟨by decide +kernel, rfl, by decide⟩
theorem dd_Reader_readSum_106 : pj_d cX3_readSum 106 (.iconst 0) 1 107 := ⟨by decide +kernel, rfl⟩
theorem dd_Reader_readSum_107 : pj_d cX3_readSum 107 (.ireturn) 1 108 := ⟨by decide +kernel, rfl⟩
theorem dd_Reader_readSum_108 : pj_d cX3_readSum 108 (.iload_n 3) 1 109 := ⟨by decide +kernel, rfl⟩
theorem dd_Reader_readSum_109 : pj_d cX3_readSum 109 (.bipush 42) 2 111 := ⟨by decide +kernel, rfl⟩
theorem dd_Reader_readSum_111 : pj_dj cX3_readSum 111 (.if_icmp .eq 9) 9 114 120 := ⟨by decide +kernel, rfl, by decide⟩
theorem dd_Reader_readSum_114 : pj_d cX3_readSum 114 (.iload_n 3) 1 115 := ⟨by decide +kernel, rfl⟩
theorem dd_Reader_readSum_115 : pj_d cX3_readSum 115 (.bipush 47) 2 117 := ⟨by decide +kernel, rfl⟩
theorem dd_Reader_readSum_117 : pj_dj cX3_readSum 117 (.if_icmp .ne 23) 23 120 140 := ⟨by decide +kernel, rfl, by decide⟩
theorem dd_Reader_readSum_120 : pj_d cX3_readSum 120 (.aload_n 0) 1 121 := ⟨by decide +kernel, rfl⟩
theorem dd_Reader_readSum_121 : pj_d cX3_readSum 121 (.iload_n 3) 1 122 := ⟨by decide +kernel, rfl⟩
theorem dd_Reader_readSum_122 : pj_d cX3_readSum 122 (.bipush 42) 2 124 := ⟨by decide +kernel, rfl⟩
theorem dd_Reader_readSum_124 : pj_dj cX3_readSum 124 (.if_icmp .ne 8) 8 127 132 := ⟨by decide +kernel, rfl, by decide⟩
theorem dd_Reader_readSum_127 : pj_d cX3_readSum 127 (.bipush (-3)) 2 129 := ⟨by decide +kernel, rfl⟩
theorem dd_Reader_readSum_129 : pj_dj cX3_readSum 129 (.goto 5) 5 132 134 := ⟨by decide +kernel, rfl, by decide⟩
theorem dd_Reader_readSum_132 : pj_d cX3_readSum 132 (.bipush (-4)) 2 134 := ⟨by decide +kernel, rfl⟩
theorem dd_Reader_readSum_134 : pj_d cX3_readSum 134 (.invokevirtual 131) 3 137 := ⟨by decide +kernel, rfl⟩
theorem dd_Reader_readSum_137 : pj_dj cX3_readSum 137 (.goto 16) 16 140 153 := ⟨by decide +kernel, rfl, by decide⟩
theorem dd_Reader_readSum_140 : pj_d cX3_readSum 140 (.iload_n 3) 1 141 := ⟨by decide +kernel, rfl⟩
theorem dd_Reader_readSum_141 : pj_d cX3_readSum 141 (.bipush 43) 2 143 := ⟨by decide +kernel, rfl⟩
theorem dd_Reader_readSum_143 : pj_dj cX3_readSum 143 (.if_icmp .ne 7) 7 146 150 := ⟨by decide +kernel, rfl, by decide⟩
theorem dd_Reader_readSum_146 : pj_d cX3_readSum 146 (.iconst (-1)) 1 147 := ⟨by decide +kernel, rfl⟩
theorem dd_Reader_readSum_147 : pj_dj cX3_readSum 147 (.goto 5) 5 150 152 := ⟨by decide +kernel, rfl, by decide⟩
theorem dd_Reader_readSum_150 : pj_d cX3_readSum 150 (.bipush (-2)) 2 152 := ⟨by decide +kernel, rfl⟩
theorem dd_Reader_readSum_152 : pj_d cX3_readSum 152 (.istore_n 1) 1 153 := ⟨by decide +kernel, rfl⟩
theorem dd_Reader_readSum_153 : pj_d cX3_readSum 153 (.iinc 2 1) 3 156 := ⟨by decide +kernel, rfl⟩
theorem dd_Reader_readSum_156 : pj_dj cX3_readSum 156 (.goto (-143)) (-143) 159 13 := ⟨by decide +kernel, rfl, by decide⟩
theorem dd_Reader_readSum_159 : pj_d cX3_readSum 159 (.iload_n 1) 1 160 := ⟨by decide +kernel, rfl⟩
theorem dd_Reader_readSum_160 : pj_dj cX3_readSum 160 (.ifCond .eq 8) 8 163 168 := ⟨by decide +kernel, rfl, by decide⟩
theorem dd_Reader_readSum_163 : pj_d cX3_readSum 163 (.aload_n 0) 1 164 := ⟨by decide +kernel, rfl⟩
theorem dd_Reader_readSum_164 : pj_d cX3_readSum 164 (.iload_n 1) 1 165 := ⟨by decide +kernel, rfl⟩
theorem dd_Reader_readSum_165 : pj_d cX3_readSum 165 (.invokevirtual 131) 3 168 := ⟨by decide +kernel, rfl⟩
theorem dd_Reader_readSum_168 : pj_d cX3_readSum 168 (.iconst 1) 1 169 := ⟨by decide +kernel, rfl⟩
theorem dd_Reader_readSum_169 : pj_d cX3_readSum 169 (.ireturn) 1 170 := ⟨by decide +kernel, rfl⟩
set_option maxHeartbeats 4000000 in
set_option maxRecDepth 100000 in
theorem bt_Reader_readSum_159 {B : pj_B} {A : Nat → Prop} {K : pj_K} {r0 : Int32} {z0 : pj_S} (hB : B.2.2.2.1 = pj_LC) (C : pj_C B A K cX3_readSum 4 RX3 3) (Q : pj_Qi B A K (some .boolean) r0 z0)  (v1 : Int32) (z : pj_S) (H : Heap) (lo : List Loc) (ls : Array Slot) (h : Reader_readSum_159 v1 z = some (r0, z0)) (P : pj_P B A K z H lo) (hl : lv_has ls 4 [(0, .ref (B.2.1 5)), (1, .int v1)]) : pj_W K H lo 159 ls [] := by
  unfold Reader_readSum_159 at h
  refine pj_iload_n C dd_Reader_readSum_159 rfl hl 1 rfl ?_
  refine pj_if_eq C h dd_Reader_readSum_160 (fun h => ?_) (fun h => ?_)
  · refine pj_iconst (v := (nI 1)) C dd_Reader_readSum_168 rfl ?_
    exact pj_zret C Q P h dd_Reader_readSum_169
  · refine pj_aload_n C dd_Reader_readSum_163 rfl hl 0 rfl ?_
    refine pj_iload_n C dd_Reader_readSum_164 rfl hl 1 rfl ?_
    obtain ⟨r3, z2, e1, h⟩ := pj_cE h
    refine pj_cVv (st := []) [.int v1] C P 5 (LC5 hB) rfl (ct_Reader_emit hB e1) cl_Reader_131 rfl (by decide) (by decide) hl.1 (Nat.le_of_ble_eq_true rfl) dd_Reader_readSum_165 (fun H lo P => ?_)
    refine pj_iconst (v := (nI 1)) C dd_Reader_readSum_168 rfl ?_
    exact pj_zret C Q P h dd_Reader_readSum_169
set_option maxHeartbeats 4000000 in
set_option maxRecDepth 100000 in
theorem bt_Reader_readSum_49 {B : pj_B} {A : Nat → Prop} {K : pj_K} {r0 : Int32} {z0 : pj_S} (hB : B.2.2.2.1 = pj_LC) (C : pj_C B A K cX3_readSum 4 RX3 3) (Q : pj_Qi B A K (some .boolean) r0 z0)  (v1 : Int32) (z : pj_S) (H : Heap) (lo : List Loc) (ls : Array Slot) (h : Reader_readSum_49 v1 z = some (r0, z0)) (P : pj_P B A K z H lo) (hl : lv_has ls 4 [(0, .ref (B.2.1 5)), (1, .int v1)]) : pj_W K H lo 49 ls [] := by
  unfold Reader_readSum_49 at h
  refine pj_goto C dd_Reader_readSum_49 ?_
  exact bt_Reader_readSum_159 hB C Q _ _ _ _ _ h P (lv_sub hl [0, 1] rfl)
set_option maxHeartbeats 4000000 in
set_option maxRecDepth 100000 in
theorem bt_Reader_readSum_153 {B : pj_B} {A : Nat → Prop} {K : pj_K} {r0 : Int32} {z0 : pj_S} (hB : B.2.2.2.1 = pj_LC) (C : pj_C B A K cX3_readSum 4 RX3 3) (Q : pj_Qi B A K (some .boolean) r0 z0) (s13 : Int32 → Int32 → pj_S → Option (Int32 × pj_S)) (k13 : ∀ (v1 : Int32) (v2 : Int32) (z : pj_S) (H : Heap) (lo : List Loc) (ls : Array Slot), s13 v1 v2 z = some (r0, z0) → pj_P B A K z H lo → lv_has ls 4 [(0, .ref (B.2.1 5)), (1, .int v1), (2, .int v2)] → pj_W K H lo 13 ls []) (v1 : Int32) (v2 : Int32) (z : pj_S) (H : Heap) (lo : List Loc) (ls : Array Slot) (h : Reader_readSum_153 s13 v1 v2 z = some (r0, z0)) (P : pj_P B A K z H lo) (hl : lv_has ls 4 [(0, .ref (B.2.1 5)), (1, .int v1), (2, .int v2)]) : pj_W K H lo 153 ls [] := by
  unfold Reader_readSum_153 at h
  refine pj_iinc (v := (nI 1)) [(0, .ref (B.2.1 5)), (1, .int v1)] C h rfl dd_Reader_readSum_153 hl 2 rfl (by decide) rfl (fun x1 ls h hl => ?_)
  refine pj_goto C dd_Reader_readSum_156 ?_
  exact k13 _ _ _ _ _ _ h P (lv_sub hl [1, 2, 0] rfl)
set_option maxHeartbeats 4000000 in
set_option maxRecDepth 100000 in
theorem bt_Reader_readSum_134 {B : pj_B} {A : Nat → Prop} {K : pj_K} {r0 : Int32} {z0 : pj_S} (hB : B.2.2.2.1 = pj_LC) (C : pj_C B A K cX3_readSum 4 RX3 3) (Q : pj_Qi B A K (some .boolean) r0 z0) (s13 : Int32 → Int32 → pj_S → Option (Int32 × pj_S)) (k13 : ∀ (v1 : Int32) (v2 : Int32) (z : pj_S) (H : Heap) (lo : List Loc) (ls : Array Slot), s13 v1 v2 z = some (r0, z0) → pj_P B A K z H lo → lv_has ls 4 [(0, .ref (B.2.1 5)), (1, .int v1), (2, .int v2)] → pj_W K H lo 13 ls []) (v1 : Int32) (v2 : Int32) (t0 : Int32) (z : pj_S) (H : Heap) (lo : List Loc) (ls : Array Slot) (h : Reader_readSum_134 s13 v1 v2 t0 z = some (r0, z0)) (P : pj_P B A K z H lo) (hl : lv_has ls 4 [(0, .ref (B.2.1 5)), (1, .int v1), (2, .int v2)]) : pj_W K H lo 134 ls [.int t0, .ref (B.2.1 5)] := by
  unfold Reader_readSum_134 at h
  obtain ⟨r3, z2, e1, h⟩ := pj_cE h
  refine pj_cVv (st := []) [.int t0] C P 5 (LC5 hB) rfl (ct_Reader_emit hB e1) cl_Reader_131 rfl (by decide) (by decide) hl.1 (Nat.le_of_ble_eq_true rfl) dd_Reader_readSum_134 (fun H lo P => ?_)
  refine pj_goto C dd_Reader_readSum_137 ?_
  exact bt_Reader_readSum_153 hB C Q s13 k13 _ _ _ _ _ _ h P (lv_sub hl [0, 1, 2] rfl)
set_option maxHeartbeats 4000000 in
set_option maxRecDepth 100000 in
theorem bt_Reader_readSum_120 {B : pj_B} {A : Nat → Prop} {K : pj_K} {r0 : Int32} {z0 : pj_S} (hB : B.2.2.2.1 = pj_LC) (C : pj_C B A K cX3_readSum 4 RX3 3) (Q : pj_Qi B A K (some .boolean) r0 z0) (s13 : Int32 → Int32 → pj_S → Option (Int32 × pj_S)) (k13 : ∀ (v1 : Int32) (v2 : Int32) (z : pj_S) (H : Heap) (lo : List Loc) (ls : Array Slot), s13 v1 v2 z = some (r0, z0) → pj_P B A K z H lo → lv_has ls 4 [(0, .ref (B.2.1 5)), (1, .int v1), (2, .int v2)] → pj_W K H lo 13 ls []) (v1 : Int32) (v2 : Int32) (v3 : Int32) (z : pj_S) (H : Heap) (lo : List Loc) (ls : Array Slot) (h : Reader_readSum_120 s13 v1 v2 v3 z = some (r0, z0)) (P : pj_P B A K z H lo) (hl : lv_has ls 4 [(0, .ref (B.2.1 5)), (1, .int v1), (2, .int v2), (3, .int v3)]) : pj_W K H lo 120 ls [] := by
  unfold Reader_readSum_120 at h
  refine pj_aload_n C dd_Reader_readSum_120 rfl hl 0 rfl ?_
  refine pj_iload_n C dd_Reader_readSum_121 rfl hl 3 rfl ?_
  refine pj_bipush (v := (nI 42)) C dd_Reader_readSum_122 rfl ?_
  refine pj_ic_ne C h dd_Reader_readSum_124 (fun h => ?_) (fun h => ?_)
  · refine pj_bipush (v := (-4 : Int32)) C dd_Reader_readSum_132 rfl ?_
    exact bt_Reader_readSum_134 hB C Q s13 k13 _ _ _ _ _ _ _ h P (lv_sub hl [0, 1, 2] rfl)
  · refine pj_bipush (v := (-3 : Int32)) C dd_Reader_readSum_127 rfl ?_
    refine pj_goto C dd_Reader_readSum_129 ?_
    exact bt_Reader_readSum_134 hB C Q s13 k13 _ _ _ _ _ _ _ h P (lv_sub hl [0, 1, 2] rfl)
set_option maxHeartbeats 4000000 in
set_option maxRecDepth 100000 in
theorem bt_Reader_readSum_152 {B : pj_B} {A : Nat → Prop} {K : pj_K} {r0 : Int32} {z0 : pj_S} (hB : B.2.2.2.1 = pj_LC) (C : pj_C B A K cX3_readSum 4 RX3 3) (Q : pj_Qi B A K (some .boolean) r0 z0) (s13 : Int32 → Int32 → pj_S → Option (Int32 × pj_S)) (k13 : ∀ (v1 : Int32) (v2 : Int32) (z : pj_S) (H : Heap) (lo : List Loc) (ls : Array Slot), s13 v1 v2 z = some (r0, z0) → pj_P B A K z H lo → lv_has ls 4 [(0, .ref (B.2.1 5)), (1, .int v1), (2, .int v2)] → pj_W K H lo 13 ls []) (v2 : Int32) (t0 : Int32) (z : pj_S) (H : Heap) (lo : List Loc) (ls : Array Slot) (h : Reader_readSum_152 s13 v2 t0 z = some (r0, z0)) (P : pj_P B A K z H lo) (hl : lv_has ls 4 [(0, .ref (B.2.1 5)), (2, .int v2)]) : pj_W K H lo 152 ls [.int t0] := by
  unfold Reader_readSum_152 at h
  refine pj_istore_n [(1, .int t0), (0, .ref (B.2.1 5)), (2, .int v2)] C dd_Reader_readSum_152 rfl hl (by decide) rfl (fun ls hl => ?_)
  exact bt_Reader_readSum_153 hB C Q s13 k13 _ _ _ _ _ _ h P (lv_sub hl [1, 0, 2] rfl)
set_option maxHeartbeats 4000000 in
set_option maxRecDepth 100000 in
theorem bt_Reader_readSum_108 {B : pj_B} {A : Nat → Prop} {K : pj_K} {r0 : Int32} {z0 : pj_S} (hB : B.2.2.2.1 = pj_LC) (C : pj_C B A K cX3_readSum 4 RX3 3) (Q : pj_Qi B A K (some .boolean) r0 z0) (s13 : Int32 → Int32 → pj_S → Option (Int32 × pj_S)) (k13 : ∀ (v1 : Int32) (v2 : Int32) (z : pj_S) (H : Heap) (lo : List Loc) (ls : Array Slot), s13 v1 v2 z = some (r0, z0) → pj_P B A K z H lo → lv_has ls 4 [(0, .ref (B.2.1 5)), (1, .int v1), (2, .int v2)] → pj_W K H lo 13 ls []) (v1 : Int32) (v2 : Int32) (v3 : Int32) (z : pj_S) (H : Heap) (lo : List Loc) (ls : Array Slot) (h : Reader_readSum_108 s13 v1 v2 v3 z = some (r0, z0)) (P : pj_P B A K z H lo) (hl : lv_has ls 4 [(0, .ref (B.2.1 5)), (1, .int v1), (2, .int v2), (3, .int v3)]) : pj_W K H lo 108 ls [] := by
  unfold Reader_readSum_108 at h
  refine pj_iload_n C dd_Reader_readSum_108 rfl hl 3 rfl ?_
  refine pj_bipush (v := (nI 42)) C dd_Reader_readSum_109 rfl ?_
  refine pj_ic_eq C h dd_Reader_readSum_111 (fun h => ?_) (fun h => ?_)
  · exact bt_Reader_readSum_120 hB C Q s13 k13 _ _ _ _ _ _ _ h P (lv_sub hl [0, 1, 2, 3] rfl)
  · refine pj_iload_n C dd_Reader_readSum_114 rfl hl 3 rfl ?_
    refine pj_bipush (v := (nI 47)) C dd_Reader_readSum_115 rfl ?_
    refine pj_ic_ne C h dd_Reader_readSum_117 (fun h => ?_) (fun h => ?_)
    · refine pj_iload_n C dd_Reader_readSum_140 rfl hl 3 rfl ?_
      refine pj_bipush (v := (nI 43)) C dd_Reader_readSum_141 rfl ?_
      refine pj_ic_ne C h dd_Reader_readSum_143 (fun h => ?_) (fun h => ?_)
      · refine pj_bipush (v := (-2 : Int32)) C dd_Reader_readSum_150 rfl ?_
        exact bt_Reader_readSum_152 hB C Q s13 k13 _ _ _ _ _ _ h P (lv_sub hl [0, 2] rfl)
      · refine pj_iconst (v := (-1 : Int32)) C dd_Reader_readSum_146 rfl ?_
        refine pj_goto C dd_Reader_readSum_147 ?_
        exact bt_Reader_readSum_152 hB C Q s13 k13 _ _ _ _ _ _ h P (lv_sub hl [0, 2] rfl)
    · exact bt_Reader_readSum_120 hB C Q s13 k13 _ _ _ _ _ _ _ h P (lv_sub hl [0, 1, 2, 3] rfl)
set_option maxHeartbeats 4000000 in
set_option maxRecDepth 100000 in
theorem bt_Reader_readSum_83 {B : pj_B} {A : Nat → Prop} {K : pj_K} {r0 : Int32} {z0 : pj_S} (hB : B.2.2.2.1 = pj_LC) (C : pj_C B A K cX3_readSum 4 RX3 3) (Q : pj_Qi B A K (some .boolean) r0 z0) (s13 : Int32 → Int32 → pj_S → Option (Int32 × pj_S)) (k13 : ∀ (v1 : Int32) (v2 : Int32) (z : pj_S) (H : Heap) (lo : List Loc) (ls : Array Slot), s13 v1 v2 z = some (r0, z0) → pj_P B A K z H lo → lv_has ls 4 [(0, .ref (B.2.1 5)), (1, .int v1), (2, .int v2)] → pj_W K H lo 13 ls []) (v1 : Int32) (v2 : Int32) (v3 : Int32) (z : pj_S) (H : Heap) (lo : List Loc) (ls : Array Slot) (h : Reader_readSum_83 s13 v1 v2 v3 z = some (r0, z0)) (P : pj_P B A K z H lo) (hl : lv_has ls 4 [(0, .ref (B.2.1 5)), (1, .int v1), (2, .int v2), (3, .int v3)]) : pj_W K H lo 83 ls [] := by
  unfold Reader_readSum_83 at h
  refine pj_iload_n C dd_Reader_readSum_83 rfl hl 3 rfl ?_
  refine pj_bipush (v := (nI 47)) C dd_Reader_readSum_84 rfl ?_
  refine pj_ic_ne C h dd_Reader_readSum_86 (fun h => ?_) (fun h => ?_)
  · refine pj_aload_n C dd_Reader_readSum_99 rfl hl 0 rfl ?_
    obtain ⟨r3, z2, e1, h⟩ := pj_cE h
    refine pj_cVi (st := []) [] C P 5 (LC5 hB) rfl (ct_Reader_readUnit hB e1) cl_Reader_141 rfl (by decide) (by decide) hl.1 (Nat.le_of_ble_eq_true rfl) dd_Reader_readSum_100 (fun H lo P => ?_)
    refine pj_if_ne C h dd_Reader_readSum_103 (fun h => ?_) (fun h => ?_)
    · exact bt_Reader_readSum_108 hB C Q s13 k13 _ _ _ _ _ _ _ h P (lv_sub hl [0, 1, 2, 3] rfl)
    · refine pj_iconst (v := (nI 0)) C dd_Reader_readSum_106 rfl ?_
      exact pj_zret C Q P h dd_Reader_readSum_107
  · refine pj_aload_n C dd_Reader_readSum_89 rfl hl 0 rfl ?_
    obtain ⟨r6, z5, e4, h⟩ := pj_cE h
    refine pj_cVi (st := []) [] C P 5 (LC5 hB) rfl (ct_Reader_readDivisor hB e4) cl_Reader_144 rfl (by decide) (by decide) hl.1 (Nat.le_of_ble_eq_true rfl) dd_Reader_readSum_90 (fun H lo P => ?_)
    refine pj_if_eq C h dd_Reader_readSum_93 (fun h => ?_) (fun h => ?_)
    · refine pj_iconst (v := (nI 0)) C dd_Reader_readSum_106 rfl ?_
      exact pj_zret C Q P h dd_Reader_readSum_107
    · refine pj_goto C dd_Reader_readSum_96 ?_
      exact bt_Reader_readSum_108 hB C Q s13 k13 _ _ _ _ _ _ _ h P (lv_sub hl [0, 1, 2, 3] rfl)
set_option maxHeartbeats 4000000 in
set_option maxRecDepth 100000 in
theorem bt_Reader_readSum_74 {B : pj_B} {A : Nat → Prop} {K : pj_K} {r0 : Int32} {z0 : pj_S} (hB : B.2.2.2.1 = pj_LC) (C : pj_C B A K cX3_readSum 4 RX3 3) (Q : pj_Qi B A K (some .boolean) r0 z0) (s13 : Int32 → Int32 → pj_S → Option (Int32 × pj_S)) (k13 : ∀ (v1 : Int32) (v2 : Int32) (z : pj_S) (H : Heap) (lo : List Loc) (ls : Array Slot), s13 v1 v2 z = some (r0, z0) → pj_P B A K z H lo → lv_has ls 4 [(0, .ref (B.2.1 5)), (1, .int v1), (2, .int v2)] → pj_W K H lo 13 ls []) (v1 : Int32) (v2 : Int32) (v3 : Int32) (z : pj_S) (H : Heap) (lo : List Loc) (ls : Array Slot) (h : Reader_readSum_74 s13 v1 v2 v3 z = some (r0, z0)) (P : pj_P B A K z H lo) (hl : lv_has ls 4 [(0, .ref (B.2.1 5)), (1, .int v1), (2, .int v2), (3, .int v3)]) : pj_W K H lo 74 ls [] := by
  unfold Reader_readSum_74 at h
  refine pj_iload_n C dd_Reader_readSum_74 rfl hl 1 rfl ?_
  refine pj_if_eq C h dd_Reader_readSum_75 (fun h => ?_) (fun h => ?_)
  · exact bt_Reader_readSum_83 hB C Q s13 k13 _ _ _ _ _ _ _ h P (lv_sub hl [0, 1, 2, 3] rfl)
  · refine pj_aload_n C dd_Reader_readSum_78 rfl hl 0 rfl ?_
    refine pj_iload_n C dd_Reader_readSum_79 rfl hl 1 rfl ?_
    obtain ⟨r3, z2, e1, h⟩ := pj_cE h
    refine pj_cVv (st := []) [.int v1] C P 5 (LC5 hB) rfl (ct_Reader_emit hB e1) cl_Reader_131 rfl (by decide) (by decide) hl.1 (Nat.le_of_ble_eq_true rfl) dd_Reader_readSum_80 (fun H lo P => ?_)
    exact bt_Reader_readSum_83 hB C Q s13 k13 _ _ _ _ _ _ _ h P (lv_sub hl [0, 1, 2, 3] rfl)
set_option maxHeartbeats 4000000 in
set_option maxRecDepth 100000 in
theorem bt_Reader_readSum_52 {B : pj_B} {A : Nat → Prop} {K : pj_K} {r0 : Int32} {z0 : pj_S} (hB : B.2.2.2.1 = pj_LC) (C : pj_C B A K cX3_readSum 4 RX3 3) (Q : pj_Qi B A K (some .boolean) r0 z0) (s13 : Int32 → Int32 → pj_S → Option (Int32 × pj_S)) (k13 : ∀ (v1 : Int32) (v2 : Int32) (z : pj_S) (H : Heap) (lo : List Loc) (ls : Array Slot), s13 v1 v2 z = some (r0, z0) → pj_P B A K z H lo → lv_has ls 4 [(0, .ref (B.2.1 5)), (1, .int v1), (2, .int v2)] → pj_W K H lo 13 ls []) (v1 : Int32) (v2 : Int32) (v3 : Int32) (z : pj_S) (H : Heap) (lo : List Loc) (ls : Array Slot) (h : Reader_readSum_52 s13 v1 v2 v3 z = some (r0, z0)) (P : pj_P B A K z H lo) (hl : lv_has ls 4 [(0, .ref (B.2.1 5)), (1, .int v1), (2, .int v2), (3, .int v3)]) : pj_W K H lo 52 ls [] := by
  unfold Reader_readSum_52 at h
  refine pj_aload_n C dd_Reader_readSum_52 rfl hl 0 rfl ?_
  refine pj_dup C dd_Reader_readSum_53 rfl ?_
  refine pj_getI C P 5 (LC5 hB) rfl fl_Reader_31 dd_Reader_readSum_54 ?_
  refine pj_iconst (v := (nI 1)) C dd_Reader_readSum_57 rfl ?_
  refine pj_iadd C dd_Reader_readSum_58 ?_
  refine pj_putI C P 5 (LC5 hB) rfl fl_Reader_31 rfl fy_3_5 h dd_Reader_readSum_59 (fun H lo z1 h P => ?_)
  refine pj_iload_n C dd_Reader_readSum_62 rfl hl 3 rfl ?_
  refine pj_bipush (v := (nI 43)) C dd_Reader_readSum_63 rfl ?_
  refine pj_ic_eq C h dd_Reader_readSum_65 (fun h => ?_) (fun h => ?_)
  · exact bt_Reader_readSum_74 hB C Q s13 k13 _ _ _ _ _ _ _ h P (lv_sub hl [0, 1, 2, 3] rfl)
  · refine pj_iload_n C dd_Reader_readSum_68 rfl hl 3 rfl ?_
    refine pj_bipush (v := (nI 45)) C dd_Reader_readSum_69 rfl ?_
    refine pj_ic_ne C h dd_Reader_readSum_71 (fun h => ?_) (fun h => ?_)
    · exact bt_Reader_readSum_83 hB C Q s13 k13 _ _ _ _ _ _ _ h P (lv_sub hl [0, 1, 2, 3] rfl)
    · exact bt_Reader_readSum_74 hB C Q s13 k13 _ _ _ _ _ _ _ h P (lv_sub hl [0, 1, 2, 3] rfl)
set_option maxHeartbeats 4000000 in
set_option maxRecDepth 100000 in
theorem bt_Reader_readSum_13 {B : pj_B} {A : Nat → Prop} {K : pj_K} {r0 : Int32} {z0 : pj_S} (hB : B.2.2.2.1 = pj_LC) (C : pj_C B A K cX3_readSum 4 RX3 3) (Q : pj_Qi B A K (some .boolean) r0 z0) (s13 : Int32 → Int32 → pj_S → Option (Int32 × pj_S)) (k13 : ∀ (v1 : Int32) (v2 : Int32) (z : pj_S) (H : Heap) (lo : List Loc) (ls : Array Slot), s13 v1 v2 z = some (r0, z0) → pj_P B A K z H lo → lv_has ls 4 [(0, .ref (B.2.1 5)), (1, .int v1), (2, .int v2)] → pj_W K H lo 13 ls []) (v1 : Int32) (v2 : Int32) (z : pj_S) (H : Heap) (lo : List Loc) (ls : Array Slot) (h : Reader_readSum_13 s13 v1 v2 z = some (r0, z0)) (P : pj_P B A K z H lo) (hl : lv_has ls 4 [(0, .ref (B.2.1 5)), (1, .int v1), (2, .int v2)]) : pj_W K H lo 13 ls [] := by
  unfold Reader_readSum_13 at h
  refine pj_iload_n C dd_Reader_readSum_13 rfl hl 2 rfl ?_
  refine pj_sipush (v := (nI 400)) C dd_Reader_readSum_14 rfl ?_
  refine pj_ic_gt C h dd_Reader_readSum_17 (fun h => ?_) (fun h => ?_)
  · exact bt_Reader_readSum_159 hB C Q _ _ _ _ _ h P (lv_sub hl [0, 1] rfl)
  · refine pj_aload_n C dd_Reader_readSum_20 rfl hl 0 rfl ?_
    obtain ⟨r3, z2, e1, h⟩ := pj_cE h
    refine pj_cVi (st := []) [] C P 5 (LC5 hB) rfl (ct_Reader_token hB e1) cl_Reader_44 rfl (by decide) (by decide) hl.1 (Nat.le_of_ble_eq_true rfl) dd_Reader_readSum_21 (fun H lo P => ?_)
    refine pj_istore_n [(3, .int r3), (0, .ref (B.2.1 5)), (1, .int v1), (2, .int v2)] C dd_Reader_readSum_24 rfl hl (by decide) rfl (fun ls hl => ?_)
    refine pj_iload_n C dd_Reader_readSum_25 rfl hl 0 rfl ?_
    refine pj_bipush (v := (nI 43)) C dd_Reader_readSum_26 rfl ?_
    refine pj_ic_eq C h dd_Reader_readSum_28 (fun h => ?_) (fun h => ?_)
    · exact bt_Reader_readSum_52 hB C Q s13 k13 _ _ _ _ _ _ _ h P (lv_sub hl [1, 2, 3, 0] rfl)
    · refine pj_iload_n C dd_Reader_readSum_31 rfl hl 0 rfl ?_
      refine pj_bipush (v := (nI 45)) C dd_Reader_readSum_32 rfl ?_
      refine pj_ic_eq C h dd_Reader_readSum_34 (fun h => ?_) (fun h => ?_)
      · exact bt_Reader_readSum_52 hB C Q s13 k13 _ _ _ _ _ _ _ h P (lv_sub hl [1, 2, 3, 0] rfl)
      · refine pj_iload_n C dd_Reader_readSum_37 rfl hl 0 rfl ?_
        refine pj_bipush (v := (nI 42)) C dd_Reader_readSum_38 rfl ?_
        refine pj_ic_eq C h dd_Reader_readSum_40 (fun h => ?_) (fun h => ?_)
        · exact bt_Reader_readSum_52 hB C Q s13 k13 _ _ _ _ _ _ _ h P (lv_sub hl [1, 2, 3, 0] rfl)
        · refine pj_iload_n C dd_Reader_readSum_43 rfl hl 0 rfl ?_
          refine pj_bipush (v := (nI 47)) C dd_Reader_readSum_44 rfl ?_
          refine pj_ic_eq C h dd_Reader_readSum_46 (fun h => ?_) (fun h => ?_)
          · exact bt_Reader_readSum_52 hB C Q s13 k13 _ _ _ _ _ _ _ h P (lv_sub hl [1, 2, 3, 0] rfl)
          · exact bt_Reader_readSum_49 hB C Q _ _ _ _ _ h P (lv_sub hl [1, 2] rfl)
theorem lt_Reader_readSum_13 {B : pj_B} {A : Nat → Prop} {K : pj_K} {r0 : Int32} {z0 : pj_S} (hB : B.2.2.2.1 = pj_LC) (C : pj_C B A K cX3_readSum 4 RX3 3) (Q : pj_Qi B A K (some .boolean) r0 z0)  : ∀ (n : Nat) (v1 : Int32) (v2 : Int32) (z : pj_S) (H : Heap) (lo : List Loc) (ls : Array Slot), pj_lp2 Reader_readSum_13 n v1 v2 z = some (r0, z0) → pj_P B A K z H lo → lv_has ls 4 [(0, .ref (B.2.1 5)), (1, .int v1), (2, .int v2)] → pj_W K H lo 13 ls [] := by
  intro n
  induction n with
  | zero => intro v1 v2 z H lo ls h; rw [pj_lp2_0] at h; cases h
  | succ n ih =>
    intro v1 v2 z H lo ls h P hl
    rw [pj_lp2_s] at h
    exact bt_Reader_readSum_13 hB C Q   (pj_lp2 Reader_readSum_13 n) ih v1 v2 z H lo ls h P hl
set_option maxHeartbeats 4000000 in
set_option maxRecDepth 100000 in
theorem ct_Reader_readSum {l : Launch} {B : pj_B} (hB : B.2.2.2.1 = pj_LC)  {z : pj_S} {r0 : Int32} {z0 : pj_S} (h : Reader_readSum z = some (r0, z0)) : pj_Mi l yX3_readSum cX3_readSum 4 (some .boolean) 3 [.ref (B.2.1 5)] B z r0 z0 := by
  refine pj_meti (own := RX3) (by decide +kernel) rfl (Nat.le_of_ble_eq_true rfl) ?_
  intro A K hK C Q H lo ls P hl
  have hl : lv_has ls 4 [(0, .ref (B.2.1 5))] := hl
  unfold Reader_readSum at h
  refine pj_aload_n C dd_Reader_readSum_0 rfl hl 0 rfl ?_
  obtain ⟨r3, z2, e1, h⟩ := pj_cE h
  refine pj_cVi (st := []) [] C P 5 (LC5 hB) rfl (ct_Reader_readUnit hB e1) cl_Reader_141 rfl (by decide) (by decide) hl.1 (Nat.le_of_ble_eq_true rfl) dd_Reader_readSum_1 (fun H lo P => ?_)
  refine pj_if_ne C h dd_Reader_readSum_4 (fun h => ?_) (fun h => ?_)
  · refine pj_iconst (v := (nI 0)) C dd_Reader_readSum_9 rfl ?_
    refine pj_istore_n [(1, .int (nI 0)), (0, .ref (B.2.1 5))] C dd_Reader_readSum_10 rfl hl (by decide) rfl (fun ls hl => ?_)
    refine pj_iconst (v := (nI 0)) C dd_Reader_readSum_11 rfl ?_
    refine pj_istore_n [(2, .int (nI 0)), (1, .int (nI 0)), (0, .ref (B.2.1 5))] C dd_Reader_readSum_12 rfl hl (by decide) rfl (fun ls hl => ?_)
    exact lt_Reader_readSum_13 hB C Q 4000 _ _ _ _ _ _ h P (lv_sub hl [2, 1, 0] rfl)
  · refine pj_iconst (v := (nI 0)) C dd_Reader_readSum_7 rfl ?_
    exact pj_zret C Q P h dd_Reader_readSum_8
theorem dd_Reader_readCondition_0 : pj_d cX3_readCondition 0 (.aload_n 0) 1 1 := ⟨by decide +kernel, rfl⟩
theorem dd_Reader_readCondition_1 : pj_d cX3_readCondition 1 (.iload_n 1) 1 2 := ⟨by decide +kernel, rfl⟩
theorem dd_Reader_readCondition_2 : pj_d cX3_readCondition 2 (.invokevirtual 138) 3 5 := ⟨by decide +kernel, rfl⟩
theorem dd_Reader_readCondition_5 : pj_dj cX3_readCondition 5 (.ifCond .ne 5) 5 8 10 := ⟨by decide +kernel, rfl, by decide⟩
theorem dd_Reader_readCondition_8 : pj_d cX3_readCondition 8 (.iconst 0) 1 9 := ⟨by decide +kernel, rfl⟩
theorem dd_Reader_readCondition_9 : pj_d cX3_readCondition 9 (.ireturn) 1 10 := ⟨by decide +kernel, rfl⟩
theorem dd_Reader_readCondition_10 : pj_d cX3_readCondition 10 (.iconst 0) 1 11 := ⟨by decide +kernel, rfl⟩
theorem dd_Reader_readCondition_11 : pj_d cX3_readCondition 11 (.istore_n 2) 1 12 := ⟨by decide +kernel, rfl⟩
theorem dd_Reader_readCondition_12 : pj_d cX3_readCondition 12 (.iconst 0) 1 13 := ⟨by decide +kernel, rfl⟩
theorem dd_Reader_readCondition_13 : pj_d cX3_readCondition 13 (.istore_n 3) 1 14 := ⟨by decide +kernel, rfl⟩
theorem dd_Reader_readCondition_14 : pj_d cX3_readCondition 14 (.iload_n 3) 1 15 := ⟨by decide +kernel, rfl⟩
theorem dd_Reader_readCondition_15 : pj_d cX3_readCondition 15 (.sipush 400) 3 18 := ⟨by decide +kernel, rfl⟩
theorem dd_Reader_readCondition_18 : pj_dj cX3_readCondition 18 (.if_icmp .gt 98) 98 21 116 := ⟨by decide +kernel, rfl, by decide⟩
theorem dd_Reader_readCondition_21 : pj_d cX3_readCondition 21 (.aload_n 0) 1 22 := ⟨by decide +kernel, rfl⟩
theorem dd_Reader_readCondition_22 : pj_d cX3_readCondition 22 (.invokevirtual 44) 3 25 := ⟨by decide +kernel, rfl⟩
theorem dd_Reader_readCondition_25 : pj_d cX3_readCondition 25 (.bipush (-8)) 2 27 := ⟨by decide +kernel, rfl⟩
theorem dd_Reader_readCondition_27 : pj_dj cX3_readCondition 27 (.if_icmp .eq 12) 12 30 39 := ⟨by decide +kernel, rfl, by decide⟩
theorem dd_Reader_readCondition_30 : pj_d cX3_readCondition 30 (.aload_n 0) 1 31 := ⟨by decide +kernel, rfl⟩
theorem dd_Reader_readCondition_31 : pj_d cX3_readCondition 31 (.invokevirtual 44) 3 34 := ⟨by decide +kernel, rfl⟩
theorem dd_Reader_readCondition_34 : pj_d cX3_readCondition 34 (.bipush (-9)) 2 36 := ⟨by decide +kernel, rfl⟩
theorem dd_Reader_readCondition_36 : pj_dj cX3_readCondition 36 (.if_icmp .ne 80) 80 39 116 := ⟨by decide +kernel, rfl, by decide⟩
theorem dd_Reader_readCondition_39 : pj_d cX3_readCondition 39 (.aload_n 0) 1 40 := ⟨by decide +kernel, rfl⟩
theorem dd_Reader_readCondition_40 : pj_d cX3_readCondition 40 (.invokevirtual 44) 3 43 := ⟨by decide +kernel, rfl⟩
theorem dd_Reader_readCondition_43 : pj_d cX3_readCondition 43 (.istore 4) 2 45 := ⟨by decide +kernel, rfl⟩
theorem dd_Reader_readCondition_45 : pj_d cX3_readCondition 45 (.aload_n 0) 1 46 := ⟨by decide +kernel, rfl⟩
theorem dd_Reader_readCondition_46 : pj_d cX3_readCondition 46 (.dup) 1 47 := ⟨by decide +kernel, rfl⟩
theorem dd_Reader_readCondition_47 : pj_d cX3_readCondition 47 (.getfield 31) 3 50 := ⟨by decide +kernel, rfl⟩
theorem dd_Reader_readCondition_50 : pj_d cX3_readCondition 50 (.iconst 1) 1 51 := ⟨by decide +kernel, rfl⟩
theorem dd_Reader_readCondition_51 : pj_d cX3_readCondition 51 (.iadd) 1 52 := ⟨by decide +kernel, rfl⟩
theorem dd_Reader_readCondition_52 : pj_d cX3_readCondition 52 (.putfield 31) 3 55 := ⟨by decide +kernel, rfl⟩
theorem dd_Reader_readCondition_55 : pj_d cX3_readCondition 55 (.iload 4) 2 57 := ⟨by decide +kernel, rfl⟩
theorem dd_Reader_readCondition_57 : pj_d cX3_readCondition 57 (.bipush (-9)) 2 59 := ⟨by decide +kernel, rfl⟩
theorem dd_Reader_readCondition_59 : pj_dj cX3_readCondition 59 (.if_icmp .ne 13) 13 62 72 := ⟨by decide +kernel, rfl, by decide⟩
theorem dd_Reader_readCondition_62 : pj_d cX3_readCondition 62 (.iload_n 2) 1 63 := ⟨by decide +kernel, rfl⟩
theorem dd_Reader_readCondition_63 : pj_dj cX3_readCondition 63 (.ifCond .eq 9) 9 66 72 := ⟨by decide +kernel, rfl, by decide⟩
theorem dd_Reader_readCondition_66 : pj_d cX3_readCondition 66 (.aload_n 0) 1 67 := ⟨by decide +kernel, rfl⟩
theorem dd_Reader_readCondition_67 : pj_d cX3_readCondition 67 (.bipush (-9)) 2 69 := ⟨by decide +kernel, rfl⟩
theorem dd_Reader_readCondition_69 : pj_d cX3_readCondition 69 (.invokevirtual 131) 3 72 := ⟨by decide +kernel, rfl⟩
theorem dd_Reader_readCondition_72 : pj_d cX3_readCondition 72 (.iload_n 2) 1 73 := ⟨by decide +kernel, rfl⟩
theorem dd_Reader_readCondition_73 : pj_d cX3_readCondition 73 (.iload 4) 2 75 := ⟨by decide +kernel, rfl⟩
theorem dd_Reader_readCondition_75 : pj_d cX3_readCondition 75 (.bipush (-9)) 2 77 := ⟨by decide +kernel, rfl⟩
theorem dd_Reader_readCondition_77 : pj_dj cX3_readCondition 77 (.if_icmp .ne 7) 7 80 84 := ⟨by decide +kernel, rfl, by decide⟩
theorem dd_Reader_readCondition_80 : pj_d cX3_readCondition 80 (.iconst 1) 1 81 := ⟨by decide +kernel, rfl⟩
theorem dd_Reader_readCondition_81 : pj_dj cX3_readCondition 81 (.goto 4) 4 84 85 := ⟨by decide +kernel, rfl, by decide⟩
theorem dd_Reader_readCondition_84 : pj_d cX3_readCondition 84 (.iconst 0) 1 85 := ⟨by decide +kernel, rfl⟩
theorem dd_Reader_readCondition_85 : pj_d cX3_readCondition 85 (.ior) 1 86 := ⟨by decide +kernel, rfl⟩
theorem dd_Reader_readCondition_86 : pj_d cX3_readCondition 86 (.istore_n 2) 1 87 := ⟨by decide +kernel, rfl⟩
theorem dd_Reader_readCondition_87 : pj_d cX3_readCondition 87 (.aload_n 0) 1 88 := ⟨by decide +kernel, rfl⟩
theorem dd_Reader_readCondition_88 : pj_d cX3_readCondition 88 (.iload_n 1) 1 89 := ⟨by decide +kernel, rfl⟩
theorem dd_Reader_readCondition_89 : pj_d cX3_readCondition 89 (.invokevirtual 138) 3 92 := ⟨by decide +kernel, rfl⟩
theorem dd_Reader_readCondition_92 : pj_dj cX3_readCondition 92 (.ifCond .ne 5) 5 95 97 := ⟨by decide +kernel, rfl, by decide⟩
theorem dd_Reader_readCondition_95 : pj_d cX3_readCondition 95 (.iconst 0) 1 96 := ⟨by decide +kernel, rfl⟩
theorem dd_Reader_readCondition_96 : pj_d cX3_readCondition 96 (.ireturn) 1 97 := ⟨by decide +kernel, rfl⟩
theorem dd_Reader_readCondition_97 : pj_d cX3_readCondition 97 (.iload 4) 2 99 := ⟨by decide +kernel, rfl⟩
theorem dd_Reader_readCondition_99 : pj_d cX3_readCondition 99 (.bipush (-8)) 2 101 := ⟨by decide +kernel, rfl⟩
theorem dd_Reader_readCondition_101 : pj_dj cX3_readCondition 101 (.if_icmp .ne 9) 9 104 110 := ⟨by decide +kernel, rfl, by decide⟩
theorem dd_Reader_readCondition_104 : pj_d cX3_readCondition 104 (.aload_n 0) 1 105 := ⟨by decide +kernel, rfl⟩
theorem dd_Reader_readCondition_105 : pj_d cX3_readCondition 105 (.bipush (-8)) 2 107 := ⟨by decide +kernel, rfl⟩
theorem dd_Reader_readCondition_107 : pj_d cX3_readCondition 107 (.invokevirtual 131) 3 110 := ⟨by decide +kernel, rfl⟩
theorem dd_Reader_readCondition_110 : pj_d cX3_readCondition 110 (.iinc 3 1) 3 113 := ⟨by decide +kernel, rfl⟩
theorem dd_Reader_readCondition_113 : pj_dj cX3_readCondition 113 (.goto (-99)) (-99) 116 14 := ⟨by decide +kernel, rfl, by decide⟩
theorem dd_Reader_readCondition_116 : pj_d cX3_readCondition 116 (.iload_n 2) 1 117 := ⟨by decide +kernel, rfl⟩
theorem dd_Reader_readCondition_117 : pj_dj cX3_readCondition 117 (.ifCond .eq 9) 9 120 126 := ⟨by decide +kernel, rfl, by decide⟩
theorem dd_Reader_readCondition_120 : pj_d cX3_readCondition 120 (.aload_n 0) 1 121 := ⟨by decide +kernel, rfl⟩
theorem dd_Reader_readCondition_121 : pj_d cX3_readCondition 121 (.bipush (-9)) 2 123 := ⟨by decide +kernel, rfl⟩
theorem dd_Reader_readCondition_123 : pj_d cX3_readCondition 123 (.invokevirtual 131) 3 126 := ⟨by decide +kernel, rfl⟩
theorem dd_Reader_readCondition_126 : pj_d cX3_readCondition 126 (.iconst 1) 1 127 := ⟨by decide +kernel, rfl⟩
theorem dd_Reader_readCondition_127 : pj_d cX3_readCondition 127 (.ireturn) 1 128 := ⟨by decide +kernel, rfl⟩
set_option maxHeartbeats 4000000 in
set_option maxRecDepth 100000 in
theorem bt_Reader_readCondition_110 {lv0 : Nat} {B : pj_B} {A : Nat → Prop} {K : pj_K} {r0 : Int32} {z0 : pj_S} (hB : B.2.2.2.1 = pj_LC) (C : pj_C B A K cX3_readCondition 5 RX3 (lv0 + 1)) (Q : pj_Qi B A K (some .boolean) r0 z0) (hlv : 3 ≤ lv0) {sR : Int32 → pj_S → Option (Int32 × pj_S)} (hR : ∀ (v1 : Int32) (z : pj_S) (r : Int32) (z2 : pj_S), sR v1 z = some (r, z2) → pj_Mi K.2.1 yX3_readClause cX3_readClause 4 (some .boolean) lv0 [.ref (B.2.1 5), .int v1] B z r z2) (s14 : Int32 → Int32 → Int32 → pj_S → Option (Int32 × pj_S)) (k14 : ∀ (v1 : Int32) (v2 : Int32) (v3 : Int32) (z : pj_S) (H : Heap) (lo : List Loc) (ls : Array Slot), s14 v1 v2 v3 z = some (r0, z0) → pj_P B A K z H lo → lv_has ls 5 [(0, .ref (B.2.1 5)), (1, .int v1), (2, .int v2), (3, .int v3)] → pj_W K H lo 14 ls []) (v1 : Int32) (v2 : Int32) (v3 : Int32) (z : pj_S) (H : Heap) (lo : List Loc) (ls : Array Slot) (h : Reader_readCondition_110 sR s14 v1 v2 v3 z = some (r0, z0)) (P : pj_P B A K z H lo) (hl : lv_has ls 5 [(0, .ref (B.2.1 5)), (1, .int v1), (2, .int v2), (3, .int v3)]) : pj_W K H lo 110 ls [] := by
  unfold Reader_readCondition_110 at h
  refine pj_iinc (v := (nI 1)) [(0, .ref (B.2.1 5)), (1, .int v1), (2, .int v2)] C h rfl dd_Reader_readCondition_110 hl 3 rfl (by decide) rfl (fun x1 ls h hl => ?_)
  refine pj_goto C dd_Reader_readCondition_113 ?_
  exact k14 _ _ _ _ _ _ _ h P (lv_sub hl [1, 2, 3, 0] rfl)
set_option maxHeartbeats 4000000 in
set_option maxRecDepth 100000 in
theorem bt_Reader_readCondition_85 {lv0 : Nat} {B : pj_B} {A : Nat → Prop} {K : pj_K} {r0 : Int32} {z0 : pj_S} (hB : B.2.2.2.1 = pj_LC) (C : pj_C B A K cX3_readCondition 5 RX3 (lv0 + 1)) (Q : pj_Qi B A K (some .boolean) r0 z0) (hlv : 3 ≤ lv0) {sR : Int32 → pj_S → Option (Int32 × pj_S)} (hR : ∀ (v1 : Int32) (z : pj_S) (r : Int32) (z2 : pj_S), sR v1 z = some (r, z2) → pj_Mi K.2.1 yX3_readClause cX3_readClause 4 (some .boolean) lv0 [.ref (B.2.1 5), .int v1] B z r z2) (s14 : Int32 → Int32 → Int32 → pj_S → Option (Int32 × pj_S)) (k14 : ∀ (v1 : Int32) (v2 : Int32) (v3 : Int32) (z : pj_S) (H : Heap) (lo : List Loc) (ls : Array Slot), s14 v1 v2 v3 z = some (r0, z0) → pj_P B A K z H lo → lv_has ls 5 [(0, .ref (B.2.1 5)), (1, .int v1), (2, .int v2), (3, .int v3)] → pj_W K H lo 14 ls []) (v1 : Int32) (v3 : Int32) (v4 : Int32) (t0 : Int32) (t1 : Int32) (z : pj_S) (H : Heap) (lo : List Loc) (ls : Array Slot) (h : Reader_readCondition_85 sR s14 v1 v3 v4 t0 t1 z = some (r0, z0)) (P : pj_P B A K z H lo) (hl : lv_has ls 5 [(0, .ref (B.2.1 5)), (1, .int v1), (3, .int v3), (4, .int v4)]) : pj_W K H lo 85 ls [.int t0, .int t1] := by
  unfold Reader_readCondition_85 at h
  refine pj_ior C dd_Reader_readCondition_85 ?_
  refine pj_istb_n [(0, .ref (B.2.1 5)), (1, .int v1), (3, .int v3), (4, .int v4)] C h dd_Reader_readCondition_86 rfl hl (by decide) rfl (fun x1 ls h hl => ?_)
  refine pj_aload_n C dd_Reader_readCondition_87 rfl hl 1 rfl ?_
  refine pj_iload_n C dd_Reader_readCondition_88 rfl hl 2 rfl ?_
  obtain ⟨r4, z3, e2, h⟩ := pj_cE h
  refine pj_cVi (st := []) [.int v1] C P 5 (LC5 hB) rfl (hR _ _ _ _ e2) cl_Reader_138 rfl (by omega) (by decide) hl.1 (Nat.le_of_ble_eq_true rfl) dd_Reader_readCondition_89 (fun H lo P => ?_)
  refine pj_if_ne C h dd_Reader_readCondition_92 (fun h => ?_) (fun h => ?_)
  · refine pj_iload C dd_Reader_readCondition_97 hl 4 rfl ?_
    refine pj_bipush (v := (-8 : Int32)) C dd_Reader_readCondition_99 rfl ?_
    refine pj_ic_ne C h dd_Reader_readCondition_101 (fun h => ?_) (fun h => ?_)
    · exact bt_Reader_readCondition_110 hB C Q hlv hR s14 k14 _ _ _ _ _ _ _ h P (lv_sub hl [1, 2, 0, 3] rfl)
    · refine pj_aload_n C dd_Reader_readCondition_104 rfl hl 1 rfl ?_
      refine pj_bipush (v := (-8 : Int32)) C dd_Reader_readCondition_105 rfl ?_
      obtain ⟨r7, z6, e5, h⟩ := pj_cE h
      refine pj_cVv (st := []) [.int (-8 : Int32)] C P 5 (LC5 hB) rfl (ct_Reader_emit hB e5) cl_Reader_131 rfl (by omega) (by decide) hl.1 (Nat.le_of_ble_eq_true rfl) dd_Reader_readCondition_107 (fun H lo P => ?_)
      exact bt_Reader_readCondition_110 hB C Q hlv hR s14 k14 _ _ _ _ _ _ _ h P (lv_sub hl [1, 2, 0, 3] rfl)
  · refine pj_iconst (v := (nI 0)) C dd_Reader_readCondition_95 rfl ?_
    exact pj_zret C Q P h dd_Reader_readCondition_96
set_option maxHeartbeats 4000000 in
set_option maxRecDepth 100000 in
theorem bt_Reader_readCondition_72 {lv0 : Nat} {B : pj_B} {A : Nat → Prop} {K : pj_K} {r0 : Int32} {z0 : pj_S} (hB : B.2.2.2.1 = pj_LC) (C : pj_C B A K cX3_readCondition 5 RX3 (lv0 + 1)) (Q : pj_Qi B A K (some .boolean) r0 z0) (hlv : 3 ≤ lv0) {sR : Int32 → pj_S → Option (Int32 × pj_S)} (hR : ∀ (v1 : Int32) (z : pj_S) (r : Int32) (z2 : pj_S), sR v1 z = some (r, z2) → pj_Mi K.2.1 yX3_readClause cX3_readClause 4 (some .boolean) lv0 [.ref (B.2.1 5), .int v1] B z r z2) (s14 : Int32 → Int32 → Int32 → pj_S → Option (Int32 × pj_S)) (k14 : ∀ (v1 : Int32) (v2 : Int32) (v3 : Int32) (z : pj_S) (H : Heap) (lo : List Loc) (ls : Array Slot), s14 v1 v2 v3 z = some (r0, z0) → pj_P B A K z H lo → lv_has ls 5 [(0, .ref (B.2.1 5)), (1, .int v1), (2, .int v2), (3, .int v3)] → pj_W K H lo 14 ls []) (v1 : Int32) (v2 : Int32) (v3 : Int32) (v4 : Int32) (z : pj_S) (H : Heap) (lo : List Loc) (ls : Array Slot) (h : Reader_readCondition_72 sR s14 v1 v2 v3 v4 z = some (r0, z0)) (P : pj_P B A K z H lo) (hl : lv_has ls 5 [(0, .ref (B.2.1 5)), (1, .int v1), (2, .int v2), (3, .int v3), (4, .int v4)]) : pj_W K H lo 72 ls [] := by
  unfold Reader_readCondition_72 at h
  refine pj_iload_n C dd_Reader_readCondition_72 rfl hl 2 rfl ?_
  refine pj_iload C dd_Reader_readCondition_73 hl 4 rfl ?_
  refine pj_bipush (v := (-9 : Int32)) C dd_Reader_readCondition_75 rfl ?_
  refine pj_ic_ne C h dd_Reader_readCondition_77 (fun h => ?_) (fun h => ?_)
  · refine pj_iconst (v := (nI 0)) C dd_Reader_readCondition_84 rfl ?_
    exact bt_Reader_readCondition_85 hB C Q hlv hR s14 k14 _ _ _ _ _ _ _ _ _ h P (lv_sub hl [0, 1, 3, 4] rfl)
  · refine pj_iconst (v := (nI 1)) C dd_Reader_readCondition_80 rfl ?_
    refine pj_goto C dd_Reader_readCondition_81 ?_
    exact bt_Reader_readCondition_85 hB C Q hlv hR s14 k14 _ _ _ _ _ _ _ _ _ h P (lv_sub hl [0, 1, 3, 4] rfl)
set_option maxHeartbeats 4000000 in
set_option maxRecDepth 100000 in
theorem bt_Reader_readCondition_39 {lv0 : Nat} {B : pj_B} {A : Nat → Prop} {K : pj_K} {r0 : Int32} {z0 : pj_S} (hB : B.2.2.2.1 = pj_LC) (C : pj_C B A K cX3_readCondition 5 RX3 (lv0 + 1)) (Q : pj_Qi B A K (some .boolean) r0 z0) (hlv : 3 ≤ lv0) {sR : Int32 → pj_S → Option (Int32 × pj_S)} (hR : ∀ (v1 : Int32) (z : pj_S) (r : Int32) (z2 : pj_S), sR v1 z = some (r, z2) → pj_Mi K.2.1 yX3_readClause cX3_readClause 4 (some .boolean) lv0 [.ref (B.2.1 5), .int v1] B z r z2) (s14 : Int32 → Int32 → Int32 → pj_S → Option (Int32 × pj_S)) (k14 : ∀ (v1 : Int32) (v2 : Int32) (v3 : Int32) (z : pj_S) (H : Heap) (lo : List Loc) (ls : Array Slot), s14 v1 v2 v3 z = some (r0, z0) → pj_P B A K z H lo → lv_has ls 5 [(0, .ref (B.2.1 5)), (1, .int v1), (2, .int v2), (3, .int v3)] → pj_W K H lo 14 ls []) (v1 : Int32) (v2 : Int32) (v3 : Int32) (z : pj_S) (H : Heap) (lo : List Loc) (ls : Array Slot) (h : Reader_readCondition_39 sR s14 v1 v2 v3 z = some (r0, z0)) (P : pj_P B A K z H lo) (hl : lv_has ls 5 [(0, .ref (B.2.1 5)), (1, .int v1), (2, .int v2), (3, .int v3)]) : pj_W K H lo 39 ls [] := by
  unfold Reader_readCondition_39 at h
  refine pj_aload_n C dd_Reader_readCondition_39 rfl hl 0 rfl ?_
  obtain ⟨r3, z2, e1, h⟩ := pj_cE h
  refine pj_cVi (st := []) [] C P 5 (LC5 hB) rfl (ct_Reader_token hB e1) cl_Reader_44 rfl (by omega) (by decide) hl.1 (Nat.le_of_ble_eq_true rfl) dd_Reader_readCondition_40 (fun H lo P => ?_)
  refine pj_istore [(4, .int r3), (0, .ref (B.2.1 5)), (1, .int v1), (2, .int v2), (3, .int v3)] C dd_Reader_readCondition_43 hl (by decide) rfl (fun ls hl => ?_)
  refine pj_aload_n C dd_Reader_readCondition_45 rfl hl 1 rfl ?_
  refine pj_dup C dd_Reader_readCondition_46 rfl ?_
  refine pj_getI C P 5 (LC5 hB) rfl fl_Reader_31 dd_Reader_readCondition_47 ?_
  refine pj_iconst (v := (nI 1)) C dd_Reader_readCondition_50 rfl ?_
  refine pj_iadd C dd_Reader_readCondition_51 ?_
  refine pj_putI C P 5 (LC5 hB) rfl fl_Reader_31 rfl fy_3_5 h dd_Reader_readCondition_52 (fun H lo z4 h P => ?_)
  refine pj_iload C dd_Reader_readCondition_55 hl 0 rfl ?_
  refine pj_bipush (v := (-9 : Int32)) C dd_Reader_readCondition_57 rfl ?_
  refine pj_ic_ne C h dd_Reader_readCondition_59 (fun h => ?_) (fun h => ?_)
  · exact bt_Reader_readCondition_72 hB C Q hlv hR s14 k14 _ _ _ _ _ _ _ _ h P (lv_sub hl [1, 2, 3, 4, 0] rfl)
  · refine pj_iload_n C dd_Reader_readCondition_62 rfl hl 3 rfl ?_
    refine pj_if_eq C h dd_Reader_readCondition_63 (fun h => ?_) (fun h => ?_)
    · exact bt_Reader_readCondition_72 hB C Q hlv hR s14 k14 _ _ _ _ _ _ _ _ h P (lv_sub hl [1, 2, 3, 4, 0] rfl)
    · refine pj_aload_n C dd_Reader_readCondition_66 rfl hl 1 rfl ?_
      refine pj_bipush (v := (-9 : Int32)) C dd_Reader_readCondition_67 rfl ?_
      obtain ⟨r7, z6, e5, h⟩ := pj_cE h
      refine pj_cVv (st := []) [.int (-9 : Int32)] C P 5 (LC5 hB) rfl (ct_Reader_emit hB e5) cl_Reader_131 rfl (by omega) (by decide) hl.1 (Nat.le_of_ble_eq_true rfl) dd_Reader_readCondition_69 (fun H lo P => ?_)
      exact bt_Reader_readCondition_72 hB C Q hlv hR s14 k14 _ _ _ _ _ _ _ _ h P (lv_sub hl [1, 2, 3, 4, 0] rfl)
set_option maxHeartbeats 4000000 in
set_option maxRecDepth 100000 in
theorem bt_Reader_readCondition_116 {lv0 : Nat} {B : pj_B} {A : Nat → Prop} {K : pj_K} {r0 : Int32} {z0 : pj_S} (hB : B.2.2.2.1 = pj_LC) (C : pj_C B A K cX3_readCondition 5 RX3 (lv0 + 1)) (Q : pj_Qi B A K (some .boolean) r0 z0) (hlv : 3 ≤ lv0) {sR : Int32 → pj_S → Option (Int32 × pj_S)} (hR : ∀ (v1 : Int32) (z : pj_S) (r : Int32) (z2 : pj_S), sR v1 z = some (r, z2) → pj_Mi K.2.1 yX3_readClause cX3_readClause 4 (some .boolean) lv0 [.ref (B.2.1 5), .int v1] B z r z2)  (v2 : Int32) (z : pj_S) (H : Heap) (lo : List Loc) (ls : Array Slot) (h : Reader_readCondition_116 sR v2 z = some (r0, z0)) (P : pj_P B A K z H lo) (hl : lv_has ls 5 [(0, .ref (B.2.1 5)), (2, .int v2)]) : pj_W K H lo 116 ls [] := by
  unfold Reader_readCondition_116 at h
  refine pj_iload_n C dd_Reader_readCondition_116 rfl hl 1 rfl ?_
  refine pj_if_eq C h dd_Reader_readCondition_117 (fun h => ?_) (fun h => ?_)
  · refine pj_iconst (v := (nI 1)) C dd_Reader_readCondition_126 rfl ?_
    exact pj_zret C Q P h dd_Reader_readCondition_127
  · refine pj_aload_n C dd_Reader_readCondition_120 rfl hl 0 rfl ?_
    refine pj_bipush (v := (-9 : Int32)) C dd_Reader_readCondition_121 rfl ?_
    obtain ⟨r3, z2, e1, h⟩ := pj_cE h
    refine pj_cVv (st := []) [.int (-9 : Int32)] C P 5 (LC5 hB) rfl (ct_Reader_emit hB e1) cl_Reader_131 rfl (by omega) (by decide) hl.1 (Nat.le_of_ble_eq_true rfl) dd_Reader_readCondition_123 (fun H lo P => ?_)
    refine pj_iconst (v := (nI 1)) C dd_Reader_readCondition_126 rfl ?_
    exact pj_zret C Q P h dd_Reader_readCondition_127
set_option maxHeartbeats 4000000 in
set_option maxRecDepth 100000 in
theorem bt_Reader_readCondition_14 {lv0 : Nat} {B : pj_B} {A : Nat → Prop} {K : pj_K} {r0 : Int32} {z0 : pj_S} (hB : B.2.2.2.1 = pj_LC) (C : pj_C B A K cX3_readCondition 5 RX3 (lv0 + 1)) (Q : pj_Qi B A K (some .boolean) r0 z0) (hlv : 3 ≤ lv0) {sR : Int32 → pj_S → Option (Int32 × pj_S)} (hR : ∀ (v1 : Int32) (z : pj_S) (r : Int32) (z2 : pj_S), sR v1 z = some (r, z2) → pj_Mi K.2.1 yX3_readClause cX3_readClause 4 (some .boolean) lv0 [.ref (B.2.1 5), .int v1] B z r z2) (s14 : Int32 → Int32 → Int32 → pj_S → Option (Int32 × pj_S)) (k14 : ∀ (v1 : Int32) (v2 : Int32) (v3 : Int32) (z : pj_S) (H : Heap) (lo : List Loc) (ls : Array Slot), s14 v1 v2 v3 z = some (r0, z0) → pj_P B A K z H lo → lv_has ls 5 [(0, .ref (B.2.1 5)), (1, .int v1), (2, .int v2), (3, .int v3)] → pj_W K H lo 14 ls []) (v1 : Int32) (v2 : Int32) (v3 : Int32) (z : pj_S) (H : Heap) (lo : List Loc) (ls : Array Slot) (h : Reader_readCondition_14 sR s14 v1 v2 v3 z = some (r0, z0)) (P : pj_P B A K z H lo) (hl : lv_has ls 5 [(0, .ref (B.2.1 5)), (1, .int v1), (2, .int v2), (3, .int v3)]) : pj_W K H lo 14 ls [] := by
  unfold Reader_readCondition_14 at h
  refine pj_iload_n C dd_Reader_readCondition_14 rfl hl 3 rfl ?_
  refine pj_sipush (v := (nI 400)) C dd_Reader_readCondition_15 rfl ?_
  refine pj_ic_gt C h dd_Reader_readCondition_18 (fun h => ?_) (fun h => ?_)
  · exact bt_Reader_readCondition_116 hB C Q hlv hR _ _ _ _ _ h P (lv_sub hl [0, 2] rfl)
  · refine pj_aload_n C dd_Reader_readCondition_21 rfl hl 0 rfl ?_
    obtain ⟨r3, z2, e1, h⟩ := pj_cE h
    refine pj_cVi (st := []) [] C P 5 (LC5 hB) rfl (ct_Reader_token hB e1) cl_Reader_44 rfl (by omega) (by decide) hl.1 (Nat.le_of_ble_eq_true rfl) dd_Reader_readCondition_22 (fun H lo P => ?_)
    refine pj_bipush (v := (-8 : Int32)) C dd_Reader_readCondition_25 rfl ?_
    refine pj_ic_eq C h dd_Reader_readCondition_27 (fun h => ?_) (fun h => ?_)
    · exact bt_Reader_readCondition_39 hB C Q hlv hR s14 k14 _ _ _ _ _ _ _ h P (lv_sub hl [0, 1, 2, 3] rfl)
    · refine pj_aload_n C dd_Reader_readCondition_30 rfl hl 0 rfl ?_
      obtain ⟨r6, z5, e4, h⟩ := pj_cE h
      refine pj_cVi (st := []) [] C P 5 (LC5 hB) rfl (ct_Reader_token hB e4) cl_Reader_44 rfl (by omega) (by decide) hl.1 (Nat.le_of_ble_eq_true rfl) dd_Reader_readCondition_31 (fun H lo P => ?_)
      refine pj_bipush (v := (-9 : Int32)) C dd_Reader_readCondition_34 rfl ?_
      refine pj_ic_ne C h dd_Reader_readCondition_36 (fun h => ?_) (fun h => ?_)
      · exact bt_Reader_readCondition_116 hB C Q hlv hR _ _ _ _ _ h P (lv_sub hl [0, 2] rfl)
      · exact bt_Reader_readCondition_39 hB C Q hlv hR s14 k14 _ _ _ _ _ _ _ h P (lv_sub hl [0, 1, 2, 3] rfl)
theorem lt_Reader_readCondition_14 {lv0 : Nat} {B : pj_B} {A : Nat → Prop} {K : pj_K} {r0 : Int32} {z0 : pj_S} (hB : B.2.2.2.1 = pj_LC) (C : pj_C B A K cX3_readCondition 5 RX3 (lv0 + 1)) (Q : pj_Qi B A K (some .boolean) r0 z0) (hlv : 3 ≤ lv0) {sR : Int32 → pj_S → Option (Int32 × pj_S)} (hR : ∀ (v1 : Int32) (z : pj_S) (r : Int32) (z2 : pj_S), sR v1 z = some (r, z2) → pj_Mi K.2.1 yX3_readClause cX3_readClause 4 (some .boolean) lv0 [.ref (B.2.1 5), .int v1] B z r z2)  : ∀ (n : Nat) (v1 : Int32) (v2 : Int32) (v3 : Int32) (z : pj_S) (H : Heap) (lo : List Loc) (ls : Array Slot), pj_lp3 (Reader_readCondition_14 sR) n v1 v2 v3 z = some (r0, z0) → pj_P B A K z H lo → lv_has ls 5 [(0, .ref (B.2.1 5)), (1, .int v1), (2, .int v2), (3, .int v3)] → pj_W K H lo 14 ls [] := by
  intro n
  induction n with
  | zero => intro v1 v2 v3 z H lo ls h; rw [pj_lp3_0] at h; cases h
  | succ n ih =>
    intro v1 v2 v3 z H lo ls h P hl
    rw [pj_lp3_s] at h
    exact bt_Reader_readCondition_14 hB C Q hlv hR  (pj_lp3 (Reader_readCondition_14 sR) n) ih v1 v2 v3 z H lo ls h P hl
set_option maxHeartbeats 4000000 in
set_option maxRecDepth 100000 in
theorem ct_Reader_readCondition {l : Launch} {B : pj_B} (hB : B.2.2.2.1 = pj_LC) {lv0 : Nat} (hlv : 3 ≤ lv0) {sR : Int32 → pj_S → Option (Int32 × pj_S)} (hR : ∀ (v1 : Int32) (z : pj_S) (r : Int32) (z2 : pj_S), sR v1 z = some (r, z2) → pj_Mi l yX3_readClause cX3_readClause 4 (some .boolean) lv0 [.ref (B.2.1 5), .int v1] B z r z2) {v1 : Int32} {z : pj_S} {r0 : Int32} {z0 : pj_S} (h : Reader_readCondition sR v1 z = some (r0, z0)) : pj_Mi l yX3_readCondition cX3_readCondition 5 (some .boolean) (lv0 + 1) [.ref (B.2.1 5), .int v1] B z r0 z0 := by
  refine pj_meti (own := RX3) (by decide +kernel) rfl (Nat.le_of_ble_eq_true rfl) ?_
  intro A K hK C Q H lo ls P hl
  subst hK
  have hl : lv_has ls 5 [(0, .ref (B.2.1 5)), (1, .int v1)] := hl
  unfold Reader_readCondition at h
  refine pj_aload_n C dd_Reader_readCondition_0 rfl hl 0 rfl ?_
  refine pj_iload_n C dd_Reader_readCondition_1 rfl hl 1 rfl ?_
  obtain ⟨r3, z2, e1, h⟩ := pj_cE h
  refine pj_cVi (st := []) [.int v1] C P 5 (LC5 hB) rfl (hR _ _ _ _ e1) cl_Reader_138 rfl (by omega) (by decide) hl.1 (Nat.le_of_ble_eq_true rfl) dd_Reader_readCondition_2 (fun H lo P => ?_)
  refine pj_if_ne C h dd_Reader_readCondition_5 (fun h => ?_) (fun h => ?_)
  · refine pj_iconst (v := (nI 0)) C dd_Reader_readCondition_10 rfl ?_
    refine pj_istore_n [(2, .int (nI 0)), (0, .ref (B.2.1 5)), (1, .int v1)] C dd_Reader_readCondition_11 rfl hl (by decide) rfl (fun ls hl => ?_)
    refine pj_iconst (v := (nI 0)) C dd_Reader_readCondition_12 rfl ?_
    refine pj_istore_n [(3, .int (nI 0)), (2, .int (nI 0)), (0, .ref (B.2.1 5)), (1, .int v1)] C dd_Reader_readCondition_13 rfl hl (by decide) rfl (fun ls hl => ?_)
    exact lt_Reader_readCondition_14 hB C Q hlv hR 4000 _ _ _ _ _ _ _ h P (lv_sub hl [2, 3, 1, 0] rfl)
  · refine pj_iconst (v := (nI 0)) C dd_Reader_readCondition_8 rfl ?_
    exact pj_zret C Q P h dd_Reader_readCondition_9
theorem dd_Reader_readClause_0 : pj_d cX3_readClause 0 (.aload_n 0) 1 1 := ⟨by decide +kernel, rfl⟩
theorem dd_Reader_readClause_1 : pj_d cX3_readClause 1 (.invokevirtual 44) 3 4 := ⟨by decide +kernel, rfl⟩
theorem dd_Reader_readClause_4 : pj_d cX3_readClause 4 (.istore_n 2) 1 5 := ⟨by decide +kernel, rfl⟩
theorem dd_Reader_readClause_5 : pj_d cX3_readClause 5 (.iload_n 2) 1 6 := ⟨by decide +kernel, rfl⟩
theorem dd_Reader_readClause_6 : pj_d cX3_readClause 6 (.bipush 40) 2 8 := ⟨by decide +kernel, rfl⟩
theorem dd_Reader_readClause_8 : pj_dj cX3_readClause 8 (.if_icmp .eq 9) 9 11 17 := ⟨by decide +kernel, rfl, by decide⟩
theorem dd_Reader_readClause_11 : pj_d cX3_readClause 11 (.iload_n 2) 1 12 := ⟨by decide +kernel, rfl⟩
theorem dd_Reader_readClause_12 : pj_d cX3_readClause 12 (.bipush (-10)) 2 14 := ⟨by decide +kernel, rfl⟩
theorem dd_Reader_readClause_14 : pj_dj cX3_readClause 14 (.if_icmp .ne 76) 76 17 90 := ⟨by decide +kernel, rfl, by decide⟩
theorem dd_Reader_readClause_17 : pj_d cX3_readClause 17 (.iload_n 1) 1 18 := ⟨by decide +kernel, rfl⟩
theorem dd_Reader_readClause_18 : pj_d cX3_readClause 18 (.bipush 8) 2 20 := ⟨by decide +kernel, rfl⟩
theorem dd_Reader_readClause_20 : pj_dj cX3_readClause 20 (.if_icmp .lt 9) 9 23 29 := ⟨by decide +kernel, rfl, by decide⟩
theorem dd_Reader_readClause_23 : pj_d cX3_readClause 23 (.aload_n 0) 1 24 := ⟨by decide +kernel, rfl⟩
theorem dd_Reader_readClause_24 : pj_d cX3_readClause 24 (.iconst 3) 1 25 := ⟨by decide +kernel, rfl⟩
theorem dd_Reader_readClause_25 : pj_d cX3_readClause 25 (.invokevirtual 122) 3 28 := ⟨by decide +kernel, rfl⟩
theorem dd_Reader_readClause_28 : pj_d cX3_readClause 28 (.ireturn) 1 29 := ⟨by decide +kernel, rfl⟩
theorem dd_Reader_readClause_29 : pj_d cX3_readClause 29 (.aload_n 0) 1 30 := ⟨by decide +kernel, rfl⟩
theorem dd_Reader_readClause_30 : pj_d cX3_readClause 30 (.dup) 1 31 := ⟨by decide +kernel, rfl⟩
theorem dd_Reader_readClause_31 : pj_d cX3_readClause 31 (.getfield 31) 3 34 := ⟨by decide +kernel, rfl⟩
theorem dd_Reader_readClause_34 : pj_d cX3_readClause 34 (.iconst 1) 1 35 := ⟨by decide +kernel, rfl⟩
theorem dd_Reader_readClause_35 : pj_d cX3_readClause 35 (.iadd) 1 36 := ⟨by decide +kernel, rfl⟩
theorem dd_Reader_readClause_36 : pj_d cX3_readClause 36 (.putfield 31) 3 39 := ⟨by decide +kernel, rfl⟩
theorem dd_Reader_readClause_39 : pj_d cX3_readClause 39 (.iload_n 2) 1 40 := ⟨by decide +kernel, rfl⟩
theorem dd_Reader_readClause_40 : pj_d cX3_readClause 40 (.bipush 40) 2 42 := ⟨by decide +kernel, rfl⟩
theorem dd_Reader_readClause_42 : pj_dj cX3_readClause 42 (.if_icmp .ne 28) 28 45 70 := ⟨by decide +kernel, rfl, by decide⟩
theorem dd_Reader_readClause_45 : pj_d cX3_readClause 45 (.aload_n 0) 1 46 := ⟨by decide +kernel, rfl⟩
theorem dd_Reader_readClause_46 : pj_d cX3_readClause 46 (.iload_n 1) 1 47 := ⟨by decide +kernel, rfl⟩
theorem dd_Reader_readClause_47 : pj_d cX3_readClause 47 (.iconst 1) 1 48 := ⟨by decide +kernel, rfl⟩
theorem dd_Reader_readClause_48 : pj_d cX3_readClause 48 (.iadd) 1 49 := ⟨by decide +kernel, rfl⟩
theorem dd_Reader_readClause_49 : pj_d cX3_readClause 49 (.invokevirtual 128) 3 52 := ⟨by decide +kernel, rfl⟩
theorem dd_Reader_readClause_52 : pj_dj cX3_readClause 52 (.ifCond .eq 16) 16 55 68 := ⟨by decide +kernel, rfl, by decide⟩
theorem dd_Reader_readClause_55 : pj_d cX3_readClause 55 (.aload_n 0) 1 56 := ⟨by decide +kernel, rfl⟩
theorem dd_Reader_readClause_56 : pj_d cX3_readClause 56 (.bipush 41) 2 58 := ⟨by decide +kernel, rfl⟩
theorem dd_Reader_readClause_58 : pj_d cX3_readClause 58 (.invokevirtual 135) 3 61 := ⟨by decide +kernel, rfl⟩
theorem dd_Reader_readClause_61 : pj_dj cX3_readClause 61 (.ifCond .eq 7) 7 64 68 := ⟨by decide +kernel, rfl, by decide⟩
theorem dd_Reader_readClause_64 : pj_d cX3_readClause 64 (.iconst 1) 1 65 := ⟨by decide +kernel, rfl⟩
theorem dd_Reader_readClause_65 : pj_dj cX3_readClause 65 (.goto 4) 4 68 69 := ⟨by decide +kernel, rfl, by decide⟩
theorem dd_Reader_readClause_68 : pj_d cX3_readClause 68 (.iconst 0) 1 69 := ⟨by decide +kernel, rfl⟩
theorem dd_Reader_readClause_69 : pj_d cX3_readClause 69 (.ireturn) 1 70 := ⟨by decide +kernel, rfl⟩
theorem dd_Reader_readClause_70 : pj_d cX3_readClause 70 (.aload_n 0) 1 71 := ⟨by decide +kernel, rfl⟩
theorem dd_Reader_readClause_71 : pj_d cX3_readClause 71 (.iload_n 1) 1 72 := ⟨by decide +kernel, rfl⟩
theorem dd_Reader_readClause_72 : pj_d cX3_readClause 72 (.iconst 1) 1 73 := ⟨by decide +kernel, rfl⟩
theorem dd_Reader_readClause_73 : pj_d cX3_readClause 73 (.iadd) 1 74 := ⟨by decide +kernel, rfl⟩
theorem dd_Reader_readClause_74 : pj_d cX3_readClause 74 (.invokevirtual 138) 3 77 := ⟨by decide +kernel, rfl⟩
theorem dd_Reader_readClause_77 : pj_dj cX3_readClause 77 (.ifCond .ne 5) 5 80 82 := ⟨by decide +kernel, rfl, by decide⟩
theorem dd_Reader_readClause_80 : pj_d cX3_readClause 80 (.iconst 0) 1 81 := ⟨by decide +kernel, rfl⟩
theorem dd_Reader_readClause_81 : pj_d cX3_readClause 81 (.ireturn) 1 82 := ⟨by decide +kernel, rfl⟩
theorem dd_Reader_readClause_82 : pj_d cX3_readClause 82 (.aload_n 0) 1 83 := ⟨by decide +kernel, rfl⟩
theorem dd_Reader_readClause_83 : pj_d cX3_readClause 83 (.bipush (-10)) 2 85 := ⟨by decide +kernel, rfl⟩
theorem dd_Reader_readClause_85 : pj_d cX3_readClause 85 (.invokevirtual 131) 3 88 := ⟨by decide +kernel, rfl⟩
theorem dd_Reader_readClause_88 : pj_d cX3_readClause 88 (.iconst 1) 1 89 := ⟨by decide +kernel, rfl⟩
theorem dd_Reader_readClause_89 : pj_d cX3_readClause 89 (.ireturn) 1 90 := ⟨by decide +kernel, rfl⟩
theorem dd_Reader_readClause_90 : pj_d cX3_readClause 90 (.aload_n 0) 1 91 := ⟨by decide +kernel, rfl⟩
theorem dd_Reader_readClause_91 : pj_d cX3_readClause 91 (.invokevirtual 125) 3 94 := ⟨by decide +kernel, rfl⟩
theorem dd_Reader_readClause_94 : pj_dj cX3_readClause 94 (.ifCond .ne 5) 5 97 99 := ⟨by decide +kernel, rfl, by decide⟩
theorem dd_Reader_readClause_97 : pj_d cX3_readClause 97 (.iconst 0) 1 98 := ⟨by decide +kernel, rfl⟩
theorem dd_Reader_readClause_98 : pj_d cX3_readClause 98 (.ireturn) 1 99 := ⟨by decide +kernel, rfl⟩
theorem dd_Reader_readClause_99 : pj_d cX3_readClause 99 (.aload_n 0) 1 100 := ⟨by decide +kernel, rfl⟩
theorem dd_Reader_readClause_100 : pj_d cX3_readClause 100 (.invokevirtual 44) 3 103 := ⟨by decide +kernel, rfl⟩
theorem dd_Reader_readClause_103 : pj_d cX3_readClause 103 (.istore_n 3) 1 104 := ⟨by decide +kernel, rfl⟩
theorem dd_Reader_readClause_104 : pj_d cX3_readClause 104 (.iload_n 3) 1 105 := ⟨by decide +kernel, rfl⟩
theorem dd_Reader_readClause_105 : pj_d cX3_readClause 105 (.bipush 60) 2 107 := ⟨by decide +kernel, rfl⟩
theorem dd_Reader_readClause_107 : pj_dj cX3_readClause 107 (.if_icmp .eq 21) 21 110 128 := ⟨by decide +kernel, rfl, by decide⟩
theorem dd_Reader_readClause_110 : pj_d cX3_readClause 110 (.iload_n 3) 1 111 := ⟨by decide +kernel, rfl⟩
theorem dd_Reader_readClause_111 : pj_d cX3_readClause 111 (.bipush 61) 2 113 := ⟨by decide +kernel, rfl⟩
theorem dd_Reader_readClause_113 : pj_dj cX3_readClause 113 (.if_icmp .eq 15) 15 116 128 := ⟨by decide +kernel, rfl, by decide⟩
theorem dd_Reader_readClause_116 : pj_d cX3_readClause 116 (.iload_n 3) 1 117 := ⟨by decide +kernel, rfl⟩
theorem dd_Reader_readClause_117 : pj_d cX3_readClause 117 (.bipush 62) 2 119 := ⟨by decide +kernel, rfl⟩
theorem dd_Reader_readClause_119 : pj_dj cX3_readClause 119 (.if_icmp .eq 9) 9 122 128 := ⟨by decide +kernel, rfl, by decide⟩
theorem dd_Reader_readClause_122 : pj_d cX3_readClause 122 (.aload_n 0) 1 123 := ⟨by decide +kernel, rfl⟩
theorem dd_Reader_readClause_123 : pj_d cX3_readClause 123 (.iconst 1) 1 124 := ⟨by decide +kernel, rfl⟩
theorem dd_Reader_readClause_124 : pj_d cX3_readClause 124 (.invokevirtual 122) 3 127 := ⟨by decide +kernel, rfl⟩
theorem dd_Reader_readClause_127 : pj_d cX3_readClause 127 (.ireturn) 1 128 := ⟨by decide +kernel, rfl⟩
theorem dd_Reader_readClause_128 : pj_d cX3_readClause 128 (.aload_n 0) 1 129 := ⟨by decide +kernel, rfl⟩
theorem dd_Reader_readClause_129 : pj_d cX3_readClause 129 (.dup) 1 130 := ⟨by decide +kernel, rfl⟩
theorem dd_Reader_readClause_130 : pj_d cX3_readClause 130 (.getfield 31) 3 133 := ⟨by decide +kernel, rfl⟩
theorem dd_Reader_readClause_133 : pj_d cX3_readClause 133 (.iconst 1) 1 134 := ⟨by decide +kernel, rfl⟩
theorem dd_Reader_readClause_134 : pj_d cX3_readClause 134 (.iadd) 1 135 := ⟨by decide +kernel, rfl⟩
theorem dd_Reader_readClause_135 : pj_d cX3_readClause 135 (.putfield 31) 3 138 := ⟨by decide +kernel, rfl⟩
theorem dd_Reader_readClause_138 : pj_d cX3_readClause 138 (.aload_n 0) 1 139 := ⟨by decide +kernel, rfl⟩
theorem dd_Reader_readClause_139 : pj_d cX3_readClause 139 (.invokevirtual 125) 3 142 := ⟨by decide +kernel, rfl⟩
theorem dd_Reader_readClause_142 : pj_dj cX3_readClause 142 (.ifCond .ne 5) 5 145 147 := ⟨by decide +kernel, rfl, by decide⟩
theorem dd_Reader_readClause_145 : pj_d cX3_readClause 145 (.iconst 0) 1 146 := ⟨by decide +kernel, rfl⟩
theorem dd_Reader_readClause_146 : pj_d cX3_readClause 146 (.ireturn) 1 147 := ⟨by decide +kernel, rfl⟩
theorem dd_Reader_readClause_147 : pj_d cX3_readClause 147 (.aload_n 0) 1 148 := ⟨by decide +kernel, rfl⟩
theorem dd_Reader_readClause_148 : pj_d cX3_readClause 148 (.iload_n 3) 1 149 := ⟨by decide +kernel, rfl⟩
theorem dd_Reader_readClause_149 : pj_d cX3_readClause 149 (.bipush 60) 2 151 := ⟨by decide +kernel, rfl⟩
theorem dd_Reader_readClause_151 : pj_dj cX3_readClause 151 (.if_icmp .ne 8) 8 154 159 := ⟨by decide +kernel, rfl, by decide⟩
theorem dd_Reader_readClause_154 : pj_d cX3_readClause 154 (.bipush (-5)) 2 156 := ⟨by decide +kernel, rfl⟩
theorem dd_Reader_readClause_156 : pj_dj cX3_readClause 156 (.goto 16) 16 159 172 := ⟨by decide +kernel, rfl, by decide⟩
theorem dd_Reader_readClause_159 : pj_d cX3_readClause 159 (.iload_n 3) 1 160 := ⟨by decide +kernel, rfl⟩
theorem dd_Reader_readClause_160 : pj_d cX3_readClause 160 (.bipush 61) 2 162 := ⟨by decide +kernel, rfl⟩
theorem dd_Reader_readClause_162 : pj_dj cX3_readClause 162 (.if_icmp .ne 8) 8 165 170 := ⟨by decide +kernel, rfl, by decide⟩
theorem dd_Reader_readClause_165 : pj_d cX3_readClause 165 (.bipush (-6)) 2 167 := ⟨by decide +kernel, rfl⟩
theorem dd_Reader_readClause_167 : pj_dj cX3_readClause 167 (.goto 5) 5 170 172 := ⟨by decide +kernel, rfl, by decide⟩
theorem dd_Reader_readClause_170 : pj_d cX3_readClause 170 (.bipush (-7)) 2 172 := ⟨by decide +kernel, rfl⟩
theorem dd_Reader_readClause_172 : pj_d cX3_readClause 172 (.invokevirtual 131) 3 175 := ⟨by decide +kernel, rfl⟩
theorem dd_Reader_readClause_175 : pj_d cX3_readClause 175 (.iconst 1) 1 176 := ⟨by decide +kernel, rfl⟩
theorem dd_Reader_readClause_176 : pj_d cX3_readClause 176 (.ireturn) 1 177 := ⟨by decide +kernel, rfl⟩
set_option maxHeartbeats 4000000 in
set_option maxRecDepth 100000 in
theorem bt_Reader_readClause_17 {lv0 : Nat} {B : pj_B} {A : Nat → Prop} {K : pj_K} {r0 : Int32} {z0 : pj_S} (hB : B.2.2.2.1 = pj_LC) (C : pj_C B A K cX3_readClause 4 RX3 (lv0 + 2)) (Q : pj_Qi B A K (some .boolean) r0 z0) (hlv : 3 ≤ lv0) {sR : Int32 → pj_S → Option (Int32 × pj_S)} (hR : ∀ (v1 : Int32) (z : pj_S) (r : Int32) (z2 : pj_S), sR v1 z = some (r, z2) → pj_Mi K.2.1 yX3_readClause cX3_readClause 4 (some .boolean) lv0 [.ref (B.2.1 5), .int v1] B z r z2)  (v1 : Int32) (v2 : Int32) (z : pj_S) (H : Heap) (lo : List Loc) (ls : Array Slot) (h : Reader_readClause_17 sR v1 v2 z = some (r0, z0)) (P : pj_P B A K z H lo) (hl : lv_has ls 4 [(0, .ref (B.2.1 5)), (1, .int v1), (2, .int v2)]) : pj_W K H lo 17 ls [] := by
  unfold Reader_readClause_17 at h
  refine pj_iload_n C dd_Reader_readClause_17 rfl hl 1 rfl ?_
  refine pj_bipush (v := (nI 8)) C dd_Reader_readClause_18 rfl ?_
  refine pj_ic_lt C h dd_Reader_readClause_20 (fun h => ?_) (fun h => ?_)
  · refine pj_aload_n C dd_Reader_readClause_29 rfl hl 0 rfl ?_
    refine pj_dup C dd_Reader_readClause_30 rfl ?_
    refine pj_getI C P 5 (LC5 hB) rfl fl_Reader_31 dd_Reader_readClause_31 ?_
    refine pj_iconst (v := (nI 1)) C dd_Reader_readClause_34 rfl ?_
    refine pj_iadd C dd_Reader_readClause_35 ?_
    refine pj_putI C P 5 (LC5 hB) rfl fl_Reader_31 rfl fy_3_5 h dd_Reader_readClause_36 (fun H lo z1 h P => ?_)
    refine pj_iload_n C dd_Reader_readClause_39 rfl hl 2 rfl ?_
    refine pj_bipush (v := (nI 40)) C dd_Reader_readClause_40 rfl ?_
    refine pj_ic_ne C h dd_Reader_readClause_42 (fun h => ?_) (fun h => ?_)
    · refine pj_aload_n C dd_Reader_readClause_70 rfl hl 0 rfl ?_
      refine pj_iload_n C dd_Reader_readClause_71 rfl hl 1 rfl ?_
      refine pj_iconst (v := (nI 1)) C dd_Reader_readClause_72 rfl ?_
      refine pj_iadd C dd_Reader_readClause_73 ?_
      obtain ⟨r4, z3, e2, h⟩ := pj_cE h
      refine pj_cVi (st := []) [.int (v1 + (nI 1))] C P 5 (LC5 hB) rfl (hR _ _ _ _ e2) cl_Reader_138 rfl (by omega) (by decide) hl.1 (Nat.le_of_ble_eq_true rfl) dd_Reader_readClause_74 (fun H lo P => ?_)
      refine pj_if_ne C h dd_Reader_readClause_77 (fun h => ?_) (fun h => ?_)
      · refine pj_aload_n C dd_Reader_readClause_82 rfl hl 0 rfl ?_
        refine pj_bipush (v := (-10 : Int32)) C dd_Reader_readClause_83 rfl ?_
        obtain ⟨r7, z6, e5, h⟩ := pj_cE h
        refine pj_cVv (st := []) [.int (-10 : Int32)] C P 5 (LC5 hB) rfl (ct_Reader_emit hB e5) cl_Reader_131 rfl (by omega) (by decide) hl.1 (Nat.le_of_ble_eq_true rfl) dd_Reader_readClause_85 (fun H lo P => ?_)
        refine pj_iconst (v := (nI 1)) C dd_Reader_readClause_88 rfl ?_
        exact pj_zret C Q P h dd_Reader_readClause_89
      · refine pj_iconst (v := (nI 0)) C dd_Reader_readClause_80 rfl ?_
        exact pj_zret C Q P h dd_Reader_readClause_81
    · refine pj_aload_n C dd_Reader_readClause_45 rfl hl 0 rfl ?_
      refine pj_iload_n C dd_Reader_readClause_46 rfl hl 1 rfl ?_
      refine pj_iconst (v := (nI 1)) C dd_Reader_readClause_47 rfl ?_
      refine pj_iadd C dd_Reader_readClause_48 ?_
      obtain ⟨r10, z9, e8, h⟩ := pj_cE h
      refine pj_cVi (st := []) [.int (v1 + (nI 1))] C P 5 (LC5 hB) rfl (ct_Reader_readCondition hB hlv hR e8) cl_Reader_128 rfl (by omega) (by decide) hl.1 (Nat.le_of_ble_eq_true rfl) dd_Reader_readClause_49 (fun H lo P => ?_)
      refine pj_if_eq C h dd_Reader_readClause_52 (fun h => ?_) (fun h => ?_)
      · refine pj_iconst (v := (nI 0)) C dd_Reader_readClause_68 rfl ?_
        exact pj_zret C Q P h dd_Reader_readClause_69
      · refine pj_aload_n C dd_Reader_readClause_55 rfl hl 0 rfl ?_
        refine pj_bipush (v := (nI 41)) C dd_Reader_readClause_56 rfl ?_
        obtain ⟨r13, z12, e11, h⟩ := pj_cE h
        refine pj_cVi (st := []) [.int (nI 41)] C P 5 (LC5 hB) rfl (ct_Reader_readSign hB e11) cl_Reader_135 rfl (by omega) (by decide) hl.1 (Nat.le_of_ble_eq_true rfl) dd_Reader_readClause_58 (fun H lo P => ?_)
        refine pj_if_eq C h dd_Reader_readClause_61 (fun h => ?_) (fun h => ?_)
        · refine pj_iconst (v := (nI 0)) C dd_Reader_readClause_68 rfl ?_
          exact pj_zret C Q P h dd_Reader_readClause_69
        · refine pj_iconst (v := (nI 1)) C dd_Reader_readClause_64 rfl ?_
          refine pj_goto C dd_Reader_readClause_65 ?_
          exact pj_zret C Q P h dd_Reader_readClause_69
  · refine pj_aload_n C dd_Reader_readClause_23 rfl hl 0 rfl ?_
    refine pj_iconst (v := (nI 3)) C dd_Reader_readClause_24 rfl ?_
    obtain ⟨r16, z15, e14, h⟩ := pj_cE h
    refine pj_cVi (st := []) [.int (nI 3)] C P 5 (LC5 hB) rfl (ct_Reader_fails hB e14) cl_Reader_122 rfl (by omega) (by decide) hl.1 (Nat.le_of_ble_eq_true rfl) dd_Reader_readClause_25 (fun H lo P => ?_)
    exact pj_zret C Q P h dd_Reader_readClause_28
set_option maxHeartbeats 4000000 in
set_option maxRecDepth 100000 in
theorem bt_Reader_readClause_172 {lv0 : Nat} {B : pj_B} {A : Nat → Prop} {K : pj_K} {r0 : Int32} {z0 : pj_S} (hB : B.2.2.2.1 = pj_LC) (C : pj_C B A K cX3_readClause 4 RX3 (lv0 + 2)) (Q : pj_Qi B A K (some .boolean) r0 z0) (hlv : 3 ≤ lv0) {sR : Int32 → pj_S → Option (Int32 × pj_S)} (hR : ∀ (v1 : Int32) (z : pj_S) (r : Int32) (z2 : pj_S), sR v1 z = some (r, z2) → pj_Mi K.2.1 yX3_readClause cX3_readClause 4 (some .boolean) lv0 [.ref (B.2.1 5), .int v1] B z r z2)  (t0 : Int32) (z : pj_S) (H : Heap) (lo : List Loc) (ls : Array Slot) (h : Reader_readClause_172 sR t0 z = some (r0, z0)) (P : pj_P B A K z H lo) (hl : lv_has ls 4 []) : pj_W K H lo 172 ls [.int t0, .ref (B.2.1 5)] := by
  unfold Reader_readClause_172 at h
  obtain ⟨r3, z2, e1, h⟩ := pj_cE h
  refine pj_cVv (st := []) [.int t0] C P 5 (LC5 hB) rfl (ct_Reader_emit hB e1) cl_Reader_131 rfl (by omega) (by decide) hl.1 (Nat.le_of_ble_eq_true rfl) dd_Reader_readClause_172 (fun H lo P => ?_)
  refine pj_iconst (v := (nI 1)) C dd_Reader_readClause_175 rfl ?_
  exact pj_zret C Q P h dd_Reader_readClause_176
set_option maxHeartbeats 4000000 in
set_option maxRecDepth 100000 in
theorem bt_Reader_readClause_128 {lv0 : Nat} {B : pj_B} {A : Nat → Prop} {K : pj_K} {r0 : Int32} {z0 : pj_S} (hB : B.2.2.2.1 = pj_LC) (C : pj_C B A K cX3_readClause 4 RX3 (lv0 + 2)) (Q : pj_Qi B A K (some .boolean) r0 z0) (hlv : 3 ≤ lv0) {sR : Int32 → pj_S → Option (Int32 × pj_S)} (hR : ∀ (v1 : Int32) (z : pj_S) (r : Int32) (z2 : pj_S), sR v1 z = some (r, z2) → pj_Mi K.2.1 yX3_readClause cX3_readClause 4 (some .boolean) lv0 [.ref (B.2.1 5), .int v1] B z r z2)  (v3 : Int32) (z : pj_S) (H : Heap) (lo : List Loc) (ls : Array Slot) (h : Reader_readClause_128 sR v3 z = some (r0, z0)) (P : pj_P B A K z H lo) (hl : lv_has ls 4 [(0, .ref (B.2.1 5)), (3, .int v3)]) : pj_W K H lo 128 ls [] := by
  unfold Reader_readClause_128 at h
  refine pj_aload_n C dd_Reader_readClause_128 rfl hl 0 rfl ?_
  refine pj_dup C dd_Reader_readClause_129 rfl ?_
  refine pj_getI C P 5 (LC5 hB) rfl fl_Reader_31 dd_Reader_readClause_130 ?_
  refine pj_iconst (v := (nI 1)) C dd_Reader_readClause_133 rfl ?_
  refine pj_iadd C dd_Reader_readClause_134 ?_
  refine pj_putI C P 5 (LC5 hB) rfl fl_Reader_31 rfl fy_3_5 h dd_Reader_readClause_135 (fun H lo z1 h P => ?_)
  refine pj_aload_n C dd_Reader_readClause_138 rfl hl 0 rfl ?_
  obtain ⟨r4, z3, e2, h⟩ := pj_cE h
  refine pj_cVi (st := []) [] C P 5 (LC5 hB) rfl (ct_Reader_readSum hB e2) cl_Reader_125 rfl (by omega) (by decide) hl.1 (Nat.le_of_ble_eq_true rfl) dd_Reader_readClause_139 (fun H lo P => ?_)
  refine pj_if_ne C h dd_Reader_readClause_142 (fun h => ?_) (fun h => ?_)
  · refine pj_aload_n C dd_Reader_readClause_147 rfl hl 0 rfl ?_
    refine pj_iload_n C dd_Reader_readClause_148 rfl hl 1 rfl ?_
    refine pj_bipush (v := (nI 60)) C dd_Reader_readClause_149 rfl ?_
    refine pj_ic_ne C h dd_Reader_readClause_151 (fun h => ?_) (fun h => ?_)
    · refine pj_iload_n C dd_Reader_readClause_159 rfl hl 1 rfl ?_
      refine pj_bipush (v := (nI 61)) C dd_Reader_readClause_160 rfl ?_
      refine pj_ic_ne C h dd_Reader_readClause_162 (fun h => ?_) (fun h => ?_)
      · refine pj_bipush (v := (-7 : Int32)) C dd_Reader_readClause_170 rfl ?_
        exact bt_Reader_readClause_172 hB C Q hlv hR _ _ _ _ _ h P (lv_sub hl [] rfl)
      · refine pj_bipush (v := (-6 : Int32)) C dd_Reader_readClause_165 rfl ?_
        refine pj_goto C dd_Reader_readClause_167 ?_
        exact bt_Reader_readClause_172 hB C Q hlv hR _ _ _ _ _ h P (lv_sub hl [] rfl)
    · refine pj_bipush (v := (-5 : Int32)) C dd_Reader_readClause_154 rfl ?_
      refine pj_goto C dd_Reader_readClause_156 ?_
      exact bt_Reader_readClause_172 hB C Q hlv hR _ _ _ _ _ h P (lv_sub hl [] rfl)
  · refine pj_iconst (v := (nI 0)) C dd_Reader_readClause_145 rfl ?_
    exact pj_zret C Q P h dd_Reader_readClause_146
set_option maxHeartbeats 4000000 in
set_option maxRecDepth 100000 in
theorem ct_Reader_readClause_B {l : Launch} {B : pj_B} (hB : B.2.2.2.1 = pj_LC) {lv0 : Nat} (hlv : 3 ≤ lv0) {sR : Int32 → pj_S → Option (Int32 × pj_S)} (hR : ∀ (v1 : Int32) (z : pj_S) (r : Int32) (z2 : pj_S), sR v1 z = some (r, z2) → pj_Mi l yX3_readClause cX3_readClause 4 (some .boolean) lv0 [.ref (B.2.1 5), .int v1] B z r z2) {v1 : Int32} {z : pj_S} {r0 : Int32} {z0 : pj_S} (h : Reader_readClause_B sR v1 z = some (r0, z0)) : pj_Mi l yX3_readClause cX3_readClause 4 (some .boolean) (lv0 + 2) [.ref (B.2.1 5), .int v1] B z r0 z0 := by
  refine pj_meti (own := RX3) (by decide +kernel) rfl (Nat.le_of_ble_eq_true rfl) ?_
  intro A K hK C Q H lo ls P hl
  subst hK
  have hl : lv_has ls 4 [(0, .ref (B.2.1 5)), (1, .int v1)] := hl
  unfold Reader_readClause_B at h
  refine pj_aload_n C dd_Reader_readClause_0 rfl hl 0 rfl ?_
  obtain ⟨r3, z2, e1, h⟩ := pj_cE h
  refine pj_cVi (st := []) [] C P 5 (LC5 hB) rfl (ct_Reader_token hB e1) cl_Reader_44 rfl (by omega) (by decide) hl.1 (Nat.le_of_ble_eq_true rfl) dd_Reader_readClause_1 (fun H lo P => ?_)
  refine pj_istore_n [(2, .int r3), (0, .ref (B.2.1 5)), (1, .int v1)] C dd_Reader_readClause_4 rfl hl (by decide) rfl (fun ls hl => ?_)
  refine pj_iload_n C dd_Reader_readClause_5 rfl hl 0 rfl ?_
  refine pj_bipush (v := (nI 40)) C dd_Reader_readClause_6 rfl ?_
  refine pj_ic_eq C h dd_Reader_readClause_8 (fun h => ?_) (fun h => ?_)
  · exact bt_Reader_readClause_17 hB C Q hlv hR _ _ _ _ _ _ h P (lv_sub hl [1, 2, 0] rfl)
  · refine pj_iload_n C dd_Reader_readClause_11 rfl hl 0 rfl ?_
    refine pj_bipush (v := (-10 : Int32)) C dd_Reader_readClause_12 rfl ?_
    refine pj_ic_ne C h dd_Reader_readClause_14 (fun h => ?_) (fun h => ?_)
    · refine pj_aload_n C dd_Reader_readClause_90 rfl hl 1 rfl ?_
      obtain ⟨r6, z5, e4, h⟩ := pj_cE h
      refine pj_cVi (st := []) [] C P 5 (LC5 hB) rfl (ct_Reader_readSum hB e4) cl_Reader_125 rfl (by omega) (by decide) hl.1 (Nat.le_of_ble_eq_true rfl) dd_Reader_readClause_91 (fun H lo P => ?_)
      refine pj_if_ne C h dd_Reader_readClause_94 (fun h => ?_) (fun h => ?_)
      · refine pj_aload_n C dd_Reader_readClause_99 rfl hl 1 rfl ?_
        obtain ⟨r9, z8, e7, h⟩ := pj_cE h
        refine pj_cVi (st := []) [] C P 5 (LC5 hB) rfl (ct_Reader_token hB e7) cl_Reader_44 rfl (by omega) (by decide) hl.1 (Nat.le_of_ble_eq_true rfl) dd_Reader_readClause_100 (fun H lo P => ?_)
        refine pj_istore_n [(3, .int r9), (2, .int r3), (0, .ref (B.2.1 5)), (1, .int v1)] C dd_Reader_readClause_103 rfl hl (by decide) rfl (fun ls hl => ?_)
        refine pj_iload_n C dd_Reader_readClause_104 rfl hl 0 rfl ?_
        refine pj_bipush (v := (nI 60)) C dd_Reader_readClause_105 rfl ?_
        refine pj_ic_eq C h dd_Reader_readClause_107 (fun h => ?_) (fun h => ?_)
        · exact bt_Reader_readClause_128 hB C Q hlv hR _ _ _ _ _ h P (lv_sub hl [2, 0] rfl)
        · refine pj_iload_n C dd_Reader_readClause_110 rfl hl 0 rfl ?_
          refine pj_bipush (v := (nI 61)) C dd_Reader_readClause_111 rfl ?_
          refine pj_ic_eq C h dd_Reader_readClause_113 (fun h => ?_) (fun h => ?_)
          · exact bt_Reader_readClause_128 hB C Q hlv hR _ _ _ _ _ h P (lv_sub hl [2, 0] rfl)
          · refine pj_iload_n C dd_Reader_readClause_116 rfl hl 0 rfl ?_
            refine pj_bipush (v := (nI 62)) C dd_Reader_readClause_117 rfl ?_
            refine pj_ic_eq C h dd_Reader_readClause_119 (fun h => ?_) (fun h => ?_)
            · exact bt_Reader_readClause_128 hB C Q hlv hR _ _ _ _ _ h P (lv_sub hl [2, 0] rfl)
            · refine pj_aload_n C dd_Reader_readClause_122 rfl hl 2 rfl ?_
              refine pj_iconst (v := (nI 1)) C dd_Reader_readClause_123 rfl ?_
              obtain ⟨r12, z11, e10, h⟩ := pj_cE h
              refine pj_cVi (st := []) [.int (nI 1)] C P 5 (LC5 hB) rfl (ct_Reader_fails hB e10) cl_Reader_122 rfl (by omega) (by decide) hl.1 (Nat.le_of_ble_eq_true rfl) dd_Reader_readClause_124 (fun H lo P => ?_)
              exact pj_zret C Q P h dd_Reader_readClause_127
      · refine pj_iconst (v := (nI 0)) C dd_Reader_readClause_97 rfl ?_
        exact pj_zret C Q P h dd_Reader_readClause_98
    · exact bt_Reader_readClause_17 hB C Q hlv hR _ _ _ _ _ _ h P (lv_sub hl [1, 2, 0] rfl)
