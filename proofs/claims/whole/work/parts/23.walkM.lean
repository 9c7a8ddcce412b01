theorem dd_Md_book_0 : pj_d cX11_book 0 (.iload_n 1) 1 1 := ⟨by decide +kernel, rfl⟩
theorem dd_Md_book_1 : pj_d cX11_book 1 (.iconst 0) 1 2 := ⟨by decide +kernel, rfl⟩
theorem dd_Md_book_2 : pj_d cX11_book 2 (.aload_n 0) 1 3 := ⟨by decide +kernel, rfl⟩
theorem dd_Md_book_3 : pj_d cX11_book 3 (.getfield 7) 3 6 := ⟨by decide +kernel, rfl⟩
theorem dd_Md_book_6 : pj_d cX11_book 6 (.iconst 4) 1 7 := ⟨by decide +kernel, rfl⟩
theorem dd_Md_book_7 : pj_d cX11_book 7 (.iaload) 1 8 := ⟨by decide +kernel, rfl⟩
theorem dd_Md_book_8 : pj_d cX11_book 8 (.iconst 1) 1 9 := ⟨by decide +kernel, rfl⟩
theorem dd_Md_book_9 : pj_d cX11_book 9 (.isub) 1 10 := ⟨by decide +kernel, rfl⟩
theorem dd_Md_book_10 : pj_d cX11_book 10 (.invokestatic 70) 3 13 := ⟨by decide +kernel, rfl⟩
theorem dd_Md_book_13 : pj_dj cX11_book 13 (.ifCond .eq 29) 29 16 42 := ⟨by decide +kernel, rfl, by decide⟩
theorem dd_Md_book_16 : pj_d cX11_book 16 (.iload_n 2) 1 17 := ⟨by decide +kernel, rfl⟩
theorem dd_Md_book_17 : pj_d cX11_book 17 (.iconst 0) 1 18 := ⟨by decide +kernel, rfl⟩
theorem dd_Md_book_18 : pj_d cX11_book 18 (.iconst 2) 1 19 := ⟨by decide +kernel, rfl⟩
theorem dd_Md_book_19 : pj_d cX11_book 19 (.invokestatic 70) 3 22 := ⟨by decide +kernel, rfl⟩
theorem dd_Md_book_22 : pj_dj cX11_book 22 (.ifCond .eq 20) 20 25 42 := ⟨by decide +kernel, rfl, by decide⟩
theorem dd_Md_book_25 : pj_d cX11_book 25 (.aload_n 0) 1 26 := ⟨by decide +kernel, rfl⟩
theorem dd_Md_book_26 : pj_d cX11_book 26 (.getfield 7) 3 29 := ⟨by decide +kernel, rfl⟩
theorem dd_Md_book_29 : pj_d cX11_book 29 (.sipush 300) 3 32 := ⟨by decide +kernel, rfl⟩
theorem dd_Md_book_32 : pj_d cX11_book 32 (.iconst 3) 1 33 := ⟨by decide +kernel, rfl⟩
theorem dd_Md_book_33 : pj_d cX11_book 33 (.iload_n 1) 1 34 := ⟨by decide +kernel, rfl⟩
theorem dd_Md_book_34 : pj_d cX11_book 34 (.imul) 1 35 := ⟨by decide +kernel, rfl⟩
theorem dd_Md_book_35 : pj_d cX11_book 35 (.iadd) 1 36 := ⟨by decide +kernel, rfl⟩
theorem dd_Md_book_36 : pj_d cX11_book 36 (.iload_n 2) 1 37 := ⟨by decide +kernel, rfl⟩
theorem dd_Md_book_37 : pj_d cX11_book 37 (.iadd) 1 38 := ⟨by decide +kernel, rfl⟩
theorem dd_Md_book_38 : pj_d cX11_book 38 (.iaload) 1 39 := ⟨by decide +kernel, rfl⟩
theorem dd_Md_book_39 : pj_dj cX11_book 39 (.goto 4) 4 42 43 := ⟨by decide +kernel, rfl, by decide⟩
theorem dd_Md_book_42 : pj_d cX11_book 42 (.iconst (-1)) 1 43 := ⟨by decide +kernel, rfl⟩
theorem dd_Md_book_43 : pj_d cX11_book 43 (.ireturn) 1 44 := ⟨by decide +kernel, rfl⟩
set_option maxHeartbeats 4000000 in
set_option maxRecDepth 100000 in
theorem ct_Md_book {l : Launch} {B : pj_B} (hB : B.2.2.2.1 = pj_LM) {v1 : Int32} {v2 : Int32} {z : pj_S} {r0 : Int32} {z0 : pj_S} (h : Md_book v1 v2 z = some (r0, z0)) : pj_Mi l yX11_book cX11_book 3 (some .int) 2 [.ref (B.2.1 0), .int v1, .int v2] B z r0 z0 := by
  refine pj_meti (own := RX11) (by decide +kernel) rfl (Nat.le_of_ble_eq_true rfl) ?_
  intro A K hK C Q H lo ls P hl
  have hl : lv_has ls 3 [(0, .ref (B.2.1 0)), (1, .int v1), (2, .int v2)] := hl
  unfold Md_book at h
  refine pj_iload_n C dd_Md_book_0 rfl hl 1 rfl ?_
  refine pj_iconst (v := (nI 0)) C dd_Md_book_1 rfl ?_
  refine pj_aload_n C dd_Md_book_2 rfl hl 0 rfl ?_
  refine pj_getR C P 0 (LM0 hB) rfl fl_Md_7 dd_Md_book_3 ?_
  refine pj_iconst (v := (nI 4)) C dd_Md_book_6 rfl ?_
  refine pj_iald C P 1 (LM1 hB) h dd_Md_book_7 (fun h => ?_)
  refine pj_iconst (v := (nI 1)) C dd_Md_book_8 rfl ?_
  refine pj_isub C dd_Md_book_9 ?_
  obtain ⟨r3, z2, e1, h⟩ := pj_cE h
  refine pj_cSi (st := []) [.int v1, .int (nI 0), .int ((z.1 1 (Int32.toNatClampNeg (nI 4))) - (nI 1))] C P (ct_Md_isInM hB e1) cl_Md_70 rfl (by decide) (by decide) hl.1 (Nat.le_of_ble_eq_true rfl) dd_Md_book_10 (fun H lo P => ?_)
  refine pj_if_eq C h dd_Md_book_13 (fun h => ?_) (fun h => ?_)
  · refine pj_iconst (v := (-1 : Int32)) C dd_Md_book_42 rfl ?_
    exact pj_iret C Q P h dd_Md_book_43
  · refine pj_iload_n C dd_Md_book_16 rfl hl 2 rfl ?_
    refine pj_iconst (v := (nI 0)) C dd_Md_book_17 rfl ?_
    refine pj_iconst (v := (nI 2)) C dd_Md_book_18 rfl ?_
    obtain ⟨r6, z5, e4, h⟩ := pj_cE h
    refine pj_cSi (st := []) [.int v2, .int (nI 0), .int (nI 2)] C P (ct_Md_isInM hB e4) cl_Md_70 rfl (by decide) (by decide) hl.1 (Nat.le_of_ble_eq_true rfl) dd_Md_book_19 (fun H lo P => ?_)
    refine pj_if_eq C h dd_Md_book_22 (fun h => ?_) (fun h => ?_)
    · refine pj_iconst (v := (-1 : Int32)) C dd_Md_book_42 rfl ?_
      exact pj_iret C Q P h dd_Md_book_43
    · refine pj_aload_n C dd_Md_book_25 rfl hl 0 rfl ?_
      refine pj_getR C P 0 (LM0 hB) rfl fl_Md_7 dd_Md_book_26 ?_
      refine pj_sipush (v := (nI 300)) C dd_Md_book_29 rfl ?_
      refine pj_iconst (v := (nI 3)) C dd_Md_book_32 rfl ?_
      refine pj_iload_n C dd_Md_book_33 rfl hl 1 rfl ?_
      refine pj_imul C dd_Md_book_34 ?_
      refine pj_iadd C dd_Md_book_35 ?_
      refine pj_iload_n C dd_Md_book_36 rfl hl 2 rfl ?_
      refine pj_iadd C dd_Md_book_37 ?_
      refine pj_iald C P 1 (LM1 hB) h dd_Md_book_38 (fun h => ?_)
      refine pj_goto C dd_Md_book_39 ?_
      exact pj_iret C Q P h dd_Md_book_43
theorem dd_Md_isQueued_0 : pj_d cX11_isQueued 0 (.iconst 0) 1 1 := ⟨by decide +kernel, rfl⟩
theorem dd_Md_isQueued_1 : pj_d cX11_isQueued 1 (.istore_n 3) 1 2 := ⟨by decide +kernel, rfl⟩
theorem dd_Md_isQueued_2 : pj_d cX11_isQueued 2 (.iload_n 3) 1 3 := ⟨by decide +kernel, rfl⟩
theorem dd_Md_isQueued_3 : pj_d cX11_isQueued 3 (.iload_n 2) 1 4 := ⟨by decide +kernel, rfl⟩
theorem dd_Md_isQueued_4 : pj_dj cX11_isQueued 4 (.if_icmp .ge 21) 21 7 25 := ⟨by decide +kernel, rfl, by decide⟩
theorem dd_Md_isQueued_7 : pj_d cX11_isQueued 7 (.aload_n 0) 1 8 := ⟨by decide +kernel, rfl⟩
theorem dd_Md_isQueued_8 : pj_d cX11_isQueued 8 (.getfield 47) 3 11 := ⟨by decide +kernel, rfl⟩
theorem dd_Md_isQueued_11 : pj_d cX11_isQueued 11 (.iload_n 3) 1 12 := ⟨by decide +kernel, rfl⟩
theorem dd_Md_isQueued_12 : pj_d cX11_isQueued 12 (.iaload) 1 13 := ⟨by decide +kernel, rfl⟩
theorem dd_Md_isQueued_13 : pj_d cX11_isQueued 13 (.iload_n 1) 1 14 := ⟨by decide +kernel, rfl⟩
theorem dd_Md_isQueued_14 : pj_dj cX11_isQueued 14 (.if_icmp .ne 5) 5 17 19 := ⟨by decide +kernel, rfl, by decide⟩
theorem dd_Md_isQueued_17 : pj_d cX11_isQueued 17 (.iconst 1) 1 18 := ⟨by decide +kernel, rfl⟩
theorem dd_Md_isQueued_18 : pj_d cX11_isQueued 18 (.ireturn) 1 19 := ⟨by decide +kernel, rfl⟩
theorem dd_Md_isQueued_19 : pj_d cX11_isQueued 19 (.iinc 3 1) 3 22 := ⟨by decide +kernel, rfl⟩
theorem dd_Md_isQueued_22 : pj_dj cX11_isQueued 22 (.goto (-20)) (-20) 25 2 := ⟨by decide +kernel, rfl, by decide⟩
theorem dd_Md_isQueued_25 : pj_d cX11_isQueued 25 (.iconst 0) 1 26 := ⟨by decide +kernel, rfl⟩
theorem dd_Md_isQueued_26 : pj_d cX11_isQueued 26 (.ireturn) 1 27 := ⟨by decide +kernel, rfl⟩
set_option maxHeartbeats 4000000 in
set_option maxRecDepth 100000 in
theorem bt_Md_isQueued_2 {B : pj_B} {A : Nat → Prop} {K : pj_K} {r0 : Int32} {z0 : pj_S} (hB : B.2.2.2.1 = pj_LM) (C : pj_C B A K cX11_isQueued 4 RX11 1) (Q : pj_Qi B A K (some .boolean) r0 z0) (s2 : Int32 → Int32 → Int32 → pj_S → Option (Int32 × pj_S)) (k2 : ∀ (v1 : Int32) (v2 : Int32) (v3 : Int32) (z : pj_S) (H : Heap) (lo : List Loc) (ls : Array Slot), s2 v1 v2 v3 z = some (r0, z0) → pj_P B A K z H lo → lv_has ls 4 [(0, .ref (B.2.1 0)), (1, .int v1), (2, .int v2), (3, .int v3)] → pj_W K H lo 2 ls []) (v1 : Int32) (v2 : Int32) (v3 : Int32) (z : pj_S) (H : Heap) (lo : List Loc) (ls : Array Slot) (h : Md_isQueued_2 s2 v1 v2 v3 z = some (r0, z0)) (P : pj_P B A K z H lo) (hl : lv_has ls 4 [(0, .ref (B.2.1 0)), (1, .int v1), (2, .int v2), (3, .int v3)]) : pj_W K H lo 2 ls [] := by
  unfold Md_isQueued_2 at h
  refine pj_iload_n C dd_Md_isQueued_2 rfl hl 3 rfl ?_
  refine pj_iload_n C dd_Md_isQueued_3 rfl hl 2 rfl ?_
  refine pj_ic_ge C h dd_Md_isQueued_4 (fun h => ?_) (fun h => ?_)
  · refine pj_iconst (v := (nI 0)) C dd_Md_isQueued_25 rfl ?_
    exact pj_zret C Q P h dd_Md_isQueued_26
  · refine pj_aload_n C dd_Md_isQueued_7 rfl hl 0 rfl ?_
    refine pj_getR C P 0 (LM0 hB) rfl fl_Md_47 dd_Md_isQueued_8 ?_
    refine pj_iload_n C dd_Md_isQueued_11 rfl hl 3 rfl ?_
    refine pj_iald C P 12 (LM12 hB) h dd_Md_isQueued_12 (fun h => ?_)
    refine pj_iload_n C dd_Md_isQueued_13 rfl hl 1 rfl ?_
    refine pj_ic_ne C h dd_Md_isQueued_14 (fun h => ?_) (fun h => ?_)
    · refine pj_iinc (v := (nI 1)) [(0, .ref (B.2.1 0)), (1, .int v1), (2, .int v2)] C h rfl dd_Md_isQueued_19 hl 3 rfl (by decide) rfl (fun x1 ls h hl => ?_)
      refine pj_goto C dd_Md_isQueued_22 ?_
      exact k2 _ _ _ _ _ _ _ h P (lv_sub hl [1, 2, 3, 0] rfl)
    · refine pj_iconst (v := (nI 1)) C dd_Md_isQueued_17 rfl ?_
      exact pj_zret C Q P h dd_Md_isQueued_18
theorem lt_Md_isQueued_2 {B : pj_B} {A : Nat → Prop} {K : pj_K} {r0 : Int32} {z0 : pj_S} (hB : B.2.2.2.1 = pj_LM) (C : pj_C B A K cX11_isQueued 4 RX11 1) (Q : pj_Qi B A K (some .boolean) r0 z0)  : ∀ (n : Nat) (v1 : Int32) (v2 : Int32) (v3 : Int32) (z : pj_S) (H : Heap) (lo : List Loc) (ls : Array Slot), pj_lp3 Md_isQueued_2 n v1 v2 v3 z = some (r0, z0) → pj_P B A K z H lo → lv_has ls 4 [(0, .ref (B.2.1 0)), (1, .int v1), (2, .int v2), (3, .int v3)] → pj_W K H lo 2 ls [] := by
  intro n
  induction n with
  | zero => intro v1 v2 v3 z H lo ls h; rw [pj_lp3_0] at h; cases h
  | succ n ih =>
    intro v1 v2 v3 z H lo ls h P hl
    rw [pj_lp3_s] at h
    exact bt_Md_isQueued_2 hB C Q   (pj_lp3 Md_isQueued_2 n) ih v1 v2 v3 z H lo ls h P hl
set_option maxHeartbeats 4000000 in
set_option maxRecDepth 100000 in
theorem ct_Md_isQueued {l : Launch} {B : pj_B} (hB : B.2.2.2.1 = pj_LM) {v1 : Int32} {v2 : Int32} {z : pj_S} {r0 : Int32} {z0 : pj_S} (h : Md_isQueued v1 v2 z = some (r0, z0)) : pj_Mi l yX11_isQueued cX11_isQueued 4 (some .boolean) 1 [.ref (B.2.1 0), .int v1, .int v2] B z r0 z0 := by
  refine pj_meti (own := RX11) (by decide +kernel) rfl (Nat.le_of_ble_eq_true rfl) ?_
  intro A K hK C Q H lo ls P hl
  have hl : lv_has ls 4 [(0, .ref (B.2.1 0)), (1, .int v1), (2, .int v2)] := hl
  unfold Md_isQueued at h
  refine pj_iconst (v := (nI 0)) C dd_Md_isQueued_0 rfl ?_
  refine pj_istore_n [(3, .int (nI 0)), (0, .ref (B.2.1 0)), (1, .int v1), (2, .int v2)] C dd_Md_isQueued_1 rfl hl (by decide) rfl (fun ls hl => ?_)
  exact lt_Md_isQueued_2 hB C Q 4000 _ _ _ _ _ _ _ h P (lv_sub hl [1, 2, 3, 0] rfl)
theorem dd_Md_allRun_0 : pj_d cX11_allRun 0 (.iconst 0) 1 1 := ⟨by decide +kernel, rfl⟩
theorem dd_Md_allRun_1 : pj_d cX11_allRun 1 (.istore_n 1) 1 2 := ⟨by decide +kernel, rfl⟩
theorem dd_Md_allRun_2 : pj_d cX11_allRun 2 (.iconst 0) 1 3 := ⟨by decide +kernel, rfl⟩
theorem dd_Md_allRun_3 : pj_d cX11_allRun 3 (.istore_n 2) 1 4 := ⟨by decide +kernel, rfl⟩
theorem dd_Md_allRun_4 : pj_d cX11_allRun 4 (.iload_n 2) 1 5 := ⟨by decide +kernel, rfl⟩
theorem dd_Md_allRun_5 : pj_d cX11_allRun 5 (.bipush 64) 2 7 := ⟨by decide +kernel, rfl⟩
theorem dd_Md_allRun_7 : pj_dj cX11_allRun 7 (.if_icmp .ge 30) 30 10 37 := ⟨by decide +kernel, rfl, by decide⟩
theorem dd_Md_allRun_10 : pj_d cX11_allRun 10 (.aload_n 0) 1 11 := ⟨by decide +kernel, rfl⟩
theorem dd_Md_allRun_11 : pj_d cX11_allRun 11 (.iload_n 2) 1 12 := ⟨by decide +kernel, rfl⟩
theorem dd_Md_allRun_12 : pj_d cX11_allRun 12 (.invokevirtual 220) 3 15 := ⟨by decide +kernel, rfl⟩
theorem dd_Md_allRun_15 : pj_dj cX11_allRun 15 (.ifCond .ne 6) 6 18 21 := ⟨by decide +kernel, rfl, by decide⟩
theorem dd_Md_allRun_18 : pj_dj cX11_allRun 18 (.goto 13) 13 21 31 := ⟨by decide +kernel, rfl, by decide⟩
theorem dd_Md_allRun_21 : pj_d cX11_allRun 21 (.aload_n 0) 1 22 := ⟨by decide +kernel, rfl⟩
theorem dd_Md_allRun_22 : pj_d cX11_allRun 22 (.getfield 47) 3 25 := ⟨by decide +kernel, rfl⟩
theorem dd_Md_allRun_25 : pj_d cX11_allRun 25 (.iload_n 1) 1 26 := ⟨by decide +kernel, rfl⟩
theorem dd_Md_allRun_26 : pj_d cX11_allRun 26 (.iload_n 2) 1 27 := ⟨by decide +kernel, rfl⟩
theorem dd_Md_allRun_27 : pj_d cX11_allRun 27 (.iastore) 1 28 := ⟨by decide +kernel, rfl⟩
theorem dd_Md_allRun_28 : pj_d cX11_allRun 28 (.iinc 1 1) 3 31 := ⟨by decide +kernel, rfl⟩
theorem dd_Md_allRun_31 : pj_d cX11_allRun 31 (.iinc 2 1) 3 34 := ⟨by decide +kernel, rfl⟩
theorem dd_Md_allRun_34 : pj_dj cX11_allRun 34 (.goto (-30)) (-30) 37 4 := ⟨by decide +kernel, rfl, by decide⟩
theorem dd_Md_allRun_37 : pj_d cX11_allRun 37 (.iconst 0) 1 38 := ⟨by decide +kernel, rfl⟩
theorem dd_Md_allRun_38 : pj_d cX11_allRun 38 (.istore_n 2) 1 39 := ⟨by decide +kernel, rfl⟩
theorem dd_Md_allRun_39 : pj_d cX11_allRun 39 (.iload_n 2) 1 40 := ⟨by decide +kernel, rfl⟩
theorem dd_Md_allRun_40 : pj_d cX11_allRun 40 (.iload_n 1) 1 41 := ⟨by decide +kernel, rfl⟩
theorem dd_Md_allRun_41 : pj_dj cX11_allRun 41 (.if_icmp .ge 107) 107 44 148 := ⟨by decide +kernel, rfl, by decide⟩
theorem dd_Md_allRun_44 : pj_d cX11_allRun 44 (.aload_n 0) 1 45 := ⟨by decide +kernel, rfl⟩
theorem dd_Md_allRun_45 : pj_d cX11_allRun 45 (.getfield 47) 3 48 := ⟨by decide +kernel, rfl⟩
theorem dd_Md_allRun_48 : pj_d cX11_allRun 48 (.iload_n 2) 1 49 := ⟨by decide +kernel, rfl⟩
theorem dd_Md_allRun_49 : pj_d cX11_allRun 49 (.iaload) 1 50 := ⟨by decide +kernel, rfl⟩
theorem dd_Md_allRun_50 : pj_d cX11_allRun 50 (.istore_n 3) 1 51 := ⟨by decide +kernel, rfl⟩
theorem dd_Md_allRun_51 : pj_d cX11_allRun 51 (.iinc 2 1) 3 54 := ⟨by decide +kernel, rfl⟩
theorem dd_Md_allRun_54 : pj_d cX11_allRun 54 (.aload_n 0) 1 55 := ⟨by decide +kernel, rfl⟩
theorem dd_Md_allRun_55 : pj_d cX11_allRun 55 (.iload_n 3) 1 56 := ⟨by decide +kernel, rfl⟩
theorem dd_Md_allRun_56 : pj_d cX11_allRun 56 (.invokevirtual 223) 3 59 := ⟨by decide +kernel, rfl⟩
theorem dd_Md_allRun_59 : pj_d cX11_allRun 59 (.aload_n 0) 1 60 := ⟨by decide +kernel, rfl⟩
theorem dd_Md_allRun_60 : pj_d cX11_allRun 60 (.iload_n 3) 1 61 := ⟨by decide +kernel, rfl⟩
theorem dd_Md_allRun_61 : pj_d cX11_allRun 61 (.invokevirtual 208) 3 64 := ⟨by decide +kernel, rfl⟩
theorem dd_Md_allRun_64 : pj_d cX11_allRun 64 (.istore 4) 2 66 := ⟨by decide +kernel, rfl⟩
theorem dd_Md_allRun_66 : pj_d cX11_allRun 66 (.aload_n 0) 1 67 := ⟨by decide +kernel, rfl⟩
theorem dd_Md_allRun_67 : pj_d cX11_allRun 67 (.iload_n 3) 1 68 := ⟨by decide +kernel, rfl⟩
theorem dd_Md_allRun_68 : pj_d cX11_allRun 68 (.invokevirtual 211) 3 71 := ⟨by decide +kernel, rfl⟩
theorem dd_Md_allRun_71 : pj_d cX11_allRun 71 (.istore 5) 2 73 := ⟨by decide +kernel, rfl⟩
theorem dd_Md_allRun_73 : pj_d cX11_allRun 73 (.iload 4) 2 75 := ⟨by decide +kernel, rfl⟩
theorem dd_Md_allRun_75 : pj_d cX11_allRun 75 (.iconst (-1)) 1 76 := ⟨by decide +kernel, rfl⟩
theorem dd_Md_allRun_76 : pj_dj cX11_allRun 76 (.if_icmp .eq 33) 33 79 109 := ⟨by decide +kernel, rfl, by decide⟩
theorem dd_Md_allRun_79 : pj_d cX11_allRun 79 (.aload_n 0) 1 80 := ⟨by decide +kernel, rfl⟩
theorem dd_Md_allRun_80 : pj_d cX11_allRun 80 (.iload 4) 2 82 := ⟨by decide +kernel, rfl⟩
theorem dd_Md_allRun_82 : pj_d cX11_allRun 82 (.invokevirtual 220) 3 85 := ⟨by decide +kernel, rfl⟩
theorem dd_Md_allRun_85 : pj_dj cX11_allRun 85 (.ifCond .eq 24) 24 88 109 := ⟨by decide +kernel, rfl, by decide⟩
theorem dd_Md_allRun_88 : pj_d cX11_allRun 88 (.aload_n 0) 1 89 := ⟨by decide +kernel, rfl⟩
theorem dd_Md_allRun_89 : pj_d cX11_allRun 89 (.iload 4) 2 91 := ⟨by decide +kernel, rfl⟩
theorem dd_Md_allRun_91 : pj_d cX11_allRun 91 (.iload_n 1) 1 92 := ⟨by decide +kernel, rfl⟩
theorem dd_Md_allRun_92 : pj_d cX11_allRun 92 (.invokevirtual 226) 3 95 := ⟨by decide +kernel, rfl⟩
theorem dd_Md_allRun_95 : pj_dj cX11_allRun 95 (.ifCond .ne 14) 14 98 109 := ⟨by decide +kernel, rfl, by decide⟩
theorem dd_Md_allRun_98 : pj_d cX11_allRun 98 (.aload_n 0) 1 99 := ⟨by decide +kernel, rfl⟩
theorem dd_Md_allRun_99 : pj_d cX11_allRun 99 (.getfield 47) 3 102 := ⟨by decide +kernel, rfl⟩
theorem dd_Md_allRun_102 : pj_d cX11_allRun 102 (.iload_n 1) 1 103 := ⟨by decide +kernel, rfl⟩
theorem dd_Md_allRun_103 : pj_d cX11_allRun 103 (.iload 4) 2 105 := ⟨by decide +kernel, rfl⟩
theorem dd_Md_allRun_105 : pj_d cX11_allRun 105 (.iastore) 1 106 := ⟨by decide +kernel, rfl⟩
theorem dd_Md_allRun_106 : pj_d cX11_allRun 106 (.iinc 1 1) 3 109 := ⟨by decide +kernel, rfl⟩
theorem dd_Md_allRun_109 : pj_d cX11_allRun 109 (.iload 5) 2 111 := ⟨by decide +kernel, rfl⟩
theorem dd_Md_allRun_111 : pj_d cX11_allRun 111 (.iconst (-1)) 1 112 := ⟨by decide +kernel, rfl⟩
theorem dd_Md_allRun_112 : pj_dj cX11_allRun 112 (.if_icmp .eq 33) 33 115 145 := ⟨by decide +kernel, rfl, by decide⟩
theorem dd_Md_allRun_115 : pj_d cX11_allRun 115 (.aload_n 0) 1 116 := ⟨by decide +kernel, rfl⟩
theorem dd_Md_allRun_116 : pj_d cX11_allRun 116 (.iload 5) 2 118 := ⟨by decide +kernel, rfl⟩
theorem dd_Md_allRun_118 : pj_d cX11_allRun 118 (.invokevirtual 220) 3 121 := ⟨by decide +kernel, rfl⟩
theorem dd_Md_allRun_121 : pj_dj cX11_allRun 121 (.ifCond .eq 24) 24 124 145 := ⟨by decide +kernel, rfl, by decide⟩
theorem dd_Md_allRun_124 : pj_d cX11_allRun 124 (.aload_n 0) 1 125 := ⟨by decide +kernel, rfl⟩
theorem dd_Md_allRun_125 : pj_d cX11_allRun 125 (.iload 5) 2 127 := ⟨by decide +kernel, rfl⟩
theorem dd_Md_allRun_127 : pj_d cX11_allRun 127 (.iload_n 1) 1 128 := ⟨by decide +kernel, rfl⟩
theorem dd_Md_allRun_128 : pj_d cX11_allRun 128 (.invokevirtual 226) 3 131 := ⟨by decide +kernel, rfl⟩
theorem dd_Md_allRun_131 : pj_dj cX11_allRun 131 (.ifCond .ne 14) 14 134 145 := ⟨by decide +kernel, rfl, by decide⟩
theorem dd_Md_allRun_134 : pj_d cX11_allRun 134 (.aload_n 0) 1 135 := ⟨by decide +kernel, rfl⟩
theorem dd_Md_allRun_135 : pj_d cX11_allRun 135 (.getfield 47) 3 138 := ⟨by decide +kernel, rfl⟩
theorem dd_Md_allRun_138 : pj_d cX11_allRun 138 (.iload_n 1) 1 139 := ⟨by decide +kernel, rfl⟩
theorem dd_Md_allRun_139 : pj_d cX11_allRun 139 (.iload 5) 2 141 := ⟨by decide +kernel, rfl⟩
theorem dd_Md_allRun_141 : pj_d cX11_allRun 141 (.iastore) 1 142 := ⟨by decide +kernel, rfl⟩
theorem dd_Md_allRun_142 : pj_d cX11_allRun 142 (.iinc 1 1) 3 145 := ⟨by decide +kernel, rfl⟩
theorem dd_Md_allRun_145 : pj_dj cX11_allRun 145 (.goto (-106)) (-106) 148 39 := ⟨by decide +kernel, rfl, by decide⟩
theorem dd_Md_allRun_148 : pj_d cX11_allRun 148 (.iload_n 1) 1 149 := ⟨by decide +kernel, rfl⟩
theorem dd_Md_allRun_149 : pj_d cX11_allRun 149 (.ireturn) 1 150 := ⟨by decide +kernel, rfl⟩
set_option maxHeartbeats 4000000 in
set_option maxRecDepth 100000 in
theorem bt_Md_allRun_145 {B : pj_B} {A : Nat → Prop} {K : pj_K} {r0 : Int32} {z0 : pj_S} (hB : B.2.2.2.1 = pj_LM) (C : pj_C B A K cX11_allRun 6 RX11 4) (Q : pj_Qi B A K (some .int) r0 z0) (s39 : Int32 → Int32 → pj_S → Option (Int32 × pj_S)) (k39 : ∀ (v1 : Int32) (v2 : Int32) (z : pj_S) (H : Heap) (lo : List Loc) (ls : Array Slot), s39 v1 v2 z = some (r0, z0) → pj_P B A K z H lo → lv_has ls 6 [(0, .ref (B.2.1 0)), (1, .int v1), (2, .int v2)] → pj_W K H lo 39 ls []) (v1 : Int32) (v2 : Int32) (z : pj_S) (H : Heap) (lo : List Loc) (ls : Array Slot) (h : Md_allRun_145 s39 v1 v2 z = some (r0, z0)) (P : pj_P B A K z H lo) (hl : lv_has ls 6 [(0, .ref (B.2.1 0)), (1, .int v1), (2, .int v2)]) : pj_W K H lo 145 ls [] := by
  unfold Md_allRun_145 at h
  refine pj_goto C dd_Md_allRun_145 ?_
  exact k39 _ _ _ _ _ _ h P (lv_sub hl [0, 1, 2] rfl)
set_option maxHeartbeats 4000000 in
set_option maxRecDepth 100000 in
theorem bt_Md_allRun_109 {B : pj_B} {A : Nat → Prop} {K : pj_K} {r0 : Int32} {z0 : pj_S} (hB : B.2.2.2.1 = pj_LM) (C : pj_C B A K cX11_allRun 6 RX11 4) (Q : pj_Qi B A K (some .int) r0 z0) (s39 : Int32 → Int32 → pj_S → Option (Int32 × pj_S)) (k39 : ∀ (v1 : Int32) (v2 : Int32) (z : pj_S) (H : Heap) (lo : List Loc) (ls : Array Slot), s39 v1 v2 z = some (r0, z0) → pj_P B A K z H lo → lv_has ls 6 [(0, .ref (B.2.1 0)), (1, .int v1), (2, .int v2)] → pj_W K H lo 39 ls []) (v1 : Int32) (v2 : Int32) (v5 : Int32) (z : pj_S) (H : Heap) (lo : List Loc) (ls : Array Slot) (h : Md_allRun_109 s39 v1 v2 v5 z = some (r0, z0)) (P : pj_P B A K z H lo) (hl : lv_has ls 6 [(0, .ref (B.2.1 0)), (1, .int v1), (2, .int v2), (5, .int v5)]) : pj_W K H lo 109 ls [] := by
  unfold Md_allRun_109 at h
  refine pj_iload C dd_Md_allRun_109 hl 3 rfl ?_
  refine pj_iconst (v := (-1 : Int32)) C dd_Md_allRun_111 rfl ?_
  refine pj_ic_eq C h dd_Md_allRun_112 (fun h => ?_) (fun h => ?_)
  · exact bt_Md_allRun_145 hB C Q s39 k39 _ _ _ _ _ _ h P (lv_sub hl [0, 1, 2] rfl)
  · refine pj_aload_n C dd_Md_allRun_115 rfl hl 0 rfl ?_
    refine pj_iload C dd_Md_allRun_116 hl 3 rfl ?_
    obtain ⟨r3, z2, e1, h⟩ := pj_cE h
    refine pj_cVi (st := []) [.int v5] C P 0 (LM0 hB) rfl (ct_Md_isLoose hB e1) cl_Md_220 rfl (by decide) (by decide) hl.1 (Nat.le_of_ble_eq_true rfl) dd_Md_allRun_118 (fun H lo P => ?_)
    refine pj_if_eq C h dd_Md_allRun_121 (fun h => ?_) (fun h => ?_)
    · exact bt_Md_allRun_145 hB C Q s39 k39 _ _ _ _ _ _ h P (lv_sub hl [0, 1, 2] rfl)
    · refine pj_aload_n C dd_Md_allRun_124 rfl hl 0 rfl ?_
      refine pj_iload C dd_Md_allRun_125 hl 3 rfl ?_
      refine pj_iload_n C dd_Md_allRun_127 rfl hl 1 rfl ?_
      obtain ⟨r6, z5, e4, h⟩ := pj_cE h
      refine pj_cVi (st := []) [.int v5, .int v1] C P 0 (LM0 hB) rfl (ct_Md_isQueued hB e4) cl_Md_226 rfl (by decide) (by decide) hl.1 (Nat.le_of_ble_eq_true rfl) dd_Md_allRun_128 (fun H lo P => ?_)
      refine pj_if_ne C h dd_Md_allRun_131 (fun h => ?_) (fun h => ?_)
      · exact bt_Md_allRun_145 hB C Q s39 k39 _ _ _ _ _ _ h P (lv_sub hl [0, 1, 2] rfl)
      · refine pj_aload_n C dd_Md_allRun_134 rfl hl 0 rfl ?_
        refine pj_getR C P 0 (LM0 hB) rfl fl_Md_47 dd_Md_allRun_135 ?_
        refine pj_iload_n C dd_Md_allRun_138 rfl hl 1 rfl ?_
        refine pj_iload C dd_Md_allRun_139 hl 3 rfl ?_
        refine pj_iast C P 12 (LM12 hB) h dd_Md_allRun_141 (fun H lo z7 h P => ?_)
        refine pj_iinc (v := (nI 1)) [(0, .ref (B.2.1 0)), (2, .int v2), (5, .int v5)] C h rfl dd_Md_allRun_142 hl 1 rfl (by decide) rfl (fun x8 ls h hl => ?_)
        exact bt_Md_allRun_145 hB C Q s39 k39 _ _ _ _ _ _ h P (lv_sub hl [1, 0, 2] rfl)
set_option maxHeartbeats 4000000 in
set_option maxRecDepth 100000 in
theorem bt_Md_allRun_39 {B : pj_B} {A : Nat → Prop} {K : pj_K} {r0 : Int32} {z0 : pj_S} (hB : B.2.2.2.1 = pj_LM) (C : pj_C B A K cX11_allRun 6 RX11 4) (Q : pj_Qi B A K (some .int) r0 z0) (s39 : Int32 → Int32 → pj_S → Option (Int32 × pj_S)) (k39 : ∀ (v1 : Int32) (v2 : Int32) (z : pj_S) (H : Heap) (lo : List Loc) (ls : Array Slot), s39 v1 v2 z = some (r0, z0) → pj_P B A K z H lo → lv_has ls 6 [(0, .ref (B.2.1 0)), (1, .int v1), (2, .int v2)] → pj_W K H lo 39 ls []) (v1 : Int32) (v2 : Int32) (z : pj_S) (H : Heap) (lo : List Loc) (ls : Array Slot) (h : Md_allRun_39 s39 v1 v2 z = some (r0, z0)) (P : pj_P B A K z H lo) (hl : lv_has ls 6 [(0, .ref (B.2.1 0)), (1, .int v1), (2, .int v2)]) : pj_W K H lo 39 ls [] := by
  unfold Md_allRun_39 at h
  refine pj_iload_n C dd_Md_allRun_39 rfl hl 2 rfl ?_
  refine pj_iload_n C dd_Md_allRun_40 rfl hl 1 rfl ?_
  refine pj_ic_ge C h dd_Md_allRun_41 (fun h => ?_) (fun h => ?_)
  · refine pj_iload_n C dd_Md_allRun_148 rfl hl 1 rfl ?_
    exact pj_iret C Q P h dd_Md_allRun_149
  · refine pj_aload_n C dd_Md_allRun_44 rfl hl 0 rfl ?_
    refine pj_getR C P 0 (LM0 hB) rfl fl_Md_47 dd_Md_allRun_45 ?_
    refine pj_iload_n C dd_Md_allRun_48 rfl hl 2 rfl ?_
    refine pj_iald C P 12 (LM12 hB) h dd_Md_allRun_49 (fun h => ?_)
    refine pj_istb_n [(0, .ref (B.2.1 0)), (1, .int v1), (2, .int v2)] C h dd_Md_allRun_50 rfl hl (by decide) rfl (fun x1 ls h hl => ?_)
    refine pj_iinc (v := (nI 1)) [(3, .int x1), (0, .ref (B.2.1 0)), (1, .int v1)] C h rfl dd_Md_allRun_51 hl 3 rfl (by decide) rfl (fun x2 ls h hl => ?_)
    refine pj_aload_n C dd_Md_allRun_54 rfl hl 2 rfl ?_
    refine pj_iload_n C dd_Md_allRun_55 rfl hl 1 rfl ?_
    obtain ⟨r5, z4, e3, h⟩ := pj_cE h
    refine pj_cVv (st := []) [.int x1] C P 0 (LM0 hB) rfl (ct_Md_goes hB e3) cl_Md_223 rfl (by decide) (by decide) hl.1 (Nat.le_of_ble_eq_true rfl) dd_Md_allRun_56 (fun H lo P => ?_)
    refine pj_aload_n C dd_Md_allRun_59 rfl hl 2 rfl ?_
    refine pj_iload_n C dd_Md_allRun_60 rfl hl 1 rfl ?_
    obtain ⟨r8, z7, e6, h⟩ := pj_cE h
    refine pj_cVi (st := []) [.int x1] C P 0 (LM0 hB) rfl (ct_Md_drawnOne hB e6) cl_Md_208 rfl (by decide) (by decide) hl.1 (Nat.le_of_ble_eq_true rfl) dd_Md_allRun_61 (fun H lo P => ?_)
    refine pj_istore [(4, .int r8), (2, .int x2), (3, .int x1), (0, .ref (B.2.1 0)), (1, .int v1)] C dd_Md_allRun_64 hl (by decide) rfl (fun ls hl => ?_)
    refine pj_aload_n C dd_Md_allRun_66 rfl hl 3 rfl ?_
    refine pj_iload_n C dd_Md_allRun_67 rfl hl 2 rfl ?_
    obtain ⟨r11, z10, e9, h⟩ := pj_cE h
    refine pj_cVi (st := []) [.int x1] C P 0 (LM0 hB) rfl (ct_Md_drawnOther hB e9) cl_Md_211 rfl (by decide) (by decide) hl.1 (Nat.le_of_ble_eq_true rfl) dd_Md_allRun_68 (fun H lo P => ?_)
    refine pj_istore [(5, .int r11), (4, .int r8), (2, .int x2), (3, .int x1), (0, .ref (B.2.1 0)), (1, .int v1)] C dd_Md_allRun_71 hl (by decide) rfl (fun ls hl => ?_)
    refine pj_iload C dd_Md_allRun_73 hl 1 rfl ?_
    refine pj_iconst (v := (-1 : Int32)) C dd_Md_allRun_75 rfl ?_
    refine pj_ic_eq C h dd_Md_allRun_76 (fun h => ?_) (fun h => ?_)
    · exact bt_Md_allRun_109 hB C Q s39 k39 _ _ _ _ _ _ _ h P (lv_sub hl [4, 5, 2, 0] rfl)
    · refine pj_aload_n C dd_Md_allRun_79 rfl hl 4 rfl ?_
      refine pj_iload C dd_Md_allRun_80 hl 1 rfl ?_
      obtain ⟨r14, z13, e12, h⟩ := pj_cE h
      refine pj_cVi (st := []) [.int r8] C P 0 (LM0 hB) rfl (ct_Md_isLoose hB e12) cl_Md_220 rfl (by decide) (by decide) hl.1 (Nat.le_of_ble_eq_true rfl) dd_Md_allRun_82 (fun H lo P => ?_)
      refine pj_if_eq C h dd_Md_allRun_85 (fun h => ?_) (fun h => ?_)
      · exact bt_Md_allRun_109 hB C Q s39 k39 _ _ _ _ _ _ _ h P (lv_sub hl [4, 5, 2, 0] rfl)
      · refine pj_aload_n C dd_Md_allRun_88 rfl hl 4 rfl ?_
        refine pj_iload C dd_Md_allRun_89 hl 1 rfl ?_
        refine pj_iload_n C dd_Md_allRun_91 rfl hl 5 rfl ?_
        obtain ⟨r17, z16, e15, h⟩ := pj_cE h
        refine pj_cVi (st := []) [.int r8, .int v1] C P 0 (LM0 hB) rfl (ct_Md_isQueued hB e15) cl_Md_226 rfl (by decide) (by decide) hl.1 (Nat.le_of_ble_eq_true rfl) dd_Md_allRun_92 (fun H lo P => ?_)
        refine pj_if_ne C h dd_Md_allRun_95 (fun h => ?_) (fun h => ?_)
        · exact bt_Md_allRun_109 hB C Q s39 k39 _ _ _ _ _ _ _ h P (lv_sub hl [4, 5, 2, 0] rfl)
        · refine pj_aload_n C dd_Md_allRun_98 rfl hl 4 rfl ?_
          refine pj_getR C P 0 (LM0 hB) rfl fl_Md_47 dd_Md_allRun_99 ?_
          refine pj_iload_n C dd_Md_allRun_102 rfl hl 5 rfl ?_
          refine pj_iload C dd_Md_allRun_103 hl 1 rfl ?_
          refine pj_iast C P 12 (LM12 hB) h dd_Md_allRun_105 (fun H lo z18 h P => ?_)
          refine pj_iinc (v := (nI 1)) [(5, .int r11), (4, .int r8), (2, .int x2), (3, .int x1), (0, .ref (B.2.1 0))] C h rfl dd_Md_allRun_106 hl 5 rfl (by decide) rfl (fun x19 ls h hl => ?_)
          exact bt_Md_allRun_109 hB C Q s39 k39 _ _ _ _ _ _ _ h P (lv_sub hl [5, 0, 3, 1] rfl)
theorem lt_Md_allRun_39 {B : pj_B} {A : Nat → Prop} {K : pj_K} {r0 : Int32} {z0 : pj_S} (hB : B.2.2.2.1 = pj_LM) (C : pj_C B A K cX11_allRun 6 RX11 4) (Q : pj_Qi B A K (some .int) r0 z0)  : ∀ (n : Nat) (v1 : Int32) (v2 : Int32) (z : pj_S) (H : Heap) (lo : List Loc) (ls : Array Slot), pj_lp2 Md_allRun_39 n v1 v2 z = some (r0, z0) → pj_P B A K z H lo → lv_has ls 6 [(0, .ref (B.2.1 0)), (1, .int v1), (2, .int v2)] → pj_W K H lo 39 ls [] := by
  intro n
  induction n with
  | zero => intro v1 v2 z H lo ls h; rw [pj_lp2_0] at h; cases h
  | succ n ih =>
    intro v1 v2 z H lo ls h P hl
    rw [pj_lp2_s] at h
    exact bt_Md_allRun_39 hB C Q   (pj_lp2 Md_allRun_39 n) ih v1 v2 z H lo ls h P hl
set_option maxHeartbeats 4000000 in
set_option maxRecDepth 100000 in
theorem bt_Md_allRun_37 {B : pj_B} {A : Nat → Prop} {K : pj_K} {r0 : Int32} {z0 : pj_S} (hB : B.2.2.2.1 = pj_LM) (C : pj_C B A K cX11_allRun 6 RX11 4) (Q : pj_Qi B A K (some .int) r0 z0)  (v1 : Int32) (z : pj_S) (H : Heap) (lo : List Loc) (ls : Array Slot) (h : Md_allRun_37 v1 z = some (r0, z0)) (P : pj_P B A K z H lo) (hl : lv_has ls 6 [(0, .ref (B.2.1 0)), (1, .int v1)]) : pj_W K H lo 37 ls [] := by
  unfold Md_allRun_37 at h
  refine pj_iconst (v := (nI 0)) C dd_Md_allRun_37 rfl ?_
  refine pj_istore_n [(2, .int (nI 0)), (0, .ref (B.2.1 0)), (1, .int v1)] C dd_Md_allRun_38 rfl hl (by decide) rfl (fun ls hl => ?_)
  exact lt_Md_allRun_39 hB C Q 4000 _ _ _ _ _ _ h P (lv_sub hl [1, 2, 0] rfl)
set_option maxHeartbeats 4000000 in
set_option maxRecDepth 100000 in
theorem bt_Md_allRun_31 {B : pj_B} {A : Nat → Prop} {K : pj_K} {r0 : Int32} {z0 : pj_S} (hB : B.2.2.2.1 = pj_LM) (C : pj_C B A K cX11_allRun 6 RX11 4) (Q : pj_Qi B A K (some .int) r0 z0) (s4 : Int32 → Int32 → pj_S → Option (Int32 × pj_S)) (k4 : ∀ (v1 : Int32) (v2 : Int32) (z : pj_S) (H : Heap) (lo : List Loc) (ls : Array Slot), s4 v1 v2 z = some (r0, z0) → pj_P B A K z H lo → lv_has ls 6 [(0, .ref (B.2.1 0)), (1, .int v1), (2, .int v2)] → pj_W K H lo 4 ls []) (v1 : Int32) (v2 : Int32) (z : pj_S) (H : Heap) (lo : List Loc) (ls : Array Slot) (h : Md_allRun_31 s4 v1 v2 z = some (r0, z0)) (P : pj_P B A K z H lo) (hl : lv_has ls 6 [(0, .ref (B.2.1 0)), (1, .int v1), (2, .int v2)]) : pj_W K H lo 31 ls [] := by
  unfold Md_allRun_31 at h
  refine pj_iinc (v := (nI 1)) [(0, .ref (B.2.1 0)), (1, .int v1)] C h rfl dd_Md_allRun_31 hl 2 rfl (by decide) rfl (fun x1 ls h hl => ?_)
  refine pj_goto C dd_Md_allRun_34 ?_
  exact k4 _ _ _ _ _ _ h P (lv_sub hl [1, 2, 0] rfl)
set_option maxHeartbeats 4000000 in
set_option maxRecDepth 100000 in
theorem bt_Md_allRun_4 {B : pj_B} {A : Nat → Prop} {K : pj_K} {r0 : Int32} {z0 : pj_S} (hB : B.2.2.2.1 = pj_LM) (C : pj_C B A K cX11_allRun 6 RX11 4) (Q : pj_Qi B A K (some .int) r0 z0) (s4 : Int32 → Int32 → pj_S → Option (Int32 × pj_S)) (k4 : ∀ (v1 : Int32) (v2 : Int32) (z : pj_S) (H : Heap) (lo : List Loc) (ls : Array Slot), s4 v1 v2 z = some (r0, z0) → pj_P B A K z H lo → lv_has ls 6 [(0, .ref (B.2.1 0)), (1, .int v1), (2, .int v2)] → pj_W K H lo 4 ls []) (v1 : Int32) (v2 : Int32) (z : pj_S) (H : Heap) (lo : List Loc) (ls : Array Slot) (h : Md_allRun_4 s4 v1 v2 z = some (r0, z0)) (P : pj_P B A K z H lo) (hl : lv_has ls 6 [(0, .ref (B.2.1 0)), (1, .int v1), (2, .int v2)]) : pj_W K H lo 4 ls [] := by
  unfold Md_allRun_4 at h
  refine pj_iload_n C dd_Md_allRun_4 rfl hl 2 rfl ?_
  refine pj_bipush (v := (nI 64)) C dd_Md_allRun_5 rfl ?_
  refine pj_ic_ge C h dd_Md_allRun_7 (fun h => ?_) (fun h => ?_)
  · exact bt_Md_allRun_37 hB C Q _ _ _ _ _ h P (lv_sub hl [0, 1] rfl)
  · refine pj_aload_n C dd_Md_allRun_10 rfl hl 0 rfl ?_
    refine pj_iload_n C dd_Md_allRun_11 rfl hl 2 rfl ?_
    obtain ⟨r3, z2, e1, h⟩ := pj_cE h
    refine pj_cVi (st := []) [.int v2] C P 0 (LM0 hB) rfl (ct_Md_isLoose hB e1) cl_Md_220 rfl (by decide) (by decide) hl.1 (Nat.le_of_ble_eq_true rfl) dd_Md_allRun_12 (fun H lo P => ?_)
    refine pj_if_ne C h dd_Md_allRun_15 (fun h => ?_) (fun h => ?_)
    · refine pj_aload_n C dd_Md_allRun_21 rfl hl 0 rfl ?_
      refine pj_getR C P 0 (LM0 hB) rfl fl_Md_47 dd_Md_allRun_22 ?_
      refine pj_iload_n C dd_Md_allRun_25 rfl hl 1 rfl ?_
      refine pj_iload_n C dd_Md_allRun_26 rfl hl 2 rfl ?_
      refine pj_iast C P 12 (LM12 hB) h dd_Md_allRun_27 (fun H lo z4 h P => ?_)
      refine pj_iinc (v := (nI 1)) [(0, .ref (B.2.1 0)), (2, .int v2)] C h rfl dd_Md_allRun_28 hl 1 rfl (by decide) rfl (fun x5 ls h hl => ?_)
      exact bt_Md_allRun_31 hB C Q s4 k4 _ _ _ _ _ _ h P (lv_sub hl [1, 0, 2] rfl)
    · refine pj_goto C dd_Md_allRun_18 ?_
      exact bt_Md_allRun_31 hB C Q s4 k4 _ _ _ _ _ _ h P (lv_sub hl [0, 1, 2] rfl)
theorem lt_Md_allRun_4 {B : pj_B} {A : Nat → Prop} {K : pj_K} {r0 : Int32} {z0 : pj_S} (hB : B.2.2.2.1 = pj_LM) (C : pj_C B A K cX11_allRun 6 RX11 4) (Q : pj_Qi B A K (some .int) r0 z0)  : ∀ (n : Nat) (v1 : Int32) (v2 : Int32) (z : pj_S) (H : Heap) (lo : List Loc) (ls : Array Slot), pj_lp2 Md_allRun_4 n v1 v2 z = some (r0, z0) → pj_P B A K z H lo → lv_has ls 6 [(0, .ref (B.2.1 0)), (1, .int v1), (2, .int v2)] → pj_W K H lo 4 ls [] := by
  intro n
  induction n with
  | zero => intro v1 v2 z H lo ls h; rw [pj_lp2_0] at h; cases h
  | succ n ih =>
    intro v1 v2 z H lo ls h P hl
    rw [pj_lp2_s] at h
    exact bt_Md_allRun_4 hB C Q   (pj_lp2 Md_allRun_4 n) ih v1 v2 z H lo ls h P hl
set_option maxHeartbeats 4000000 in
set_option maxRecDepth 100000 in
theorem ct_Md_allRun {l : Launch} {B : pj_B} (hB : B.2.2.2.1 = pj_LM)  {z : pj_S} {r0 : Int32} {z0 : pj_S} (h : Md_allRun z = some (r0, z0)) : pj_Mi l yX11_allRun cX11_allRun 6 (some .int) 4 [.ref (B.2.1 0)] B z r0 z0 := by
  refine pj_meti (own := RX11) (by decide +kernel) rfl (Nat.le_of_ble_eq_true rfl) ?_
  intro A K hK C Q H lo ls P hl
  have hl : lv_has ls 6 [(0, .ref (B.2.1 0))] := hl
  unfold Md_allRun at h
  refine pj_iconst (v := (nI 0)) C dd_Md_allRun_0 rfl ?_
  refine pj_istore_n [(1, .int (nI 0)), (0, .ref (B.2.1 0))] C dd_Md_allRun_1 rfl hl (by decide) rfl (fun ls hl => ?_)
  refine pj_iconst (v := (nI 0)) C dd_Md_allRun_2 rfl ?_
  refine pj_istore_n [(2, .int (nI 0)), (1, .int (nI 0)), (0, .ref (B.2.1 0))] C dd_Md_allRun_3 rfl hl (by decide) rfl (fun ls hl => ?_)
  exact lt_Md_allRun_4 hB C Q 4000 _ _ _ _ _ _ h P (lv_sub hl [2, 1, 0] rfl)
theorem dd_Md_runs_0 : pj_d cX11_runs 0 (.aload_n 0) 1 1 := ⟨by decide +kernel, rfl⟩
theorem dd_Md_runs_1 : pj_d cX11_runs 1 (.iload_n 1) 1 2 := ⟨by decide +kernel, rfl⟩
theorem dd_Md_runs_2 : pj_d cX11_runs 2 (.invokevirtual 63) 3 5 := ⟨by decide +kernel, rfl⟩
theorem dd_Md_runs_5 : pj_dj cX11_runs 5 (.ifCond .eq 24) 24 8 29 := ⟨by decide +kernel, rfl, by decide⟩
theorem dd_Md_runs_8 : pj_d cX11_runs 8 (.aload_n 0) 1 9 := ⟨by decide +kernel, rfl⟩
theorem dd_Md_runs_9 : pj_d cX11_runs 9 (.getfield 7) 3 12 := ⟨by decide +kernel, rfl⟩
theorem dd_Md_runs_12 : pj_d cX11_runs 12 (.bipush 74) 2 14 := ⟨by decide +kernel, rfl⟩
theorem dd_Md_runs_14 : pj_d cX11_runs 14 (.iload_n 1) 1 15 := ⟨by decide +kernel, rfl⟩
theorem dd_Md_runs_15 : pj_d cX11_runs 15 (.iadd) 1 16 := ⟨by decide +kernel, rfl⟩
theorem dd_Md_runs_16 : pj_d cX11_runs 16 (.iaload) 1 17 := ⟨by decide +kernel, rfl⟩
theorem dd_Md_runs_17 : pj_dj cX11_runs 17 (.ifCond .eq 12) 12 20 29 := ⟨by decide +kernel, rfl, by decide⟩
theorem dd_Md_runs_20 : pj_d cX11_runs 20 (.iload_n 2) 1 21 := ⟨by decide +kernel, rfl⟩
theorem dd_Md_runs_21 : pj_d cX11_runs 21 (.iconst 0) 1 22 := ⟨by decide +kernel, rfl⟩
theorem dd_Md_runs_22 : pj_d cX11_runs 22 (.iconst 1) 1 23 := ⟨by decide +kernel, rfl⟩
theorem dd_Md_runs_23 : pj_d cX11_runs 23 (.invokestatic 70) 3 26 := ⟨by decide +kernel, rfl⟩
theorem dd_Md_runs_26 : pj_dj cX11_runs 26 (.ifCond .ne 5) 5 29 31 := ⟨by decide +kernel, rfl, by decide⟩
theorem dd_Md_runs_29 : pj_d cX11_runs 29 (.iconst (-1)) 1 30 := ⟨by decide +kernel, rfl⟩
theorem dd_Md_runs_30 : pj_d cX11_runs 30 (.ireturn) 1 31 := ⟨by decide +kernel, rfl⟩
theorem dd_Md_runs_31 : pj_d cX11_runs 31 (.aload_n 0) 1 32 := ⟨by decide +kernel, rfl⟩
theorem dd_Md_runs_32 : pj_d cX11_runs 32 (.invokevirtual 267) 3 35 := ⟨by decide +kernel, rfl⟩
theorem dd_Md_runs_35 : pj_d cX11_runs 35 (.aload_n 0) 1 36 := ⟨by decide +kernel, rfl⟩
theorem dd_Md_runs_36 : pj_d cX11_runs 36 (.invokevirtual 270) 3 39 := ⟨by decide +kernel, rfl⟩
theorem dd_Md_runs_39 : pj_d cX11_runs 39 (.aload_n 0) 1 40 := ⟨by decide +kernel, rfl⟩
theorem dd_Md_runs_40 : pj_d cX11_runs 40 (.iload_n 1) 1 41 := ⟨by decide +kernel, rfl⟩
theorem dd_Md_runs_41 : pj_d cX11_runs 41 (.invokevirtual 223) 3 44 := ⟨by decide +kernel, rfl⟩
theorem dd_Md_runs_44 : pj_d cX11_runs 44 (.aload_n 0) 1 45 := ⟨by decide +kernel, rfl⟩
theorem dd_Md_runs_45 : pj_d cX11_runs 45 (.invokevirtual 292) 3 48 := ⟨by decide +kernel, rfl⟩
theorem dd_Md_runs_48 : pj_d cX11_runs 48 (.istore_n 3) 1 49 := ⟨by decide +kernel, rfl⟩
theorem dd_Md_runs_49 : pj_d cX11_runs 49 (.iload_n 2) 1 50 := ⟨by decide +kernel, rfl⟩
theorem dd_Md_runs_50 : pj_dj cX11_runs 50 (.ifCond .ne 5) 5 53 55 := ⟨by decide +kernel, rfl, by decide⟩
theorem dd_Md_runs_53 : pj_d cX11_runs 53 (.iload_n 3) 1 54 := ⟨by decide +kernel, rfl⟩
theorem dd_Md_runs_54 : pj_d cX11_runs 54 (.ireturn) 1 55 := ⟨by decide +kernel, rfl⟩
theorem dd_Md_runs_55 : pj_d cX11_runs 55 (.iconst (-1)) 1 56 := ⟨by decide +kernel, rfl⟩
theorem dd_Md_runs_56 : pj_d cX11_runs 56 (.istore 4) 2 58 := ⟨by decide +kernel, rfl⟩
theorem dd_Md_runs_58 : pj_d cX11_runs 58 (.iconst 0) 1 59 := ⟨by decide +kernel, rfl⟩
theorem dd_Md_runs_59 : pj_d cX11_runs 59 (.istore 5) 2 61 := ⟨by decide +kernel, rfl⟩
theorem dd_Md_runs_61 : pj_d cX11_runs 61 (.iload 5) 2 63 := ⟨by decide +kernel, rfl⟩
theorem dd_Md_runs_63 : pj_d cX11_runs 63 (.iload_n 3) 1 64 := ⟨by decide +kernel, rfl⟩
theorem dd_Md_runs_64 : pj_dj cX11_runs 64 (.if_icmp .ge 45) 45 67 109 := ⟨by decide +kernel, rfl, by decide⟩
theorem dd_Md_runs_67 : pj_d cX11_runs 67 (.iload 4) 2 69 := ⟨by decide +kernel, rfl⟩
theorem dd_Md_runs_69 : pj_d cX11_runs 69 (.iconst (-1)) 1 70 := ⟨by decide +kernel, rfl⟩
theorem dd_Md_runs_70 : pj_dj cX11_runs 70 (.if_icmp .ne 16) 16 73 86 := ⟨by decide +kernel, rfl, by decide⟩
theorem dd_Md_runs_73 : pj_d cX11_runs 73 (.aload_n 0) 1 74 := ⟨by decide +kernel, rfl⟩
theorem dd_Md_runs_74 : pj_d cX11_runs 74 (.getfield 47) 3 77 := ⟨by decide +kernel, rfl⟩
theorem dd_Md_runs_77 : pj_d cX11_runs 77 (.iload 5) 2 79 := ⟨by decide +kernel, rfl⟩
theorem dd_Md_runs_79 : pj_d cX11_runs 79 (.iaload) 1 80 := ⟨by decide +kernel, rfl⟩
theorem dd_Md_runs_80 : pj_d cX11_runs 80 (.bipush 8) 2 82 := ⟨by decide +kernel, rfl⟩
theorem dd_Md_runs_82 : pj_d cX11_runs 82 (.idiv) 1 83 := ⟨by decide +kernel, rfl⟩
theorem dd_Md_runs_83 : pj_dj cX11_runs 83 (.goto 18) 18 86 101 := ⟨by decide +kernel, rfl, by decide⟩
theorem dd_Md_runs_86 : pj_d cX11_runs 86 (.iload 4) 2 88 := ⟨by decide +kernel, rfl⟩
theorem dd_Md_runs_88 : pj_d cX11_runs 88 (.aload_n 0) 1 89 := ⟨by decide +kernel, rfl⟩
theorem dd_Md_runs_89 : pj_d cX11_runs 89 (.getfield 47) 3 92 := ⟨by decide +kernel, rfl⟩
theorem dd_Md_runs_92 : pj_d cX11_runs 92 (.iload 5) 2 94 := ⟨by decide +kernel, rfl⟩
theorem dd_Md_runs_94 : pj_d cX11_runs 94 (.iaload) 1 95 := ⟨by decide +kernel, rfl⟩
theorem dd_Md_runs_95 : pj_d cX11_runs 95 (.bipush 8) 2 97 := ⟨by decide +kernel, rfl⟩
theorem dd_Md_runs_97 : pj_d cX11_runs 97 (.idiv) 1 98 := ⟨by decide +kernel, rfl⟩
theorem dd_Md_runs_98 : pj_d cX11_runs 98 (.invokestatic 234) 3 101 := ⟨by decide +kernel, rfl⟩
theorem dd_Md_runs_101 : pj_d cX11_runs 101 (.istore 4) 2 103 := ⟨by decide +kernel, rfl⟩
theorem dd_Md_runs_103 : pj_d cX11_runs 103 (.iinc 5 1) 3 106 := ⟨by decide +kernel, rfl⟩
theorem dd_Md_runs_106 : pj_dj cX11_runs 106 (.goto (-45)) (-45) 109 61 := ⟨by decide +kernel, rfl, by decide⟩
theorem dd_Md_runs_109 : pj_d cX11_runs 109 (.iload 4) 2 111 := ⟨by decide +kernel, rfl⟩
theorem dd_Md_runs_111 : pj_d cX11_runs 111 (.ireturn) 1 112 := ⟨by decide +kernel, rfl⟩
set_option maxHeartbeats 4000000 in
set_option maxRecDepth 100000 in
theorem bt_Md_runs_101 {B : pj_B} {A : Nat → Prop} {K : pj_K} {r0 : Int32} {z0 : pj_S} (hB : B.2.2.2.1 = pj_LM) (C : pj_C B A K cX11_runs 6 RX11 5) (Q : pj_Qi B A K (some .int) r0 z0) (s61 : Int32 → Int32 → Int32 → pj_S → Option (Int32 × pj_S)) (k61 : ∀ (v3 : Int32) (v4 : Int32) (v5 : Int32) (z : pj_S) (H : Heap) (lo : List Loc) (ls : Array Slot), s61 v3 v4 v5 z = some (r0, z0) → pj_P B A K z H lo → lv_has ls 6 [(0, .ref (B.2.1 0)), (3, .int v3), (4, .int v4), (5, .int v5)] → pj_W K H lo 61 ls []) (v3 : Int32) (v5 : Int32) (t0 : Int32) (z : pj_S) (H : Heap) (lo : List Loc) (ls : Array Slot) (h : Md_runs_101 s61 v3 v5 t0 z = some (r0, z0)) (P : pj_P B A K z H lo) (hl : lv_has ls 6 [(0, .ref (B.2.1 0)), (3, .int v3), (5, .int v5)]) : pj_W K H lo 101 ls [.int t0] := by
  unfold Md_runs_101 at h
  refine pj_istore [(4, .int t0), (0, .ref (B.2.1 0)), (3, .int v3), (5, .int v5)] C dd_Md_runs_101 hl (by decide) rfl (fun ls hl => ?_)
  refine pj_iinc (v := (nI 1)) [(4, .int t0), (0, .ref (B.2.1 0)), (3, .int v3)] C h rfl dd_Md_runs_103 hl 3 rfl (by decide) rfl (fun x1 ls h hl => ?_)
  refine pj_goto C dd_Md_runs_106 ?_
  exact k61 _ _ _ _ _ _ _ h P (lv_sub hl [2, 3, 1, 0] rfl)
set_option maxHeartbeats 4000000 in
set_option maxRecDepth 100000 in
theorem bt_Md_runs_109 {B : pj_B} {A : Nat → Prop} {K : pj_K} {r0 : Int32} {z0 : pj_S} (hB : B.2.2.2.1 = pj_LM) (C : pj_C B A K cX11_runs 6 RX11 5) (Q : pj_Qi B A K (some .int) r0 z0)  (v4 : Int32) (z : pj_S) (H : Heap) (lo : List Loc) (ls : Array Slot) (h : Md_runs_109 v4 z = some (r0, z0)) (P : pj_P B A K z H lo) (hl : lv_has ls 6 [(4, .int v4)]) : pj_W K H lo 109 ls [] := by
  unfold Md_runs_109 at h
  refine pj_iload C dd_Md_runs_109 hl 0 rfl ?_
  exact pj_iret C Q P h dd_Md_runs_111
set_option maxHeartbeats 4000000 in
set_option maxRecDepth 100000 in
theorem bt_Md_runs_61 {B : pj_B} {A : Nat → Prop} {K : pj_K} {r0 : Int32} {z0 : pj_S} (hB : B.2.2.2.1 = pj_LM) (C : pj_C B A K cX11_runs 6 RX11 5) (Q : pj_Qi B A K (some .int) r0 z0) (s61 : Int32 → Int32 → Int32 → pj_S → Option (Int32 × pj_S)) (k61 : ∀ (v3 : Int32) (v4 : Int32) (v5 : Int32) (z : pj_S) (H : Heap) (lo : List Loc) (ls : Array Slot), s61 v3 v4 v5 z = some (r0, z0) → pj_P B A K z H lo → lv_has ls 6 [(0, .ref (B.2.1 0)), (3, .int v3), (4, .int v4), (5, .int v5)] → pj_W K H lo 61 ls []) (v3 : Int32) (v4 : Int32) (v5 : Int32) (z : pj_S) (H : Heap) (lo : List Loc) (ls : Array Slot) (h : Md_runs_61 s61 v3 v4 v5 z = some (r0, z0)) (P : pj_P B A K z H lo) (hl : lv_has ls 6 [(0, .ref (B.2.1 0)), (3, .int v3), (4, .int v4), (5, .int v5)]) : pj_W K H lo 61 ls [] := by
  unfold Md_runs_61 at h
  refine pj_iload C dd_Md_runs_61 hl 3 rfl ?_
  refine pj_iload_n C dd_Md_runs_63 rfl hl 1 rfl ?_
  refine pj_ic_ge C h dd_Md_runs_64 (fun h => ?_) (fun h => ?_)
  · exact bt_Md_runs_109 hB C Q _ _ _ _ _ h P (lv_sub hl [2] rfl)
  · refine pj_iload C dd_Md_runs_67 hl 2 rfl ?_
    refine pj_iconst (v := (-1 : Int32)) C dd_Md_runs_69 rfl ?_
    refine pj_ic_ne C h dd_Md_runs_70 (fun h => ?_) (fun h => ?_)
    · refine pj_iload C dd_Md_runs_86 hl 2 rfl ?_
      refine pj_aload_n C dd_Md_runs_88 rfl hl 0 rfl ?_
      refine pj_getR C P 0 (LM0 hB) rfl fl_Md_47 dd_Md_runs_89 ?_
      refine pj_iload C dd_Md_runs_92 hl 3 rfl ?_
      refine pj_iald C P 12 (LM12 hB) h dd_Md_runs_94 (fun h => ?_)
      refine pj_bipush (v := (nI 8)) C dd_Md_runs_95 rfl ?_
      refine pj_idiv C h dd_Md_runs_97 (fun h => ?_)
      obtain ⟨r3, z2, e1, h⟩ := pj_cE h
      refine pj_cSi (st := []) [.int v4, .int ((z.1 12 (Int32.toNatClampNeg v5)) / (nI 8))] C P (ct_Md_leastM hB e1) cl_Md_234 rfl (by decide) (by decide) hl.1 (Nat.le_of_ble_eq_true rfl) dd_Md_runs_98 (fun H lo P => ?_)
      exact bt_Md_runs_101 hB C Q s61 k61 _ _ _ _ _ _ _ h P (lv_sub hl [0, 1, 3] rfl)
    · refine pj_aload_n C dd_Md_runs_73 rfl hl 0 rfl ?_
      refine pj_getR C P 0 (LM0 hB) rfl fl_Md_47 dd_Md_runs_74 ?_
      refine pj_iload C dd_Md_runs_77 hl 3 rfl ?_
      refine pj_iald C P 12 (LM12 hB) h dd_Md_runs_79 (fun h => ?_)
      refine pj_bipush (v := (nI 8)) C dd_Md_runs_80 rfl ?_
      refine pj_idiv C h dd_Md_runs_82 (fun h => ?_)
      refine pj_goto C dd_Md_runs_83 ?_
      exact bt_Md_runs_101 hB C Q s61 k61 _ _ _ _ _ _ _ h P (lv_sub hl [0, 1, 3] rfl)
theorem lt_Md_runs_61 {B : pj_B} {A : Nat → Prop} {K : pj_K} {r0 : Int32} {z0 : pj_S} (hB : B.2.2.2.1 = pj_LM) (C : pj_C B A K cX11_runs 6 RX11 5) (Q : pj_Qi B A K (some .int) r0 z0)  : ∀ (n : Nat) (v3 : Int32) (v4 : Int32) (v5 : Int32) (z : pj_S) (H : Heap) (lo : List Loc) (ls : Array Slot), pj_lp3 Md_runs_61 n v3 v4 v5 z = some (r0, z0) → pj_P B A K z H lo → lv_has ls 6 [(0, .ref (B.2.1 0)), (3, .int v3), (4, .int v4), (5, .int v5)] → pj_W K H lo 61 ls [] := by
  intro n
  induction n with
  | zero => intro v3 v4 v5 z H lo ls h; rw [pj_lp3_0] at h; cases h
  | succ n ih =>
    intro v3 v4 v5 z H lo ls h P hl
    rw [pj_lp3_s] at h
    exact bt_Md_runs_61 hB C Q   (pj_lp3 Md_runs_61 n) ih v3 v4 v5 z H lo ls h P hl
set_option maxHeartbeats 4000000 in
set_option maxRecDepth 100000 in
theorem ct_Md_runs {l : Launch} {B : pj_B} (hB : B.2.2.2.1 = pj_LM) {v1 : Int32} {v2 : Int32} {z : pj_S} {r0 : Int32} {z0 : pj_S} (h : Md_runs v1 v2 z = some (r0, z0)) : pj_Mi l yX11_runs cX11_runs 6 (some .int) 5 [.ref (B.2.1 0), .int v1, .int v2] B z r0 z0 := by
  refine pj_meti (own := RX11) (by decide +kernel) rfl (Nat.le_of_ble_eq_true rfl) ?_
  intro A K hK C Q H lo ls P hl
  have hl : lv_has ls 6 [(0, .ref (B.2.1 0)), (1, .int v1), (2, .int v2)] := hl
  unfold Md_runs at h
  refine pj_aload_n C dd_Md_runs_0 rfl hl 0 rfl ?_
  refine pj_iload_n C dd_Md_runs_1 rfl hl 1 rfl ?_
  obtain ⟨r3, z2, e1, h⟩ := pj_cE h
  refine pj_cVi (st := []) [.int v1] C P 0 (LM0 hB) rfl (ct_Md_isStitch hB e1) cl_Md_63 rfl (by decide) (by decide) hl.1 (Nat.le_of_ble_eq_true rfl) dd_Md_runs_2 (fun H lo P => ?_)
  refine pj_if_eq C h dd_Md_runs_5 (fun h => ?_) (fun h => ?_)
  · refine pj_iconst (v := (-1 : Int32)) C dd_Md_runs_29 rfl ?_
    exact pj_iret C Q P h dd_Md_runs_30
  · refine pj_aload_n C dd_Md_runs_8 rfl hl 0 rfl ?_
    refine pj_getR C P 0 (LM0 hB) rfl fl_Md_7 dd_Md_runs_9 ?_
    refine pj_bipush (v := (nI 74)) C dd_Md_runs_12 rfl ?_
    refine pj_iload_n C dd_Md_runs_14 rfl hl 1 rfl ?_
    refine pj_iadd C dd_Md_runs_15 ?_
    refine pj_iald C P 1 (LM1 hB) h dd_Md_runs_16 (fun h => ?_)
    refine pj_if_eq C h dd_Md_runs_17 (fun h => ?_) (fun h => ?_)
    · refine pj_iconst (v := (-1 : Int32)) C dd_Md_runs_29 rfl ?_
      exact pj_iret C Q P h dd_Md_runs_30
    · refine pj_iload_n C dd_Md_runs_20 rfl hl 2 rfl ?_
      refine pj_iconst (v := (nI 0)) C dd_Md_runs_21 rfl ?_
      refine pj_iconst (v := (nI 1)) C dd_Md_runs_22 rfl ?_
      obtain ⟨r6, z5, e4, h⟩ := pj_cE h
      refine pj_cSi (st := []) [.int v2, .int (nI 0), .int (nI 1)] C P (ct_Md_isInM hB e4) cl_Md_70 rfl (by decide) (by decide) hl.1 (Nat.le_of_ble_eq_true rfl) dd_Md_runs_23 (fun H lo P => ?_)
      refine pj_if_ne C h dd_Md_runs_26 (fun h => ?_) (fun h => ?_)
      · refine pj_aload_n C dd_Md_runs_31 rfl hl 0 rfl ?_
        obtain ⟨r9, z8, e7, h⟩ := pj_cE h
        refine pj_cVv (st := []) [] C P 0 (LM0 hB) rfl (ct_Md_laysNow hB e7) cl_Md_267 rfl (by decide) (by decide) hl.1 (Nat.le_of_ble_eq_true rfl) dd_Md_runs_32 (fun H lo P => ?_)
        refine pj_aload_n C dd_Md_runs_35 rfl hl 0 rfl ?_
        obtain ⟨r12, z11, e10, h⟩ := pj_cE h
        refine pj_cVv (st := []) [] C P 0 (LM0 hB) rfl (ct_Md_laysHolders hB e10) cl_Md_270 rfl (by decide) (by decide) hl.1 (Nat.le_of_ble_eq_true rfl) dd_Md_runs_36 (fun H lo P => ?_)
        refine pj_aload_n C dd_Md_runs_39 rfl hl 0 rfl ?_
        refine pj_iload_n C dd_Md_runs_40 rfl hl 1 rfl ?_
        obtain ⟨r15, z14, e13, h⟩ := pj_cE h
        refine pj_cVv (st := []) [.int v1] C P 0 (LM0 hB) rfl (ct_Md_goes hB e13) cl_Md_223 rfl (by decide) (by decide) hl.1 (Nat.le_of_ble_eq_true rfl) dd_Md_runs_41 (fun H lo P => ?_)
        refine pj_aload_n C dd_Md_runs_44 rfl hl 0 rfl ?_
        obtain ⟨r18, z17, e16, h⟩ := pj_cE h
        refine pj_cVi (st := []) [] C P 0 (LM0 hB) rfl (ct_Md_allRun hB e16) cl_Md_292 rfl (by decide) (by decide) hl.1 (Nat.le_of_ble_eq_true rfl) dd_Md_runs_45 (fun H lo P => ?_)
        refine pj_istore_n [(3, .int r18), (0, .ref (B.2.1 0)), (1, .int v1), (2, .int v2)] C dd_Md_runs_48 rfl hl (by decide) rfl (fun ls hl => ?_)
        refine pj_iload_n C dd_Md_runs_49 rfl hl 3 rfl ?_
        refine pj_if_ne C h dd_Md_runs_50 (fun h => ?_) (fun h => ?_)
        · refine pj_iconst (v := (-1 : Int32)) C dd_Md_runs_55 rfl ?_
          refine pj_istore [(4, .int (-1 : Int32)), (3, .int r18), (0, .ref (B.2.1 0)), (1, .int v1), (2, .int v2)] C dd_Md_runs_56 hl (by decide) rfl (fun ls hl => ?_)
          refine pj_iconst (v := (nI 0)) C dd_Md_runs_58 rfl ?_
          refine pj_istore [(5, .int (nI 0)), (4, .int (-1 : Int32)), (3, .int r18), (0, .ref (B.2.1 0)), (1, .int v1), (2, .int v2)] C dd_Md_runs_59 hl (by decide) rfl (fun ls hl => ?_)
          exact lt_Md_runs_61 hB C Q 4000 _ _ _ _ _ _ _ h P (lv_sub hl [3, 2, 1, 0] rfl)
        · refine pj_iload_n C dd_Md_runs_53 rfl hl 0 rfl ?_
          exact pj_iret C Q P h dd_Md_runs_54
      · refine pj_iconst (v := (-1 : Int32)) C dd_Md_runs_29 rfl ?_
        exact pj_iret C Q P h dd_Md_runs_30
theorem dd_Md_canCatch_0 : pj_d cX11_canCatch 0 (.aload_n 0) 1 1 := ⟨by decide +kernel, rfl⟩
theorem dd_Md_canCatch_1 : pj_d cX11_canCatch 1 (.getfield 7) 3 4 := ⟨by decide +kernel, rfl⟩
theorem dd_Md_canCatch_4 : pj_d cX11_canCatch 4 (.bipush 74) 2 6 := ⟨by decide +kernel, rfl⟩
theorem dd_Md_canCatch_6 : pj_d cX11_canCatch 6 (.iload_n 1) 1 7 := ⟨by decide +kernel, rfl⟩
theorem dd_Md_canCatch_7 : pj_d cX11_canCatch 7 (.iadd) 1 8 := ⟨by decide +kernel, rfl⟩
theorem dd_Md_canCatch_8 : pj_d cX11_canCatch 8 (.iaload) 1 9 := ⟨by decide +kernel, rfl⟩
theorem dd_Md_canCatch_9 : pj_d cX11_canCatch 9 (.iconst 1) 1 10 := ⟨by decide +kernel, rfl⟩
theorem dd_Md_canCatch_10 : pj_dj cX11_canCatch 10 (.if_icmp .ne 20) 20 13 30 := ⟨by decide +kernel, rfl, by decide⟩
theorem dd_Md_canCatch_13 : pj_d cX11_canCatch 13 (.aload_n 0) 1 14 := ⟨by decide +kernel, rfl⟩
theorem dd_Md_canCatch_14 : pj_d cX11_canCatch 14 (.getfield 7) 3 17 := ⟨by decide +kernel, rfl⟩
theorem dd_Md_canCatch_17 : pj_d cX11_canCatch 17 (.sipush 138) 3 20 := ⟨by decide +kernel, rfl⟩
theorem dd_Md_canCatch_20 : pj_d cX11_canCatch 20 (.iload_n 1) 1 21 := ⟨by decide +kernel, rfl⟩
theorem dd_Md_canCatch_21 : pj_d cX11_canCatch 21 (.iadd) 1 22 := ⟨by decide +kernel, rfl⟩
theorem dd_Md_canCatch_22 : pj_d cX11_canCatch 22 (.iaload) 1 23 := ⟨by decide +kernel, rfl⟩
theorem dd_Md_canCatch_23 : pj_dj cX11_canCatch 23 (.ifCond .ne 7) 7 26 30 := ⟨by decide +kernel, rfl, by decide⟩
theorem dd_Md_canCatch_26 : pj_d cX11_canCatch 26 (.iconst 1) 1 27 := ⟨by decide +kernel, rfl⟩
theorem dd_Md_canCatch_27 : pj_dj cX11_canCatch 27 (.goto 4) 4 30 31 := ⟨by decide +kernel, rfl, by decide⟩
theorem dd_Md_canCatch_30 : pj_d cX11_canCatch 30 (.iconst 0) 1 31 := ⟨by decide +kernel, rfl⟩
theorem dd_Md_canCatch_31 : pj_d cX11_canCatch 31 (.ireturn) 1 32 := ⟨by decide +kernel, rfl⟩
set_option maxHeartbeats 4000000 in
set_option maxRecDepth 100000 in
theorem ct_Md_canCatch {l : Launch} {B : pj_B} (hB : B.2.2.2.1 = pj_LM) {v1 : Int32} {z : pj_S} {r0 : Int32} {z0 : pj_S} (h : Md_canCatch v1 z = some (r0, z0)) : pj_Mi l yX11_canCatch cX11_canCatch 2 (some .boolean) 1 [.ref (B.2.1 0), .int v1] B z r0 z0 := by
  refine pj_meti (own := RX11) (by decide +kernel) rfl (Nat.le_of_ble_eq_true rfl) ?_
  intro A K hK C Q H lo ls P hl
  have hl : lv_has ls 2 [(0, .ref (B.2.1 0)), (1, .int v1)] := hl
  unfold Md_canCatch at h
  refine pj_aload_n C dd_Md_canCatch_0 rfl hl 0 rfl ?_
  refine pj_getR C P 0 (LM0 hB) rfl fl_Md_7 dd_Md_canCatch_1 ?_
  refine pj_bipush (v := (nI 74)) C dd_Md_canCatch_4 rfl ?_
  refine pj_iload_n C dd_Md_canCatch_6 rfl hl 1 rfl ?_
  refine pj_iadd C dd_Md_canCatch_7 ?_
  refine pj_iald C P 1 (LM1 hB) h dd_Md_canCatch_8 (fun h => ?_)
  refine pj_iconst (v := (nI 1)) C dd_Md_canCatch_9 rfl ?_
  refine pj_ic_ne C h dd_Md_canCatch_10 (fun h => ?_) (fun h => ?_)
  · refine pj_iconst (v := (nI 0)) C dd_Md_canCatch_30 rfl ?_
    exact pj_zret C Q P h dd_Md_canCatch_31
  · refine pj_aload_n C dd_Md_canCatch_13 rfl hl 0 rfl ?_
    refine pj_getR C P 0 (LM0 hB) rfl fl_Md_7 dd_Md_canCatch_14 ?_
    refine pj_sipush (v := (nI 138)) C dd_Md_canCatch_17 rfl ?_
    refine pj_iload_n C dd_Md_canCatch_20 rfl hl 1 rfl ?_
    refine pj_iadd C dd_Md_canCatch_21 ?_
    refine pj_iald C P 1 (LM1 hB) h dd_Md_canCatch_22 (fun h => ?_)
    refine pj_if_ne C h dd_Md_canCatch_23 (fun h => ?_) (fun h => ?_)
    · refine pj_iconst (v := (nI 0)) C dd_Md_canCatch_30 rfl ?_
      exact pj_zret C Q P h dd_Md_canCatch_31
    · refine pj_iconst (v := (nI 1)) C dd_Md_canCatch_26 rfl ?_
      refine pj_goto C dd_Md_canCatch_27 ?_
      exact pj_zret C Q P h dd_Md_canCatch_31
theorem dd_Md_saves_0 : pj_d cX11_saves 0 (.iload_n 1) 1 1 := ⟨by decide +kernel, rfl⟩
theorem dd_Md_saves_1 : pj_d cX11_saves 1 (.iload_n 2) 1 2 := ⟨by decide +kernel, rfl⟩
theorem dd_Md_saves_2 : pj_dj cX11_saves 2 (.if_icmp .ne 99) 99 5 101 := ⟨by decide +kernel, rfl, by decide⟩
theorem dd_Md_saves_5 : pj_d cX11_saves 5 (.aload_n 0) 1 6 := ⟨by decide +kernel, rfl⟩
theorem dd_Md_saves_6 : pj_d cX11_saves 6 (.invokevirtual 267) 3 9 := ⟨by decide +kernel, rfl⟩
theorem dd_Md_saves_9 : pj_d cX11_saves 9 (.iconst 0) 1 10 := ⟨by decide +kernel, rfl⟩
theorem dd_Md_saves_10 : pj_d cX11_saves 10 (.istore 4) 2 12 := ⟨by decide +kernel, rfl⟩
theorem dd_Md_saves_12 : pj_d cX11_saves 12 (.iload 4) 2 14 := ⟨by decide +kernel, rfl⟩
theorem dd_Md_saves_14 : pj_d cX11_saves 14 (.iload_n 2) 1 15 := ⟨by decide +kernel, rfl⟩
theorem dd_Md_saves_15 : pj_dj cX11_saves 15 (.if_icmp .ge 22) 22 18 37 := ⟨by decide +kernel, rfl, by decide⟩
theorem dd_Md_saves_18 : pj_d cX11_saves 18 (.aload_n 0) 1 19 := ⟨by decide +kernel, rfl⟩
theorem dd_Md_saves_19 : pj_d cX11_saves 19 (.getfield 41) 3 22 := ⟨by decide +kernel, rfl⟩
theorem dd_Md_saves_22 : pj_d cX11_saves 22 (.aload_n 0) 1 23 := ⟨by decide +kernel, rfl⟩
theorem dd_Md_saves_23 : pj_d cX11_saves 23 (.getfield 53) 3 26 := ⟨by decide +kernel, rfl⟩
theorem dd_Md_saves_26 : pj_d cX11_saves 26 (.iload 4) 2 28 := ⟨by decide +kernel, rfl⟩
theorem dd_Md_saves_28 : pj_d cX11_saves 28 (.iaload) 1 29 := ⟨by decide +kernel, rfl⟩
theorem dd_Md_saves_29 : pj_d cX11_saves 29 (.iconst 1) 1 30 := ⟨by decide +kernel, rfl⟩
theorem dd_Md_saves_30 : pj_d cX11_saves 30 (.iastore) 1 31 := ⟨by decide +kernel, rfl⟩
theorem dd_Md_saves_31 : pj_d cX11_saves 31 (.iinc 4 1) 3 34 := ⟨by decide +kernel, rfl⟩
theorem dd_Md_saves_34 : pj_dj cX11_saves 34 (.goto (-22)) (-22) 37 12 := ⟨by decide +kernel, rfl, by decide⟩
theorem dd_Md_saves_37 : pj_d cX11_saves 37 (.aload_n 0) 1 38 := ⟨by decide +kernel, rfl⟩
theorem dd_Md_saves_38 : pj_d cX11_saves 38 (.invokevirtual 270) 3 41 := ⟨by decide +kernel, rfl⟩
theorem dd_Md_saves_41 : pj_d cX11_saves 41 (.aload_n 0) 1 42 := ⟨by decide +kernel, rfl⟩
theorem dd_Md_saves_42 : pj_d cX11_saves 42 (.invokevirtual 292) 3 45 := ⟨by decide +kernel, rfl⟩
theorem dd_Md_saves_45 : pj_d cX11_saves 45 (.istore 4) 2 47 := ⟨by decide +kernel, rfl⟩
theorem dd_Md_saves_47 : pj_d cX11_saves 47 (.aload_n 0) 1 48 := ⟨by decide +kernel, rfl⟩
theorem dd_Md_saves_48 : pj_d cX11_saves 48 (.getfield 295) 3 51 := ⟨by decide +kernel, rfl⟩
theorem dd_Md_saves_51 : pj_d cX11_saves 51 (.iconst (-1)) 1 52 := ⟨by decide +kernel, rfl⟩
theorem dd_Md_saves_52 : pj_dj cX11_saves 52 (.if_icmp .eq 13) 13 55 65 := ⟨by decide +kernel, rfl, by decide⟩
theorem dd_Md_saves_55 : pj_d cX11_saves 55 (.iload 4) 2 57 := ⟨by decide +kernel, rfl⟩
theorem dd_Md_saves_57 : pj_d cX11_saves 57 (.aload_n 0) 1 58 := ⟨by decide +kernel, rfl⟩
theorem dd_Md_saves_58 : pj_d cX11_saves 58 (.getfield 295) 3 61 := ⟨by decide +kernel, rfl⟩
theorem dd_Md_saves_61 : pj_dj cX11_saves 61 (.if_icmp .lt 4) 4 64 65 := ⟨by decide +kernel, rfl, by decide⟩
theorem dd_Md_saves_64 : pj_d cX11_saves 64 (.return_) 1 65 := ⟨by decide +kernel, rfl⟩
theorem dd_Md_saves_65 : pj_d cX11_saves 65 (.aload_n 0) 1 66 := ⟨by decide +kernel, rfl⟩
theorem dd_Md_saves_66 : pj_d cX11_saves 66 (.iload 4) 2 68 := ⟨by decide +kernel, rfl⟩
theorem dd_Md_saves_68 : pj_d cX11_saves 68 (.putfield 295) 3 71 := ⟨by decide +kernel, rfl⟩
theorem dd_Md_saves_71 : pj_d cX11_saves 71 (.iconst 0) 1 72 := ⟨by decide +kernel, rfl⟩
theorem dd_Md_saves_72 : pj_d cX11_saves 72 (.istore 5) 2 74 := ⟨by decide +kernel, rfl⟩
theorem dd_Md_saves_74 : pj_d cX11_saves 74 (.iload 5) 2 76 := ⟨by decide +kernel, rfl⟩
theorem dd_Md_saves_76 : pj_d cX11_saves 76 (.iload_n 2) 1 77 := ⟨by decide +kernel, rfl⟩
theorem dd_Md_saves_77 : pj_dj cX11_saves 77 (.if_icmp .ge 23) 23 80 100 := ⟨by decide +kernel, rfl, by decide⟩
theorem dd_Md_saves_80 : pj_d cX11_saves 80 (.aload_n 0) 1 81 := ⟨by decide +kernel, rfl⟩
theorem dd_Md_saves_81 : pj_d cX11_saves 81 (.getfield 56) 3 84 := ⟨by decide +kernel, rfl⟩
theorem dd_Md_saves_84 : pj_d cX11_saves 84 (.iload 5) 2 86 := ⟨by decide +kernel, rfl⟩
theorem dd_Md_saves_86 : pj_d cX11_saves 86 (.aload_n 0) 1 87 := ⟨by decide +kernel, rfl⟩
theorem dd_Md_saves_87 : pj_d cX11_saves 87 (.getfield 53) 3 90 := ⟨by decide +kernel, rfl⟩
theorem dd_Md_saves_90 : pj_d cX11_saves 90 (.iload 5) 2 92 := ⟨by decide +kernel, rfl⟩
theorem dd_Md_saves_92 : pj_d cX11_saves 92 (.iaload) 1 93 := ⟨by decide +kernel, rfl⟩
theorem dd_Md_saves_93 : pj_d cX11_saves 93 (.iastore) 1 94 := ⟨by decide +kernel, rfl⟩
theorem dd_Md_saves_94 : pj_d cX11_saves 94 (.iinc 5 1) 3 97 := ⟨by decide +kernel, rfl⟩
theorem dd_Md_saves_97 : pj_dj cX11_saves 97 (.goto (-23)) (-23) 100 74 := ⟨by decide +kernel, rfl, by decide⟩
theorem dd_Md_saves_100 : pj_d cX11_saves 100 (.return_) 1 101 := ⟨by decide +kernel, rfl⟩
theorem dd_Md_saves_101 : pj_d cX11_saves 101 (.iload_n 3) 1 102 := ⟨by decide +kernel, rfl⟩
theorem dd_Md_saves_102 : pj_d cX11_saves 102 (.istore 4) 2 104 := ⟨by decide +kernel, rfl⟩
theorem dd_Md_saves_104 : pj_d cX11_saves 104 (.iload 4) 2 106 := ⟨by decide +kernel, rfl⟩
theorem dd_Md_saves_106 : pj_d cX11_saves 106 (.bipush 64) 2 108 := ⟨by decide +kernel, rfl⟩
theorem dd_Md_saves_108 : pj_dj cX11_saves 108 (.if_icmp .ge 41) 41 111 149 := ⟨by decide +kernel, rfl, by decide⟩
theorem dd_Md_saves_111 : pj_d cX11_saves 111 (.aload_n 0) 1 112 := ⟨by decide +kernel, rfl⟩
theorem dd_Md_saves_112 : pj_d cX11_saves 112 (.iload 4) 2 114 := ⟨by decide +kernel, rfl⟩
theorem dd_Md_saves_114 : pj_d cX11_saves 114 (.invokevirtual 298) 3 117 := ⟨by decide +kernel, rfl⟩
theorem dd_Md_saves_117 : pj_dj cX11_saves 117 (.ifCond .ne 6) 6 120 123 := ⟨by decide +kernel, rfl, by decide⟩
theorem dd_Md_saves_120 : pj_dj cX11_saves 120 (.goto 23) 23 123 143 := ⟨by decide +kernel, rfl, by decide⟩
theorem dd_Md_saves_123 : pj_d cX11_saves 123 (.aload_n 0) 1 124 := ⟨by decide +kernel, rfl⟩
theorem dd_Md_saves_124 : pj_d cX11_saves 124 (.getfield 53) 3 127 := ⟨by decide +kernel, rfl⟩
theorem dd_Md_saves_127 : pj_d cX11_saves 127 (.iload_n 1) 1 128 := ⟨by decide +kernel, rfl⟩
theorem dd_Md_saves_128 : pj_d cX11_saves 128 (.iload 4) 2 130 := ⟨by decide +kernel, rfl⟩
theorem dd_Md_saves_130 : pj_d cX11_saves 130 (.iastore) 1 131 := ⟨by decide +kernel, rfl⟩
theorem dd_Md_saves_131 : pj_d cX11_saves 131 (.aload_n 0) 1 132 := ⟨by decide +kernel, rfl⟩
theorem dd_Md_saves_132 : pj_d cX11_saves 132 (.iload_n 1) 1 133 := ⟨by decide +kernel, rfl⟩
theorem dd_Md_saves_133 : pj_d cX11_saves 133 (.iconst 1) 1 134 := ⟨by decide +kernel, rfl⟩
theorem dd_Md_saves_134 : pj_d cX11_saves 134 (.iadd) 1 135 := ⟨by decide +kernel, rfl⟩
theorem dd_Md_saves_135 : pj_d cX11_saves 135 (.iload_n 2) 1 136 := ⟨by decide +kernel, rfl⟩
theorem dd_Md_saves_136 : pj_d cX11_saves 136 (.iload 4) 2 138 := ⟨by decide +kernel, rfl⟩
theorem dd_Md_saves_138 : pj_d cX11_saves 138 (.iconst 1) 1 139 := ⟨by decide +kernel, rfl⟩
theorem dd_Md_saves_139 : pj_d cX11_saves 139 (.iadd) 1 140 := ⟨by decide +kernel, rfl⟩
theorem dd_Md_saves_140 : pj_d cX11_saves 140 (.invokevirtual 301) 3 143 := ⟨by decide +kernel, rfl⟩
theorem dd_Md_saves_143 : pj_d cX11_saves 143 (.iinc 4 1) 3 146 := ⟨by decide +kernel, rfl⟩
theorem dd_Md_saves_146 : pj_dj cX11_saves 146 (.goto (-42)) (-42) 149 104 := ⟨by decide +kernel, rfl, by decide⟩
theorem dd_Md_saves_149 : pj_d cX11_saves 149 (.return_) 1 150 := ⟨by decide +kernel, rfl⟩
set_option maxHeartbeats 4000000 in
set_option maxRecDepth 100000 in
theorem bt_Md_saves_74 {lv0 : Nat} {B : pj_B} {A : Nat → Prop} {K : pj_K} {r0 : Unit} {z0 : pj_S} (hB : B.2.2.2.1 = pj_LM) (C : pj_C B A K cX11_saves 6 RX11 (lv0 + 1)) (Q : pj_Qv B A K none r0 z0) (hlv : 4 ≤ lv0) {sR : Int32 → Int32 → Int32 → pj_S → Option (Unit × pj_S)} (hR : ∀ (v1 : Int32) (v2 : Int32) (v3 : Int32) (z : pj_S) (r : Unit) (z2 : pj_S), sR v1 v2 v3 z = some (r, z2) → pj_Mv K.2.1 yX11_saves cX11_saves 6 none lv0 [.ref (B.2.1 0), .int v1, .int v2, .int v3] B z r z2) (s74 : Int32 → Int32 → pj_S → Option (Unit × pj_S)) (k74 : ∀ (v2 : Int32) (v5 : Int32) (z : pj_S) (H : Heap) (lo : List Loc) (ls : Array Slot), s74 v2 v5 z = some (r0, z0) → pj_P B A K z H lo → lv_has ls 6 [(0, .ref (B.2.1 0)), (2, .int v2), (5, .int v5)] → pj_W K H lo 74 ls []) (v2 : Int32) (v5 : Int32) (z : pj_S) (H : Heap) (lo : List Loc) (ls : Array Slot) (h : Md_saves_74 sR s74 v2 v5 z = some (r0, z0)) (P : pj_P B A K z H lo) (hl : lv_has ls 6 [(0, .ref (B.2.1 0)), (2, .int v2), (5, .int v5)]) : pj_W K H lo 74 ls [] := by
  unfold Md_saves_74 at h
  refine pj_iload C dd_Md_saves_74 hl 2 rfl ?_
  refine pj_iload_n C dd_Md_saves_76 rfl hl 1 rfl ?_
  refine pj_ic_ge C h dd_Md_saves_77 (fun h => ?_) (fun h => ?_)
  · exact pj_vret C Q P h dd_Md_saves_100
  · refine pj_aload_n C dd_Md_saves_80 rfl hl 0 rfl ?_
    refine pj_getR C P 0 (LM0 hB) rfl fl_Md_56 dd_Md_saves_81 ?_
    refine pj_iload C dd_Md_saves_84 hl 2 rfl ?_
    refine pj_aload_n C dd_Md_saves_86 rfl hl 0 rfl ?_
    refine pj_getR C P 0 (LM0 hB) rfl fl_Md_53 dd_Md_saves_87 ?_
    refine pj_iload C dd_Md_saves_90 hl 2 rfl ?_
    refine pj_iald C P 14 (LM14 hB) h dd_Md_saves_92 (fun h => ?_)
    refine pj_iast C P 15 (LM15 hB) h dd_Md_saves_93 (fun H lo z1 h P => ?_)
    refine pj_iinc (v := (nI 1)) [(0, .ref (B.2.1 0)), (2, .int v2)] C h rfl dd_Md_saves_94 hl 2 rfl (by decide) rfl (fun x2 ls h hl => ?_)
    refine pj_goto C dd_Md_saves_97 ?_
    exact k74 _ _ _ _ _ _ h P (lv_sub hl [1, 2, 0] rfl)
theorem lt_Md_saves_74 {lv0 : Nat} {B : pj_B} {A : Nat → Prop} {K : pj_K} {r0 : Unit} {z0 : pj_S} (hB : B.2.2.2.1 = pj_LM) (C : pj_C B A K cX11_saves 6 RX11 (lv0 + 1)) (Q : pj_Qv B A K none r0 z0) (hlv : 4 ≤ lv0) {sR : Int32 → Int32 → Int32 → pj_S → Option (Unit × pj_S)} (hR : ∀ (v1 : Int32) (v2 : Int32) (v3 : Int32) (z : pj_S) (r : Unit) (z2 : pj_S), sR v1 v2 v3 z = some (r, z2) → pj_Mv K.2.1 yX11_saves cX11_saves 6 none lv0 [.ref (B.2.1 0), .int v1, .int v2, .int v3] B z r z2)  : ∀ (n : Nat) (v2 : Int32) (v5 : Int32) (z : pj_S) (H : Heap) (lo : List Loc) (ls : Array Slot), pj_lp2 (Md_saves_74 sR) n v2 v5 z = some (r0, z0) → pj_P B A K z H lo → lv_has ls 6 [(0, .ref (B.2.1 0)), (2, .int v2), (5, .int v5)] → pj_W K H lo 74 ls [] := by
  intro n
  induction n with
  | zero => intro v2 v5 z H lo ls h; rw [pj_lp2_0] at h; cases h
  | succ n ih =>
    intro v2 v5 z H lo ls h P hl
    rw [pj_lp2_s] at h
    exact bt_Md_saves_74 hB C Q hlv hR  (pj_lp2 (Md_saves_74 sR) n) ih v2 v5 z H lo ls h P hl
set_option maxHeartbeats 4000000 in
set_option maxRecDepth 100000 in
theorem bt_Md_saves_65 {lv0 : Nat} {B : pj_B} {A : Nat → Prop} {K : pj_K} {r0 : Unit} {z0 : pj_S} (hB : B.2.2.2.1 = pj_LM) (C : pj_C B A K cX11_saves 6 RX11 (lv0 + 1)) (Q : pj_Qv B A K none r0 z0) (hlv : 4 ≤ lv0) {sR : Int32 → Int32 → Int32 → pj_S → Option (Unit × pj_S)} (hR : ∀ (v1 : Int32) (v2 : Int32) (v3 : Int32) (z : pj_S) (r : Unit) (z2 : pj_S), sR v1 v2 v3 z = some (r, z2) → pj_Mv K.2.1 yX11_saves cX11_saves 6 none lv0 [.ref (B.2.1 0), .int v1, .int v2, .int v3] B z r z2)  (v2 : Int32) (v4 : Int32) (z : pj_S) (H : Heap) (lo : List Loc) (ls : Array Slot) (h : Md_saves_65 sR v2 v4 z = some (r0, z0)) (P : pj_P B A K z H lo) (hl : lv_has ls 6 [(0, .ref (B.2.1 0)), (2, .int v2), (4, .int v4)]) : pj_W K H lo 65 ls [] := by
  unfold Md_saves_65 at h
  refine pj_aload_n C dd_Md_saves_65 rfl hl 0 rfl ?_
  refine pj_iload C dd_Md_saves_66 hl 2 rfl ?_
  refine pj_putI C P 0 (LM0 hB) rfl fl_Md_295 rfl fy_11_32 h dd_Md_saves_68 (fun H lo z1 h P => ?_)
  refine pj_iconst (v := (nI 0)) C dd_Md_saves_71 rfl ?_
  refine pj_istore [(5, .int (nI 0)), (0, .ref (B.2.1 0)), (2, .int v2), (4, .int v4)] C dd_Md_saves_72 hl (by decide) rfl (fun ls hl => ?_)
  exact lt_Md_saves_74 hB C Q hlv hR 4000 _ _ _ _ _ _ h P (lv_sub hl [1, 2, 0] rfl)
set_option maxHeartbeats 4000000 in
set_option maxRecDepth 100000 in
theorem bt_Md_saves_37 {lv0 : Nat} {B : pj_B} {A : Nat → Prop} {K : pj_K} {r0 : Unit} {z0 : pj_S} (hB : B.2.2.2.1 = pj_LM) (C : pj_C B A K cX11_saves 6 RX11 (lv0 + 1)) (Q : pj_Qv B A K none r0 z0) (hlv : 4 ≤ lv0) {sR : Int32 → Int32 → Int32 → pj_S → Option (Unit × pj_S)} (hR : ∀ (v1 : Int32) (v2 : Int32) (v3 : Int32) (z : pj_S) (r : Unit) (z2 : pj_S), sR v1 v2 v3 z = some (r, z2) → pj_Mv K.2.1 yX11_saves cX11_saves 6 none lv0 [.ref (B.2.1 0), .int v1, .int v2, .int v3] B z r z2)  (v2 : Int32) (z : pj_S) (H : Heap) (lo : List Loc) (ls : Array Slot) (h : Md_saves_37 sR v2 z = some (r0, z0)) (P : pj_P B A K z H lo) (hl : lv_has ls 6 [(0, .ref (B.2.1 0)), (2, .int v2)]) : pj_W K H lo 37 ls [] := by
  unfold Md_saves_37 at h
  refine pj_aload_n C dd_Md_saves_37 rfl hl 0 rfl ?_
  obtain ⟨r3, z2, e1, h⟩ := pj_cE h
  refine pj_cVv (st := []) [] C P 0 (LM0 hB) rfl (ct_Md_laysHolders hB e1) cl_Md_270 rfl (by omega) (by decide) hl.1 (Nat.le_of_ble_eq_true rfl) dd_Md_saves_38 (fun H lo P => ?_)
  refine pj_aload_n C dd_Md_saves_41 rfl hl 0 rfl ?_
  obtain ⟨r6, z5, e4, h⟩ := pj_cE h
  refine pj_cVi (st := []) [] C P 0 (LM0 hB) rfl (ct_Md_allRun hB e4) cl_Md_292 rfl (by omega) (by decide) hl.1 (Nat.le_of_ble_eq_true rfl) dd_Md_saves_42 (fun H lo P => ?_)
  refine pj_istore [(4, .int r6), (0, .ref (B.2.1 0)), (2, .int v2)] C dd_Md_saves_45 hl (by decide) rfl (fun ls hl => ?_)
  refine pj_aload_n C dd_Md_saves_47 rfl hl 1 rfl ?_
  refine pj_getI C P 0 (LM0 hB) rfl fl_Md_295 dd_Md_saves_48 ?_
  refine pj_iconst (v := (-1 : Int32)) C dd_Md_saves_51 rfl ?_
  refine pj_ic_eq C h dd_Md_saves_52 (fun h => ?_) (fun h => ?_)
  · exact bt_Md_saves_65 hB C Q hlv hR _ _ _ _ _ _ h P (lv_sub hl [1, 2, 0] rfl)
  · refine pj_iload C dd_Md_saves_55 hl 0 rfl ?_
    refine pj_aload_n C dd_Md_saves_57 rfl hl 1 rfl ?_
    refine pj_getI C P 0 (LM0 hB) rfl fl_Md_295 dd_Md_saves_58 ?_
    refine pj_ic_lt C h dd_Md_saves_61 (fun h => ?_) (fun h => ?_)
    · exact bt_Md_saves_65 hB C Q hlv hR _ _ _ _ _ _ h P (lv_sub hl [1, 2, 0] rfl)
    · exact pj_vret C Q P h dd_Md_saves_64
set_option maxHeartbeats 4000000 in
set_option maxRecDepth 100000 in
theorem bt_Md_saves_12 {lv0 : Nat} {B : pj_B} {A : Nat → Prop} {K : pj_K} {r0 : Unit} {z0 : pj_S} (hB : B.2.2.2.1 = pj_LM) (C : pj_C B A K cX11_saves 6 RX11 (lv0 + 1)) (Q : pj_Qv B A K none r0 z0) (hlv : 4 ≤ lv0) {sR : Int32 → Int32 → Int32 → pj_S → Option (Unit × pj_S)} (hR : ∀ (v1 : Int32) (v2 : Int32) (v3 : Int32) (z : pj_S) (r : Unit) (z2 : pj_S), sR v1 v2 v3 z = some (r, z2) → pj_Mv K.2.1 yX11_saves cX11_saves 6 none lv0 [.ref (B.2.1 0), .int v1, .int v2, .int v3] B z r z2) (s12 : Int32 → Int32 → pj_S → Option (Unit × pj_S)) (k12 : ∀ (v2 : Int32) (v4 : Int32) (z : pj_S) (H : Heap) (lo : List Loc) (ls : Array Slot), s12 v2 v4 z = some (r0, z0) → pj_P B A K z H lo → lv_has ls 6 [(0, .ref (B.2.1 0)), (2, .int v2), (4, .int v4)] → pj_W K H lo 12 ls []) (v2 : Int32) (v4 : Int32) (z : pj_S) (H : Heap) (lo : List Loc) (ls : Array Slot) (h : Md_saves_12 sR s12 v2 v4 z = some (r0, z0)) (P : pj_P B A K z H lo) (hl : lv_has ls 6 [(0, .ref (B.2.1 0)), (2, .int v2), (4, .int v4)]) : pj_W K H lo 12 ls [] := by
  unfold Md_saves_12 at h
  refine pj_iload C dd_Md_saves_12 hl 2 rfl ?_
  refine pj_iload_n C dd_Md_saves_14 rfl hl 1 rfl ?_
  refine pj_ic_ge C h dd_Md_saves_15 (fun h => ?_) (fun h => ?_)
  · exact bt_Md_saves_37 hB C Q hlv hR _ _ _ _ _ h P (lv_sub hl [0, 1] rfl)
  · refine pj_aload_n C dd_Md_saves_18 rfl hl 0 rfl ?_
    refine pj_getR C P 0 (LM0 hB) rfl fl_Md_41 dd_Md_saves_19 ?_
    refine pj_aload_n C dd_Md_saves_22 rfl hl 0 rfl ?_
    refine pj_getR C P 0 (LM0 hB) rfl fl_Md_53 dd_Md_saves_23 ?_
    refine pj_iload C dd_Md_saves_26 hl 2 rfl ?_
    refine pj_iald C P 14 (LM14 hB) h dd_Md_saves_28 (fun h => ?_)
    refine pj_iconst (v := (nI 1)) C dd_Md_saves_29 rfl ?_
    refine pj_iast C P 10 (LM10 hB) h dd_Md_saves_30 (fun H lo z1 h P => ?_)
    refine pj_iinc (v := (nI 1)) [(0, .ref (B.2.1 0)), (2, .int v2)] C h rfl dd_Md_saves_31 hl 2 rfl (by decide) rfl (fun x2 ls h hl => ?_)
    refine pj_goto C dd_Md_saves_34 ?_
    exact k12 _ _ _ _ _ _ h P (lv_sub hl [1, 2, 0] rfl)
theorem lt_Md_saves_12 {lv0 : Nat} {B : pj_B} {A : Nat → Prop} {K : pj_K} {r0 : Unit} {z0 : pj_S} (hB : B.2.2.2.1 = pj_LM) (C : pj_C B A K cX11_saves 6 RX11 (lv0 + 1)) (Q : pj_Qv B A K none r0 z0) (hlv : 4 ≤ lv0) {sR : Int32 → Int32 → Int32 → pj_S → Option (Unit × pj_S)} (hR : ∀ (v1 : Int32) (v2 : Int32) (v3 : Int32) (z : pj_S) (r : Unit) (z2 : pj_S), sR v1 v2 v3 z = some (r, z2) → pj_Mv K.2.1 yX11_saves cX11_saves 6 none lv0 [.ref (B.2.1 0), .int v1, .int v2, .int v3] B z r z2)  : ∀ (n : Nat) (v2 : Int32) (v4 : Int32) (z : pj_S) (H : Heap) (lo : List Loc) (ls : Array Slot), pj_lp2 (Md_saves_12 sR) n v2 v4 z = some (r0, z0) → pj_P B A K z H lo → lv_has ls 6 [(0, .ref (B.2.1 0)), (2, .int v2), (4, .int v4)] → pj_W K H lo 12 ls [] := by
  intro n
  induction n with
  | zero => intro v2 v4 z H lo ls h; rw [pj_lp2_0] at h; cases h
  | succ n ih =>
    intro v2 v4 z H lo ls h P hl
    rw [pj_lp2_s] at h
    exact bt_Md_saves_12 hB C Q hlv hR  (pj_lp2 (Md_saves_12 sR) n) ih v2 v4 z H lo ls h P hl
set_option maxHeartbeats 4000000 in
set_option maxRecDepth 100000 in
theorem bt_Md_saves_143 {lv0 : Nat} {B : pj_B} {A : Nat → Prop} {K : pj_K} {r0 : Unit} {z0 : pj_S} (hB : B.2.2.2.1 = pj_LM) (C : pj_C B A K cX11_saves 6 RX11 (lv0 + 1)) (Q : pj_Qv B A K none r0 z0) (hlv : 4 ≤ lv0) {sR : Int32 → Int32 → Int32 → pj_S → Option (Unit × pj_S)} (hR : ∀ (v1 : Int32) (v2 : Int32) (v3 : Int32) (z : pj_S) (r : Unit) (z2 : pj_S), sR v1 v2 v3 z = some (r, z2) → pj_Mv K.2.1 yX11_saves cX11_saves 6 none lv0 [.ref (B.2.1 0), .int v1, .int v2, .int v3] B z r z2) (s104 : Int32 → Int32 → Int32 → pj_S → Option (Unit × pj_S)) (k104 : ∀ (v1 : Int32) (v2 : Int32) (v4 : Int32) (z : pj_S) (H : Heap) (lo : List Loc) (ls : Array Slot), s104 v1 v2 v4 z = some (r0, z0) → pj_P B A K z H lo → lv_has ls 6 [(0, .ref (B.2.1 0)), (1, .int v1), (2, .int v2), (4, .int v4)] → pj_W K H lo 104 ls []) (v1 : Int32) (v2 : Int32) (v4 : Int32) (z : pj_S) (H : Heap) (lo : List Loc) (ls : Array Slot) (h : Md_saves_143 sR s104 v1 v2 v4 z = some (r0, z0)) (P : pj_P B A K z H lo) (hl : lv_has ls 6 [(0, .ref (B.2.1 0)), (1, .int v1), (2, .int v2), (4, .int v4)]) : pj_W K H lo 143 ls [] := by
  unfold Md_saves_143 at h
  refine pj_iinc (v := (nI 1)) [(0, .ref (B.2.1 0)), (1, .int v1), (2, .int v2)] C h rfl dd_Md_saves_143 hl 3 rfl (by decide) rfl (fun x1 ls h hl => ?_)
  refine pj_goto C dd_Md_saves_146 ?_
  exact k104 _ _ _ _ _ _ _ h P (lv_sub hl [1, 2, 3, 0] rfl)
set_option maxHeartbeats 4000000 in
set_option maxRecDepth 100000 in
theorem bt_Md_saves_104 {lv0 : Nat} {B : pj_B} {A : Nat → Prop} {K : pj_K} {r0 : Unit} {z0 : pj_S} (hB : B.2.2.2.1 = pj_LM) (C : pj_C B A K cX11_saves 6 RX11 (lv0 + 1)) (Q : pj_Qv B A K none r0 z0) (hlv : 4 ≤ lv0) {sR : Int32 → Int32 → Int32 → pj_S → Option (Unit × pj_S)} (hR : ∀ (v1 : Int32) (v2 : Int32) (v3 : Int32) (z : pj_S) (r : Unit) (z2 : pj_S), sR v1 v2 v3 z = some (r, z2) → pj_Mv K.2.1 yX11_saves cX11_saves 6 none lv0 [.ref (B.2.1 0), .int v1, .int v2, .int v3] B z r z2) (s104 : Int32 → Int32 → Int32 → pj_S → Option (Unit × pj_S)) (k104 : ∀ (v1 : Int32) (v2 : Int32) (v4 : Int32) (z : pj_S) (H : Heap) (lo : List Loc) (ls : Array Slot), s104 v1 v2 v4 z = some (r0, z0) → pj_P B A K z H lo → lv_has ls 6 [(0, .ref (B.2.1 0)), (1, .int v1), (2, .int v2), (4, .int v4)] → pj_W K H lo 104 ls []) (v1 : Int32) (v2 : Int32) (v4 : Int32) (z : pj_S) (H : Heap) (lo : List Loc) (ls : Array Slot) (h : Md_saves_104 sR s104 v1 v2 v4 z = some (r0, z0)) (P : pj_P B A K z H lo) (hl : lv_has ls 6 [(0, .ref (B.2.1 0)), (1, .int v1), (2, .int v2), (4, .int v4)]) : pj_W K H lo 104 ls [] := by
  unfold Md_saves_104 at h
  refine pj_iload C dd_Md_saves_104 hl 3 rfl ?_
  refine pj_bipush (v := (nI 64)) C dd_Md_saves_106 rfl ?_
  refine pj_ic_ge C h dd_Md_saves_108 (fun h => ?_) (fun h => ?_)
  · exact pj_vret C Q P h dd_Md_saves_149
  · refine pj_aload_n C dd_Md_saves_111 rfl hl 0 rfl ?_
    refine pj_iload C dd_Md_saves_112 hl 3 rfl ?_
    obtain ⟨r3, z2, e1, h⟩ := pj_cE h
    refine pj_cVi (st := []) [.int v4] C P 0 (LM0 hB) rfl (ct_Md_canCatch hB e1) cl_Md_298 rfl (by omega) (by decide) hl.1 (Nat.le_of_ble_eq_true rfl) dd_Md_saves_114 (fun H lo P => ?_)
    refine pj_if_ne C h dd_Md_saves_117 (fun h => ?_) (fun h => ?_)
    · refine pj_aload_n C dd_Md_saves_123 rfl hl 0 rfl ?_
      refine pj_getR C P 0 (LM0 hB) rfl fl_Md_53 dd_Md_saves_124 ?_
      refine pj_iload_n C dd_Md_saves_127 rfl hl 1 rfl ?_
      refine pj_iload C dd_Md_saves_128 hl 3 rfl ?_
      refine pj_iast C P 14 (LM14 hB) h dd_Md_saves_130 (fun H lo z4 h P => ?_)
      refine pj_aload_n C dd_Md_saves_131 rfl hl 0 rfl ?_
      refine pj_iload_n C dd_Md_saves_132 rfl hl 1 rfl ?_
      refine pj_iconst (v := (nI 1)) C dd_Md_saves_133 rfl ?_
      refine pj_iadd C dd_Md_saves_134 ?_
      refine pj_iload_n C dd_Md_saves_135 rfl hl 2 rfl ?_
      refine pj_iload C dd_Md_saves_136 hl 3 rfl ?_
      refine pj_iconst (v := (nI 1)) C dd_Md_saves_138 rfl ?_
      refine pj_iadd C dd_Md_saves_139 ?_
      obtain ⟨r7, z6, e5, h⟩ := pj_cE h
      refine pj_cVv (st := []) [.int (v1 + (nI 1)), .int v2, .int (v4 + (nI 1))] C P 0 (LM0 hB) rfl (hR _ _ _ _ _ _ e5) cl_Md_301 rfl (by omega) (by decide) hl.1 (Nat.le_of_ble_eq_true rfl) dd_Md_saves_140 (fun H lo P => ?_)
      exact bt_Md_saves_143 hB C Q hlv hR s104 k104 _ _ _ _ _ _ _ h P (lv_sub hl [0, 1, 2, 3] rfl)
    · refine pj_goto C dd_Md_saves_120 ?_
      exact bt_Md_saves_143 hB C Q hlv hR s104 k104 _ _ _ _ _ _ _ h P (lv_sub hl [0, 1, 2, 3] rfl)
theorem lt_Md_saves_104 {lv0 : Nat} {B : pj_B} {A : Nat → Prop} {K : pj_K} {r0 : Unit} {z0 : pj_S} (hB : B.2.2.2.1 = pj_LM) (C : pj_C B A K cX11_saves 6 RX11 (lv0 + 1)) (Q : pj_Qv B A K none r0 z0) (hlv : 4 ≤ lv0) {sR : Int32 → Int32 → Int32 → pj_S → Option (Unit × pj_S)} (hR : ∀ (v1 : Int32) (v2 : Int32) (v3 : Int32) (z : pj_S) (r : Unit) (z2 : pj_S), sR v1 v2 v3 z = some (r, z2) → pj_Mv K.2.1 yX11_saves cX11_saves 6 none lv0 [.ref (B.2.1 0), .int v1, .int v2, .int v3] B z r z2)  : ∀ (n : Nat) (v1 : Int32) (v2 : Int32) (v4 : Int32) (z : pj_S) (H : Heap) (lo : List Loc) (ls : Array Slot), pj_lp3 (Md_saves_104 sR) n v1 v2 v4 z = some (r0, z0) → pj_P B A K z H lo → lv_has ls 6 [(0, .ref (B.2.1 0)), (1, .int v1), (2, .int v2), (4, .int v4)] → pj_W K H lo 104 ls [] := by
  intro n
  induction n with
  | zero => intro v1 v2 v4 z H lo ls h; rw [pj_lp3_0] at h; cases h
  | succ n ih =>
    intro v1 v2 v4 z H lo ls h P hl
    rw [pj_lp3_s] at h
    exact bt_Md_saves_104 hB C Q hlv hR  (pj_lp3 (Md_saves_104 sR) n) ih v1 v2 v4 z H lo ls h P hl
set_option maxHeartbeats 4000000 in
set_option maxRecDepth 100000 in
theorem ct_Md_saves_B {l : Launch} {B : pj_B} (hB : B.2.2.2.1 = pj_LM) {lv0 : Nat} (hlv : 4 ≤ lv0) {sR : Int32 → Int32 → Int32 → pj_S → Option (Unit × pj_S)} (hR : ∀ (v1 : Int32) (v2 : Int32) (v3 : Int32) (z : pj_S) (r : Unit) (z2 : pj_S), sR v1 v2 v3 z = some (r, z2) → pj_Mv l yX11_saves cX11_saves 6 none lv0 [.ref (B.2.1 0), .int v1, .int v2, .int v3] B z r z2) {v1 : Int32} {v2 : Int32} {v3 : Int32} {z : pj_S} {r0 : Unit} {z0 : pj_S} (h : Md_saves_B sR v1 v2 v3 z = some (r0, z0)) : pj_Mv l yX11_saves cX11_saves 6 none (lv0 + 1) [.ref (B.2.1 0), .int v1, .int v2, .int v3] B z r0 z0 := by
  refine pj_metv (own := RX11) (by decide +kernel) rfl (Nat.le_of_ble_eq_true rfl) ?_
  intro A K hK C Q H lo ls P hl
  subst hK
  have hl : lv_has ls 6 [(0, .ref (B.2.1 0)), (1, .int v1), (2, .int v2), (3, .int v3)] := hl
  unfold Md_saves_B at h
  refine pj_iload_n C dd_Md_saves_0 rfl hl 1 rfl ?_
  refine pj_iload_n C dd_Md_saves_1 rfl hl 2 rfl ?_
  refine pj_ic_ne C h dd_Md_saves_2 (fun h => ?_) (fun h => ?_)
  · refine pj_iload_n C dd_Md_saves_101 rfl hl 3 rfl ?_
    refine pj_istore [(4, .int v3), (0, .ref (B.2.1 0)), (1, .int v1), (2, .int v2), (3, .int v3)] C dd_Md_saves_102 hl (by decide) rfl (fun ls hl => ?_)
    exact lt_Md_saves_104 hB C Q hlv hR 4000 _ _ _ _ _ _ _ h P (lv_sub hl [1, 2, 3, 0] rfl)
  · refine pj_aload_n C dd_Md_saves_5 rfl hl 0 rfl ?_
    obtain ⟨r3, z2, e1, h⟩ := pj_cE h
    refine pj_cVv (st := []) [] C P 0 (LM0 hB) rfl (ct_Md_laysNow hB e1) cl_Md_267 rfl (by omega) (by decide) hl.1 (Nat.le_of_ble_eq_true rfl) dd_Md_saves_6 (fun H lo P => ?_)
    refine pj_iconst (v := (nI 0)) C dd_Md_saves_9 rfl ?_
    refine pj_istore [(4, .int (nI 0)), (0, .ref (B.2.1 0)), (1, .int v1), (2, .int v2), (3, .int v3)] C dd_Md_saves_10 hl (by decide) rfl (fun ls hl => ?_)
    exact lt_Md_saves_12 hB C Q hlv hR 4000 _ _ _ _ _ _ h P (lv_sub hl [1, 3, 0] rfl)
theorem ct_Md_saves_d {l : Launch} {B : pj_B} (hB : B.2.2.2.1 = pj_LM) : ∀ (d : Nat) (v1 : Int32) (v2 : Int32) (v3 : Int32) (z : pj_S) (r0 : Unit) (z0 : pj_S), pj_lp3 Md_saves_B d v1 v2 v3 z = some (r0, z0) → pj_Mv l yX11_saves cX11_saves 6 none (4 + 1 * d) [.ref (B.2.1 0), .int v1, .int v2, .int v3] B z r0 z0 := by
  intro d
  induction d with
  | zero => intro v1 v2 v3 z r0 z0 h; rw [pj_lp3_0] at h; cases h
  | succ d ih =>
    intro v1 v2 v3 z r0 z0 h
    rw [pj_lp3_s] at h
    exact ct_Md_saves_B hB (lv0 := 4 + 1 * d) (Nat.le_add_right _ _) ih h
theorem ct_Md_saves_o {l : Launch} {B : pj_B} (hB : B.2.2.2.1 = pj_LM) {v1 : Int32} {v2 : Int32} {v3 : Int32} {z : pj_S} {r0 : Unit} {z0 : pj_S} (h : Md_saves_o v1 v2 v3 z = some (r0, z0)) : pj_Mv l yX11_saves cX11_saves 6 none 10 [.ref (B.2.1 0), .int v1, .int v2, .int v3] B z r0 z0 := ct_Md_saves_d hB 6 _ _ _ _ _ _ h
theorem dd_Md_save_0 : pj_d cX11_save 0 (.iload_n 1) 1 1 := ⟨by decide +kernel, rfl⟩
theorem dd_Md_save_1 : pj_d cX11_save 1 (.iconst 0) 1 2 := ⟨by decide +kernel, rfl⟩
theorem dd_Md_save_2 : pj_d cX11_save 2 (.iconst 3) 1 3 := ⟨by decide +kernel, rfl⟩
theorem dd_Md_save_3 : pj_d cX11_save 3 (.invokestatic 70) 3 6 := ⟨by decide +kernel, rfl⟩
theorem dd_Md_save_6 : pj_dj cX11_save 6 (.ifCond .eq 12) 12 9 18 := ⟨by decide +kernel, rfl, by decide⟩
theorem dd_Md_save_9 : pj_d cX11_save 9 (.iload_n 2) 1 10 := ⟨by decide +kernel, rfl⟩
theorem dd_Md_save_10 : pj_d cX11_save 10 (.iconst 0) 1 11 := ⟨by decide +kernel, rfl⟩
theorem dd_Md_save_11 : pj_d cX11_save 11 (.iconst 3) 1 12 := ⟨by decide +kernel, rfl⟩
theorem dd_Md_save_12 : pj_d cX11_save 12 (.invokestatic 70) 3 15 := ⟨by decide +kernel, rfl⟩
theorem dd_Md_save_15 : pj_dj cX11_save 15 (.ifCond .ne 5) 5 18 20 := ⟨by decide +kernel, rfl, by decide⟩
theorem dd_Md_save_18 : pj_d cX11_save 18 (.iconst (-1)) 1 19 := ⟨by decide +kernel, rfl⟩
theorem dd_Md_save_19 : pj_d cX11_save 19 (.ireturn) 1 20 := ⟨by decide +kernel, rfl⟩
theorem dd_Md_save_20 : pj_d cX11_save 20 (.iconst 0) 1 21 := ⟨by decide +kernel, rfl⟩
theorem dd_Md_save_21 : pj_d cX11_save 21 (.istore_n 3) 1 22 := ⟨by decide +kernel, rfl⟩
theorem dd_Md_save_22 : pj_d cX11_save 22 (.iload_n 3) 1 23 := ⟨by decide +kernel, rfl⟩
theorem dd_Md_save_23 : pj_d cX11_save 23 (.iconst 3) 1 24 := ⟨by decide +kernel, rfl⟩
theorem dd_Md_save_24 : pj_dj cX11_save 24 (.if_icmp .ge 16) 16 27 40 := ⟨by decide +kernel, rfl, by decide⟩
theorem dd_Md_save_27 : pj_d cX11_save 27 (.aload_n 0) 1 28 := ⟨by decide +kernel, rfl⟩
theorem dd_Md_save_28 : pj_d cX11_save 28 (.getfield 56) 3 31 := ⟨by decide +kernel, rfl⟩
theorem dd_Md_save_31 : pj_d cX11_save 31 (.iload_n 3) 1 32 := ⟨by decide +kernel, rfl⟩
theorem dd_Md_save_32 : pj_d cX11_save 32 (.iconst (-1)) 1 33 := ⟨by decide +kernel, rfl⟩
theorem dd_Md_save_33 : pj_d cX11_save 33 (.iastore) 1 34 := ⟨by decide +kernel, rfl⟩
theorem dd_Md_save_34 : pj_d cX11_save 34 (.iinc 3 1) 3 37 := ⟨by decide +kernel, rfl⟩
theorem dd_Md_save_37 : pj_dj cX11_save 37 (.goto (-15)) (-15) 40 22 := ⟨by decide +kernel, rfl, by decide⟩
theorem dd_Md_save_40 : pj_d cX11_save 40 (.aload_n 0) 1 41 := ⟨by decide +kernel, rfl⟩
theorem dd_Md_save_41 : pj_d cX11_save 41 (.iconst (-1)) 1 42 := ⟨by decide +kernel, rfl⟩
theorem dd_Md_save_42 : pj_d cX11_save 42 (.putfield 295) 3 45 := ⟨by decide +kernel, rfl⟩
theorem dd_Md_save_45 : pj_d cX11_save 45 (.iconst 0) 1 46 := ⟨by decide +kernel, rfl⟩
theorem dd_Md_save_46 : pj_d cX11_save 46 (.istore_n 3) 1 47 := ⟨by decide +kernel, rfl⟩
theorem dd_Md_save_47 : pj_d cX11_save 47 (.iconst 0) 1 48 := ⟨by decide +kernel, rfl⟩
theorem dd_Md_save_48 : pj_d cX11_save 48 (.istore 4) 2 50 := ⟨by decide +kernel, rfl⟩
theorem dd_Md_save_50 : pj_d cX11_save 50 (.iload 4) 2 52 := ⟨by decide +kernel, rfl⟩
theorem dd_Md_save_52 : pj_d cX11_save 52 (.bipush 64) 2 54 := ⟨by decide +kernel, rfl⟩
theorem dd_Md_save_54 : pj_dj cX11_save 54 (.if_icmp .ge 26) 26 57 80 := ⟨by decide +kernel, rfl, by decide⟩
theorem dd_Md_save_57 : pj_d cX11_save 57 (.iload_n 3) 1 58 := ⟨by decide +kernel, rfl⟩
theorem dd_Md_save_58 : pj_d cX11_save 58 (.aload_n 0) 1 59 := ⟨by decide +kernel, rfl⟩
theorem dd_Md_save_59 : pj_d cX11_save 59 (.iload 4) 2 61 := ⟨by decide +kernel, rfl⟩
theorem dd_Md_save_61 : pj_d cX11_save 61 (.invokevirtual 298) 3 64 := ⟨by decide +kernel, rfl⟩
theorem dd_Md_save_64 : pj_dj cX11_save 64 (.ifCond .eq 7) 7 67 71 := ⟨by decide +kernel, rfl, by decide⟩
theorem dd_Md_save_67 : pj_d cX11_save 67 (.iconst 1) 1 68 := ⟨by decide +kernel, rfl⟩
theorem dd_Md_save_68 : pj_dj cX11_save 68 (.goto 4) 4 71 72 := ⟨by decide +kernel, rfl, by decide⟩
theorem dd_Md_save_71 : pj_d cX11_save 71 (.iconst 0) 1 72 := ⟨by decide +kernel, rfl⟩
theorem dd_Md_save_72 : pj_d cX11_save 72 (.iadd) 1 73 := ⟨by decide +kernel, rfl⟩
theorem dd_Md_save_73 : pj_d cX11_save 73 (.istore_n 3) 1 74 := ⟨by decide +kernel, rfl⟩
theorem dd_Md_save_74 : pj_d cX11_save 74 (.iinc 4 1) 3 77 := ⟨by decide +kernel, rfl⟩
theorem dd_Md_save_77 : pj_dj cX11_save 77 (.goto (-27)) (-27) 80 50 := ⟨by decide +kernel, rfl, by decide⟩
theorem dd_Md_save_80 : pj_d cX11_save 80 (.aload_n 0) 1 81 := ⟨by decide +kernel, rfl⟩
theorem dd_Md_save_81 : pj_d cX11_save 81 (.iconst 0) 1 82 := ⟨by decide +kernel, rfl⟩
theorem dd_Md_save_82 : pj_d cX11_save 82 (.iload_n 1) 1 83 := ⟨by decide +kernel, rfl⟩
theorem dd_Md_save_83 : pj_d cX11_save 83 (.iload_n 3) 1 84 := ⟨by decide +kernel, rfl⟩
theorem dd_Md_save_84 : pj_d cX11_save 84 (.invokestatic 234) 3 87 := ⟨by decide +kernel, rfl⟩
theorem dd_Md_save_87 : pj_d cX11_save 87 (.iconst 0) 1 88 := ⟨by decide +kernel, rfl⟩
theorem dd_Md_save_88 : pj_d cX11_save 88 (.invokevirtual 301) 3 91 := ⟨by decide +kernel, rfl⟩
theorem dd_Md_save_91 : pj_d cX11_save 91 (.iload_n 2) 1 92 := ⟨by decide +kernel, rfl⟩
theorem dd_Md_save_92 : pj_dj cX11_save 92 (.ifCond .ne 10) 10 95 102 := ⟨by decide +kernel, rfl, by decide⟩
theorem dd_Md_save_95 : pj_d cX11_save 95 (.aload_n 0) 1 96 := ⟨by decide +kernel, rfl⟩
theorem dd_Md_save_96 : pj_d cX11_save 96 (.getfield 295) 3 99 := ⟨by decide +kernel, rfl⟩
theorem dd_Md_save_99 : pj_dj cX11_save 99 (.goto 11) 11 102 110 := ⟨by decide +kernel, rfl, by decide⟩
theorem dd_Md_save_102 : pj_d cX11_save 102 (.aload_n 0) 1 103 := ⟨by decide +kernel, rfl⟩
theorem dd_Md_save_103 : pj_d cX11_save 103 (.getfield 56) 3 106 := ⟨by decide +kernel, rfl⟩
theorem dd_Md_save_106 : pj_d cX11_save 106 (.iload_n 2) 1 107 := ⟨by decide +kernel, rfl⟩
theorem dd_Md_save_107 : pj_d cX11_save 107 (.iconst 1) 1 108 := ⟨by decide +kernel, rfl⟩
theorem dd_Md_save_108 : pj_d cX11_save 108 (.isub) 1 109 := ⟨by decide +kernel, rfl⟩
theorem dd_Md_save_109 : pj_d cX11_save 109 (.iaload) 1 110 := ⟨by decide +kernel, rfl⟩
theorem dd_Md_save_110 : pj_d cX11_save 110 (.ireturn) 1 111 := ⟨by decide +kernel, rfl⟩
set_option maxHeartbeats 4000000 in
set_option maxRecDepth 100000 in
theorem bt_Md_save_72 {B : pj_B} {A : Nat → Prop} {K : pj_K} {r0 : Int32} {z0 : pj_S} (hB : B.2.2.2.1 = pj_LM) (C : pj_C B A K cX11_save 5 RX11 11) (Q : pj_Qi B A K (some .int) r0 z0) (s50 : Int32 → Int32 → Int32 → Int32 → pj_S → Option (Int32 × pj_S)) (k50 : ∀ (v1 : Int32) (v2 : Int32) (v3 : Int32) (v4 : Int32) (z : pj_S) (H : Heap) (lo : List Loc) (ls : Array Slot), s50 v1 v2 v3 v4 z = some (r0, z0) → pj_P B A K z H lo → lv_has ls 5 [(0, .ref (B.2.1 0)), (1, .int v1), (2, .int v2), (3, .int v3), (4, .int v4)] → pj_W K H lo 50 ls []) (v1 : Int32) (v2 : Int32) (v4 : Int32) (t0 : Int32) (t1 : Int32) (z : pj_S) (H : Heap) (lo : List Loc) (ls : Array Slot) (h : Md_save_72 s50 v1 v2 v4 t0 t1 z = some (r0, z0)) (P : pj_P B A K z H lo) (hl : lv_has ls 5 [(0, .ref (B.2.1 0)), (1, .int v1), (2, .int v2), (4, .int v4)]) : pj_W K H lo 72 ls [.int t0, .int t1] := by
  unfold Md_save_72 at h
  refine pj_iadd C dd_Md_save_72 ?_
  refine pj_istb_n [(0, .ref (B.2.1 0)), (1, .int v1), (2, .int v2), (4, .int v4)] C h dd_Md_save_73 rfl hl (by decide) rfl (fun x1 ls h hl => ?_)
  refine pj_iinc (v := (nI 1)) [(3, .int x1), (0, .ref (B.2.1 0)), (1, .int v1), (2, .int v2)] C h rfl dd_Md_save_74 hl 4 rfl (by decide) rfl (fun x2 ls h hl => ?_)
  refine pj_goto C dd_Md_save_77 ?_
  exact k50 _ _ _ _ _ _ _ _ h P (lv_sub hl [2, 3, 4, 1, 0] rfl)
set_option maxHeartbeats 4000000 in
set_option maxRecDepth 100000 in
theorem bt_Md_save_80 {B : pj_B} {A : Nat → Prop} {K : pj_K} {r0 : Int32} {z0 : pj_S} (hB : B.2.2.2.1 = pj_LM) (C : pj_C B A K cX11_save 5 RX11 11) (Q : pj_Qi B A K (some .int) r0 z0)  (v1 : Int32) (v2 : Int32) (v3 : Int32) (z : pj_S) (H : Heap) (lo : List Loc) (ls : Array Slot) (h : Md_save_80 v1 v2 v3 z = some (r0, z0)) (P : pj_P B A K z H lo) (hl : lv_has ls 5 [(0, .ref (B.2.1 0)), (1, .int v1), (2, .int v2), (3, .int v3)]) : pj_W K H lo 80 ls [] := by
  unfold Md_save_80 at h
  refine pj_aload_n C dd_Md_save_80 rfl hl 0 rfl ?_
  refine pj_iconst (v := (nI 0)) C dd_Md_save_81 rfl ?_
  refine pj_iload_n C dd_Md_save_82 rfl hl 1 rfl ?_
  refine pj_iload_n C dd_Md_save_83 rfl hl 3 rfl ?_
  obtain ⟨r3, z2, e1, h⟩ := pj_cE h
  refine pj_cSi (st := [.int (nI 0), .ref (B.2.1 0)]) [.int v1, .int v3] C P (ct_Md_leastM hB e1) cl_Md_234 rfl (by decide) (by decide) hl.1 (Nat.le_of_ble_eq_true rfl) dd_Md_save_84 (fun H lo P => ?_)
  refine pj_iconst (v := (nI 0)) C dd_Md_save_87 rfl ?_
  obtain ⟨r6, z5, e4, h⟩ := pj_cE h
  refine pj_cVv (st := []) [.int (nI 0), .int r3, .int (nI 0)] C P 0 (LM0 hB) rfl (ct_Md_saves_o hB e4) cl_Md_301 rfl (by decide) (by decide) hl.1 (Nat.le_of_ble_eq_true rfl) dd_Md_save_88 (fun H lo P => ?_)
  refine pj_iload_n C dd_Md_save_91 rfl hl 2 rfl ?_
  refine pj_if_ne C h dd_Md_save_92 (fun h => ?_) (fun h => ?_)
  · refine pj_aload_n C dd_Md_save_102 rfl hl 0 rfl ?_
    refine pj_getR C P 0 (LM0 hB) rfl fl_Md_56 dd_Md_save_103 ?_
    refine pj_iload_n C dd_Md_save_106 rfl hl 2 rfl ?_
    refine pj_iconst (v := (nI 1)) C dd_Md_save_107 rfl ?_
    refine pj_isub C dd_Md_save_108 ?_
    refine pj_iald C P 15 (LM15 hB) h dd_Md_save_109 (fun h => ?_)
    exact pj_iret C Q P h dd_Md_save_110
  · refine pj_aload_n C dd_Md_save_95 rfl hl 0 rfl ?_
    refine pj_getI C P 0 (LM0 hB) rfl fl_Md_295 dd_Md_save_96 ?_
    refine pj_goto C dd_Md_save_99 ?_
    exact pj_iret C Q P h dd_Md_save_110
set_option maxHeartbeats 4000000 in
set_option maxRecDepth 100000 in
theorem bt_Md_save_50 {B : pj_B} {A : Nat → Prop} {K : pj_K} {r0 : Int32} {z0 : pj_S} (hB : B.2.2.2.1 = pj_LM) (C : pj_C B A K cX11_save 5 RX11 11) (Q : pj_Qi B A K (some .int) r0 z0) (s50 : Int32 → Int32 → Int32 → Int32 → pj_S → Option (Int32 × pj_S)) (k50 : ∀ (v1 : Int32) (v2 : Int32) (v3 : Int32) (v4 : Int32) (z : pj_S) (H : Heap) (lo : List Loc) (ls : Array Slot), s50 v1 v2 v3 v4 z = some (r0, z0) → pj_P B A K z H lo → lv_has ls 5 [(0, .ref (B.2.1 0)), (1, .int v1), (2, .int v2), (3, .int v3), (4, .int v4)] → pj_W K H lo 50 ls []) (v1 : Int32) (v2 : Int32) (v3 : Int32) (v4 : Int32) (z : pj_S) (H : Heap) (lo : List Loc) (ls : Array Slot) (h : Md_save_50 s50 v1 v2 v3 v4 z = some (r0, z0)) (P : pj_P B A K z H lo) (hl : lv_has ls 5 [(0, .ref (B.2.1 0)), (1, .int v1), (2, .int v2), (3, .int v3), (4, .int v4)]) : pj_W K H lo 50 ls [] := by
  unfold Md_save_50 at h
  refine pj_iload C dd_Md_save_50 hl 4 rfl ?_
  refine pj_bipush (v := (nI 64)) C dd_Md_save_52 rfl ?_
  refine pj_ic_ge C h dd_Md_save_54 (fun h => ?_) (fun h => ?_)
  · exact bt_Md_save_80 hB C Q _ _ _ _ _ _ _ h P (lv_sub hl [0, 1, 2, 3] rfl)
  · refine pj_iload_n C dd_Md_save_57 rfl hl 3 rfl ?_
    refine pj_aload_n C dd_Md_save_58 rfl hl 0 rfl ?_
    refine pj_iload C dd_Md_save_59 hl 4 rfl ?_
    obtain ⟨r3, z2, e1, h⟩ := pj_cE h
    refine pj_cVi (st := [.int v3]) [.int v4] C P 0 (LM0 hB) rfl (ct_Md_canCatch hB e1) cl_Md_298 rfl (by decide) (by decide) hl.1 (Nat.le_of_ble_eq_true rfl) dd_Md_save_61 (fun H lo P => ?_)
    refine pj_if_eq C h dd_Md_save_64 (fun h => ?_) (fun h => ?_)
    · refine pj_iconst (v := (nI 0)) C dd_Md_save_71 rfl ?_
      exact bt_Md_save_72 hB C Q s50 k50 _ _ _ _ _ _ _ _ _ h P (lv_sub hl [0, 1, 2, 4] rfl)
    · refine pj_iconst (v := (nI 1)) C dd_Md_save_67 rfl ?_
      refine pj_goto C dd_Md_save_68 ?_
      exact bt_Md_save_72 hB C Q s50 k50 _ _ _ _ _ _ _ _ _ h P (lv_sub hl [0, 1, 2, 4] rfl)
theorem lt_Md_save_50 {B : pj_B} {A : Nat → Prop} {K : pj_K} {r0 : Int32} {z0 : pj_S} (hB : B.2.2.2.1 = pj_LM) (C : pj_C B A K cX11_save 5 RX11 11) (Q : pj_Qi B A K (some .int) r0 z0)  : ∀ (n : Nat) (v1 : Int32) (v2 : Int32) (v3 : Int32) (v4 : Int32) (z : pj_S) (H : Heap) (lo : List Loc) (ls : Array Slot), pj_lp4 Md_save_50 n v1 v2 v3 v4 z = some (r0, z0) → pj_P B A K z H lo → lv_has ls 5 [(0, .ref (B.2.1 0)), (1, .int v1), (2, .int v2), (3, .int v3), (4, .int v4)] → pj_W K H lo 50 ls [] := by
  intro n
  induction n with
  | zero => intro v1 v2 v3 v4 z H lo ls h; rw [pj_lp4_0] at h; cases h
  | succ n ih =>
    intro v1 v2 v3 v4 z H lo ls h P hl
    rw [pj_lp4_s] at h
    exact bt_Md_save_50 hB C Q   (pj_lp4 Md_save_50 n) ih v1 v2 v3 v4 z H lo ls h P hl
set_option maxHeartbeats 4000000 in
set_option maxRecDepth 100000 in
theorem bt_Md_save_40 {B : pj_B} {A : Nat → Prop} {K : pj_K} {r0 : Int32} {z0 : pj_S} (hB : B.2.2.2.1 = pj_LM) (C : pj_C B A K cX11_save 5 RX11 11) (Q : pj_Qi B A K (some .int) r0 z0)  (v1 : Int32) (v2 : Int32) (z : pj_S) (H : Heap) (lo : List Loc) (ls : Array Slot) (h : Md_save_40 v1 v2 z = some (r0, z0)) (P : pj_P B A K z H lo) (hl : lv_has ls 5 [(0, .ref (B.2.1 0)), (1, .int v1), (2, .int v2)]) : pj_W K H lo 40 ls [] := by
  unfold Md_save_40 at h
  refine pj_aload_n C dd_Md_save_40 rfl hl 0 rfl ?_
  refine pj_iconst (v := (-1 : Int32)) C dd_Md_save_41 rfl ?_
  refine pj_putI C P 0 (LM0 hB) rfl fl_Md_295 rfl fy_11_32 h dd_Md_save_42 (fun H lo z1 h P => ?_)
  refine pj_iconst (v := (nI 0)) C dd_Md_save_45 rfl ?_
  refine pj_istore_n [(3, .int (nI 0)), (0, .ref (B.2.1 0)), (1, .int v1), (2, .int v2)] C dd_Md_save_46 rfl hl (by decide) rfl (fun ls hl => ?_)
  refine pj_iconst (v := (nI 0)) C dd_Md_save_47 rfl ?_
  refine pj_istore [(4, .int (nI 0)), (3, .int (nI 0)), (0, .ref (B.2.1 0)), (1, .int v1), (2, .int v2)] C dd_Md_save_48 hl (by decide) rfl (fun ls hl => ?_)
  exact lt_Md_save_50 hB C Q 4000 _ _ _ _ _ _ _ _ h P (lv_sub hl [2, 3, 4, 1, 0] rfl)
set_option maxHeartbeats 4000000 in
set_option maxRecDepth 100000 in
theorem bt_Md_save_22 {B : pj_B} {A : Nat → Prop} {K : pj_K} {r0 : Int32} {z0 : pj_S} (hB : B.2.2.2.1 = pj_LM) (C : pj_C B A K cX11_save 5 RX11 11) (Q : pj_Qi B A K (some .int) r0 z0) (s22 : Int32 → Int32 → Int32 → pj_S → Option (Int32 × pj_S)) (k22 : ∀ (v1 : Int32) (v2 : Int32) (v3 : Int32) (z : pj_S) (H : Heap) (lo : List Loc) (ls : Array Slot), s22 v1 v2 v3 z = some (r0, z0) → pj_P B A K z H lo → lv_has ls 5 [(0, .ref (B.2.1 0)), (1, .int v1), (2, .int v2), (3, .int v3)] → pj_W K H lo 22 ls []) (v1 : Int32) (v2 : Int32) (v3 : Int32) (z : pj_S) (H : Heap) (lo : List Loc) (ls : Array Slot) (h : Md_save_22 s22 v1 v2 v3 z = some (r0, z0)) (P : pj_P B A K z H lo) (hl : lv_has ls 5 [(0, .ref (B.2.1 0)), (1, .int v1), (2, .int v2), (3, .int v3)]) : pj_W K H lo 22 ls [] := by
  unfold Md_save_22 at h
  refine pj_iload_n C dd_Md_save_22 rfl hl 3 rfl ?_
  refine pj_iconst (v := (nI 3)) C dd_Md_save_23 rfl ?_
  refine pj_ic_ge C h dd_Md_save_24 (fun h => ?_) (fun h => ?_)
  · exact bt_Md_save_40 hB C Q _ _ _ _ _ _ h P (lv_sub hl [0, 1, 2] rfl)
  · refine pj_aload_n C dd_Md_save_27 rfl hl 0 rfl ?_
    refine pj_getR C P 0 (LM0 hB) rfl fl_Md_56 dd_Md_save_28 ?_
    refine pj_iload_n C dd_Md_save_31 rfl hl 3 rfl ?_
    refine pj_iconst (v := (-1 : Int32)) C dd_Md_save_32 rfl ?_
    refine pj_iast C P 15 (LM15 hB) h dd_Md_save_33 (fun H lo z1 h P => ?_)
    refine pj_iinc (v := (nI 1)) [(0, .ref (B.2.1 0)), (1, .int v1), (2, .int v2)] C h rfl dd_Md_save_34 hl 3 rfl (by decide) rfl (fun x2 ls h hl => ?_)
    refine pj_goto C dd_Md_save_37 ?_
    exact k22 _ _ _ _ _ _ _ h P (lv_sub hl [1, 2, 3, 0] rfl)
theorem lt_Md_save_22 {B : pj_B} {A : Nat → Prop} {K : pj_K} {r0 : Int32} {z0 : pj_S} (hB : B.2.2.2.1 = pj_LM) (C : pj_C B A K cX11_save 5 RX11 11) (Q : pj_Qi B A K (some .int) r0 z0)  : ∀ (n : Nat) (v1 : Int32) (v2 : Int32) (v3 : Int32) (z : pj_S) (H : Heap) (lo : List Loc) (ls : Array Slot), pj_lp3 Md_save_22 n v1 v2 v3 z = some (r0, z0) → pj_P B A K z H lo → lv_has ls 5 [(0, .ref (B.2.1 0)), (1, .int v1), (2, .int v2), (3, .int v3)] → pj_W K H lo 22 ls [] := by
  intro n
  induction n with
  | zero => intro v1 v2 v3 z H lo ls h; rw [pj_lp3_0] at h; cases h
  | succ n ih =>
    intro v1 v2 v3 z H lo ls h P hl
    rw [pj_lp3_s] at h
    exact bt_Md_save_22 hB C Q   (pj_lp3 Md_save_22 n) ih v1 v2 v3 z H lo ls h P hl
set_option maxHeartbeats 4000000 in
set_option maxRecDepth 100000 in
theorem ct_Md_save {l : Launch} {B : pj_B} (hB : B.2.2.2.1 = pj_LM) {v1 : Int32} {v2 : Int32} {z : pj_S} {r0 : Int32} {z0 : pj_S} (h : Md_save v1 v2 z = some (r0, z0)) : pj_Mi l yX11_save cX11_save 5 (some .int) 11 [.ref (B.2.1 0), .int v1, .int v2] B z r0 z0 := by
  refine pj_meti (own := RX11) (by decide +kernel) rfl (Nat.le_of_ble_eq_true rfl) ?_
  intro A K hK C Q H lo ls P hl
  have hl : lv_has ls 5 [(0, .ref (B.2.1 0)), (1, .int v1), (2, .int v2)] := hl
  unfold Md_save at h
  refine pj_iload_n C dd_Md_save_0 rfl hl 1 rfl ?_
  refine pj_iconst (v := (nI 0)) C dd_Md_save_1 rfl ?_
  refine pj_iconst (v := (nI 3)) C dd_Md_save_2 rfl ?_
  obtain ⟨r3, z2, e1, h⟩ := pj_cE h
  refine pj_cSi (st := []) [.int v1, .int (nI 0), .int (nI 3)] C P (ct_Md_isInM hB e1) cl_Md_70 rfl (by decide) (by decide) hl.1 (Nat.le_of_ble_eq_true rfl) dd_Md_save_3 (fun H lo P => ?_)
  refine pj_if_eq C h dd_Md_save_6 (fun h => ?_) (fun h => ?_)
  · refine pj_iconst (v := (-1 : Int32)) C dd_Md_save_18 rfl ?_
    exact pj_iret C Q P h dd_Md_save_19
  · refine pj_iload_n C dd_Md_save_9 rfl hl 2 rfl ?_
    refine pj_iconst (v := (nI 0)) C dd_Md_save_10 rfl ?_
    refine pj_iconst (v := (nI 3)) C dd_Md_save_11 rfl ?_
    obtain ⟨r6, z5, e4, h⟩ := pj_cE h
    refine pj_cSi (st := []) [.int v2, .int (nI 0), .int (nI 3)] C P (ct_Md_isInM hB e4) cl_Md_70 rfl (by decide) (by decide) hl.1 (Nat.le_of_ble_eq_true rfl) dd_Md_save_12 (fun H lo P => ?_)
    refine pj_if_ne C h dd_Md_save_15 (fun h => ?_) (fun h => ?_)
    · refine pj_iconst (v := (nI 0)) C dd_Md_save_20 rfl ?_
      refine pj_istore_n [(3, .int (nI 0)), (0, .ref (B.2.1 0)), (1, .int v1), (2, .int v2)] C dd_Md_save_21 rfl hl (by decide) rfl (fun ls hl => ?_)
      exact lt_Md_save_22 hB C Q 4000 _ _ _ _ _ _ _ h P (lv_sub hl [1, 2, 3, 0] rfl)
    · refine pj_iconst (v := (-1 : Int32)) C dd_Md_save_18 rfl ?_
      exact pj_iret C Q P h dd_Md_save_19
theorem dd_Md_comes_0 : pj_d cX11_comes 0 (.aload_n 0) 1 1 := ⟨by decide +kernel, rfl⟩
theorem dd_Md_comes_1 : pj_d cX11_comes 1 (.iload_n 1) 1 2 := ⟨by decide +kernel, rfl⟩
theorem dd_Md_comes_2 : pj_d cX11_comes 2 (.iload_n 2) 1 3 := ⟨by decide +kernel, rfl⟩
theorem dd_Md_comes_3 : pj_d cX11_comes 3 (.invokevirtual 261) 3 6 := ⟨by decide +kernel, rfl⟩
theorem dd_Md_comes_6 : pj_dj cX11_comes 6 (.ifCond .eq 12) 12 9 18 := ⟨by decide +kernel, rfl, by decide⟩
theorem dd_Md_comes_9 : pj_d cX11_comes 9 (.iload_n 3) 1 10 := ⟨by decide +kernel, rfl⟩
theorem dd_Md_comes_10 : pj_d cX11_comes 10 (.iconst 0) 1 11 := ⟨by decide +kernel, rfl⟩
theorem dd_Md_comes_11 : pj_d cX11_comes 11 (.iconst 1) 1 12 := ⟨by decide +kernel, rfl⟩
theorem dd_Md_comes_12 : pj_d cX11_comes 12 (.invokestatic 70) 3 15 := ⟨by decide +kernel, rfl⟩
theorem dd_Md_comes_15 : pj_dj cX11_comes 15 (.ifCond .ne 5) 5 18 20 := ⟨by decide +kernel, rfl, by decide⟩
theorem dd_Md_comes_18 : pj_d cX11_comes 18 (.iconst (-1)) 1 19 := ⟨by decide +kernel, rfl⟩
theorem dd_Md_comes_19 : pj_d cX11_comes 19 (.ireturn) 1 20 := ⟨by decide +kernel, rfl⟩
theorem dd_Md_comes_20 : pj_d cX11_comes 20 (.aload_n 0) 1 21 := ⟨by decide +kernel, rfl⟩
theorem dd_Md_comes_21 : pj_d cX11_comes 21 (.invokevirtual 267) 3 24 := ⟨by decide +kernel, rfl⟩
theorem dd_Md_comes_24 : pj_d cX11_comes 24 (.aload_n 0) 1 25 := ⟨by decide +kernel, rfl⟩
theorem dd_Md_comes_25 : pj_d cX11_comes 25 (.invokevirtual 270) 3 28 := ⟨by decide +kernel, rfl⟩
theorem dd_Md_comes_28 : pj_d cX11_comes 28 (.aload_n 0) 1 29 := ⟨by decide +kernel, rfl⟩
theorem dd_Md_comes_29 : pj_d cX11_comes 29 (.iload_n 1) 1 30 := ⟨by decide +kernel, rfl⟩
theorem dd_Md_comes_30 : pj_d cX11_comes 30 (.iload_n 2) 1 31 := ⟨by decide +kernel, rfl⟩
theorem dd_Md_comes_31 : pj_d cX11_comes 31 (.bipush 65) 2 33 := ⟨by decide +kernel, rfl⟩
theorem dd_Md_comes_33 : pj_d cX11_comes 33 (.iconst 0) 1 34 := ⟨by decide +kernel, rfl⟩
theorem dd_Md_comes_34 : pj_d cX11_comes 34 (.invokevirtual 273) 3 37 := ⟨by decide +kernel, rfl⟩
theorem dd_Md_comes_37 : pj_d cX11_comes 37 (.iload_n 3) 1 38 := ⟨by decide +kernel, rfl⟩
theorem dd_Md_comes_38 : pj_dj cX11_comes 38 (.ifCond .ne 10) 10 41 48 := ⟨by decide +kernel, rfl, by decide⟩
theorem dd_Md_comes_41 : pj_d cX11_comes 41 (.aload_n 0) 1 42 := ⟨by decide +kernel, rfl⟩
theorem dd_Md_comes_42 : pj_d cX11_comes 42 (.getfield 249) 3 45 := ⟨by decide +kernel, rfl⟩
theorem dd_Md_comes_45 : pj_dj cX11_comes 45 (.goto 7) 7 48 52 := ⟨by decide +kernel, rfl, by decide⟩
theorem dd_Md_comes_48 : pj_d cX11_comes 48 (.aload_n 0) 1 49 := ⟨by decide +kernel, rfl⟩
theorem dd_Md_comes_49 : pj_d cX11_comes 49 (.getfield 255) 3 52 := ⟨by decide +kernel, rfl⟩
theorem dd_Md_comes_52 : pj_d cX11_comes 52 (.ireturn) 1 53 := ⟨by decide +kernel, rfl⟩
set_option maxHeartbeats 4000000 in
set_option maxRecDepth 100000 in
theorem ct_Md_comes {l : Launch} {B : pj_B} (hB : B.2.2.2.1 = pj_LM) {v1 : Int32} {v2 : Int32} {v3 : Int32} {z : pj_S} {r0 : Int32} {z0 : pj_S} (h : Md_comes v1 v2 v3 z = some (r0, z0)) : pj_Mi l yX11_comes cX11_comes 4 (some .int) 5 [.ref (B.2.1 0), .int v1, .int v2, .int v3] B z r0 z0 := by
  refine pj_meti (own := RX11) (by decide +kernel) rfl (Nat.le_of_ble_eq_true rfl) ?_
  intro A K hK C Q H lo ls P hl
  have hl : lv_has ls 4 [(0, .ref (B.2.1 0)), (1, .int v1), (2, .int v2), (3, .int v3)] := hl
  unfold Md_comes at h
  refine pj_aload_n C dd_Md_comes_0 rfl hl 0 rfl ?_
  refine pj_iload_n C dd_Md_comes_1 rfl hl 1 rfl ?_
  refine pj_iload_n C dd_Md_comes_2 rfl hl 2 rfl ?_
  obtain ⟨r3, z2, e1, h⟩ := pj_cE h
  refine pj_cVi (st := []) [.int v1, .int v2] C P 0 (LM0 hB) rfl (ct_Md_isEnd hB e1) cl_Md_261 rfl (by decide) (by decide) hl.1 (Nat.le_of_ble_eq_true rfl) dd_Md_comes_3 (fun H lo P => ?_)
  refine pj_if_eq C h dd_Md_comes_6 (fun h => ?_) (fun h => ?_)
  · refine pj_iconst (v := (-1 : Int32)) C dd_Md_comes_18 rfl ?_
    exact pj_iret C Q P h dd_Md_comes_19
  · refine pj_iload_n C dd_Md_comes_9 rfl hl 3 rfl ?_
    refine pj_iconst (v := (nI 0)) C dd_Md_comes_10 rfl ?_
    refine pj_iconst (v := (nI 1)) C dd_Md_comes_11 rfl ?_
    obtain ⟨r6, z5, e4, h⟩ := pj_cE h
    refine pj_cSi (st := []) [.int v3, .int (nI 0), .int (nI 1)] C P (ct_Md_isInM hB e4) cl_Md_70 rfl (by decide) (by decide) hl.1 (Nat.le_of_ble_eq_true rfl) dd_Md_comes_12 (fun H lo P => ?_)
    refine pj_if_ne C h dd_Md_comes_15 (fun h => ?_) (fun h => ?_)
    · refine pj_aload_n C dd_Md_comes_20 rfl hl 0 rfl ?_
      obtain ⟨r9, z8, e7, h⟩ := pj_cE h
      refine pj_cVv (st := []) [] C P 0 (LM0 hB) rfl (ct_Md_laysNow hB e7) cl_Md_267 rfl (by decide) (by decide) hl.1 (Nat.le_of_ble_eq_true rfl) dd_Md_comes_21 (fun H lo P => ?_)
      refine pj_aload_n C dd_Md_comes_24 rfl hl 0 rfl ?_
      obtain ⟨r12, z11, e10, h⟩ := pj_cE h
      refine pj_cVv (st := []) [] C P 0 (LM0 hB) rfl (ct_Md_laysHolders hB e10) cl_Md_270 rfl (by decide) (by decide) hl.1 (Nat.le_of_ble_eq_true rfl) dd_Md_comes_25 (fun H lo P => ?_)
      refine pj_aload_n C dd_Md_comes_28 rfl hl 0 rfl ?_
      refine pj_iload_n C dd_Md_comes_29 rfl hl 1 rfl ?_
      refine pj_iload_n C dd_Md_comes_30 rfl hl 2 rfl ?_
      refine pj_bipush (v := (nI 65)) C dd_Md_comes_31 rfl ?_
      refine pj_iconst (v := (nI 0)) C dd_Md_comes_33 rfl ?_
      obtain ⟨r15, z14, e13, h⟩ := pj_cE h
      refine pj_cVv (st := []) [.int v1, .int v2, .int (nI 65), .int (nI 0)] C P 0 (LM0 hB) rfl (ct_Md_pulls hB e13) cl_Md_273 rfl (by decide) (by decide) hl.1 (Nat.le_of_ble_eq_true rfl) dd_Md_comes_34 (fun H lo P => ?_)
      refine pj_iload_n C dd_Md_comes_37 rfl hl 3 rfl ?_
      refine pj_if_ne C h dd_Md_comes_38 (fun h => ?_) (fun h => ?_)
      · refine pj_aload_n C dd_Md_comes_48 rfl hl 0 rfl ?_
        refine pj_getI C P 0 (LM0 hB) rfl fl_Md_255 dd_Md_comes_49 ?_
        exact pj_iret C Q P h dd_Md_comes_52
      · refine pj_aload_n C dd_Md_comes_41 rfl hl 0 rfl ?_
        refine pj_getI C P 0 (LM0 hB) rfl fl_Md_249 dd_Md_comes_42 ?_
        refine pj_goto C dd_Md_comes_45 ?_
        exact pj_iret C Q P h dd_Md_comes_52
    · refine pj_iconst (v := (-1 : Int32)) C dd_Md_comes_18 rfl ?_
      exact pj_iret C Q P h dd_Md_comes_19
theorem dd_Md_hereMany_0 : pj_d cX11_hereMany 0 (.iconst 0) 1 1 := ⟨by decide +kernel, rfl⟩
theorem dd_Md_hereMany_1 : pj_d cX11_hereMany 1 (.istore_n 1) 1 2 := ⟨by decide +kernel, rfl⟩
theorem dd_Md_hereMany_2 : pj_d cX11_hereMany 2 (.iconst 0) 1 3 := ⟨by decide +kernel, rfl⟩
theorem dd_Md_hereMany_3 : pj_d cX11_hereMany 3 (.istore_n 2) 1 4 := ⟨by decide +kernel, rfl⟩
theorem dd_Md_hereMany_4 : pj_d cX11_hereMany 4 (.iload_n 2) 1 5 := ⟨by decide +kernel, rfl⟩
theorem dd_Md_hereMany_5 : pj_d cX11_hereMany 5 (.bipush 64) 2 7 := ⟨by decide +kernel, rfl⟩
theorem dd_Md_hereMany_7 : pj_dj cX11_hereMany 7 (.if_icmp .ge 21) 21 10 28 := ⟨by decide +kernel, rfl, by decide⟩
theorem dd_Md_hereMany_10 : pj_d cX11_hereMany 10 (.iload_n 1) 1 11 := ⟨by decide +kernel, rfl⟩
theorem dd_Md_hereMany_11 : pj_d cX11_hereMany 11 (.aload_n 0) 1 12 := ⟨by decide +kernel, rfl⟩
theorem dd_Md_hereMany_12 : pj_d cX11_hereMany 12 (.getfield 7) 3 15 := ⟨by decide +kernel, rfl⟩
theorem dd_Md_hereMany_15 : pj_d cX11_hereMany 15 (.bipush 74) 2 17 := ⟨by decide +kernel, rfl⟩
theorem dd_Md_hereMany_17 : pj_d cX11_hereMany 17 (.iload_n 2) 1 18 := ⟨by decide +kernel, rfl⟩
theorem dd_Md_hereMany_18 : pj_d cX11_hereMany 18 (.iadd) 1 19 := ⟨by decide +kernel, rfl⟩
theorem dd_Md_hereMany_19 : pj_d cX11_hereMany 19 (.iaload) 1 20 := ⟨by decide +kernel, rfl⟩
theorem dd_Md_hereMany_20 : pj_d cX11_hereMany 20 (.iadd) 1 21 := ⟨by decide +kernel, rfl⟩
theorem dd_Md_hereMany_21 : pj_d cX11_hereMany 21 (.istore_n 1) 1 22 := ⟨by decide +kernel, rfl⟩
theorem dd_Md_hereMany_22 : pj_d cX11_hereMany 22 (.iinc 2 1) 3 25 := ⟨by decide +kernel, rfl⟩
theorem dd_Md_hereMany_25 : pj_dj cX11_hereMany 25 (.goto (-21)) (-21) 28 4 := ⟨by decide +kernel, rfl, by decide⟩
theorem dd_Md_hereMany_28 : pj_d cX11_hereMany 28 (.iload_n 1) 1 29 := ⟨by decide +kernel, rfl⟩
theorem dd_Md_hereMany_29 : pj_d cX11_hereMany 29 (.ireturn) 1 30 := ⟨by decide +kernel, rfl⟩
set_option maxHeartbeats 4000000 in
set_option maxRecDepth 100000 in
theorem bt_Md_hereMany_4 {B : pj_B} {A : Nat → Prop} {K : pj_K} {r0 : Int32} {z0 : pj_S} (hB : B.2.2.2.1 = pj_LM) (C : pj_C B A K cX11_hereMany 3 RX11 1) (Q : pj_Qi B A K (some .int) r0 z0) (s4 : Int32 → Int32 → pj_S → Option (Int32 × pj_S)) (k4 : ∀ (v1 : Int32) (v2 : Int32) (z : pj_S) (H : Heap) (lo : List Loc) (ls : Array Slot), s4 v1 v2 z = some (r0, z0) → pj_P B A K z H lo → lv_has ls 3 [(0, .ref (B.2.1 0)), (1, .int v1), (2, .int v2)] → pj_W K H lo 4 ls []) (v1 : Int32) (v2 : Int32) (z : pj_S) (H : Heap) (lo : List Loc) (ls : Array Slot) (h : Md_hereMany_4 s4 v1 v2 z = some (r0, z0)) (P : pj_P B A K z H lo) (hl : lv_has ls 3 [(0, .ref (B.2.1 0)), (1, .int v1), (2, .int v2)]) : pj_W K H lo 4 ls [] := by
  unfold Md_hereMany_4 at h
  refine pj_iload_n C dd_Md_hereMany_4 rfl hl 2 rfl ?_
  refine pj_bipush (v := (nI 64)) C dd_Md_hereMany_5 rfl ?_
  refine pj_ic_ge C h dd_Md_hereMany_7 (fun h => ?_) (fun h => ?_)
  · refine pj_iload_n C dd_Md_hereMany_28 rfl hl 1 rfl ?_
    exact pj_iret C Q P h dd_Md_hereMany_29
  · refine pj_iload_n C dd_Md_hereMany_10 rfl hl 1 rfl ?_
    refine pj_aload_n C dd_Md_hereMany_11 rfl hl 0 rfl ?_
    refine pj_getR C P 0 (LM0 hB) rfl fl_Md_7 dd_Md_hereMany_12 ?_
    refine pj_bipush (v := (nI 74)) C dd_Md_hereMany_15 rfl ?_
    refine pj_iload_n C dd_Md_hereMany_17 rfl hl 2 rfl ?_
    refine pj_iadd C dd_Md_hereMany_18 ?_
    refine pj_iald C P 1 (LM1 hB) h dd_Md_hereMany_19 (fun h => ?_)
    refine pj_iadd C dd_Md_hereMany_20 ?_
    refine pj_istb_n [(0, .ref (B.2.1 0)), (2, .int v2)] C h dd_Md_hereMany_21 rfl hl (by decide) rfl (fun x1 ls h hl => ?_)
    refine pj_iinc (v := (nI 1)) [(1, .int x1), (0, .ref (B.2.1 0))] C h rfl dd_Md_hereMany_22 hl 2 rfl (by decide) rfl (fun x2 ls h hl => ?_)
    refine pj_goto C dd_Md_hereMany_25 ?_
    exact k4 _ _ _ _ _ _ h P (lv_sub hl [2, 1, 0] rfl)
theorem lt_Md_hereMany_4 {B : pj_B} {A : Nat → Prop} {K : pj_K} {r0 : Int32} {z0 : pj_S} (hB : B.2.2.2.1 = pj_LM) (C : pj_C B A K cX11_hereMany 3 RX11 1) (Q : pj_Qi B A K (some .int) r0 z0)  : ∀ (n : Nat) (v1 : Int32) (v2 : Int32) (z : pj_S) (H : Heap) (lo : List Loc) (ls : Array Slot), pj_lp2 Md_hereMany_4 n v1 v2 z = some (r0, z0) → pj_P B A K z H lo → lv_has ls 3 [(0, .ref (B.2.1 0)), (1, .int v1), (2, .int v2)] → pj_W K H lo 4 ls [] := by
  intro n
  induction n with
  | zero => intro v1 v2 z H lo ls h; rw [pj_lp2_0] at h; cases h
  | succ n ih =>
    intro v1 v2 z H lo ls h P hl
    rw [pj_lp2_s] at h
    exact bt_Md_hereMany_4 hB C Q   (pj_lp2 Md_hereMany_4 n) ih v1 v2 z H lo ls h P hl
set_option maxHeartbeats 4000000 in
set_option maxRecDepth 100000 in
theorem ct_Md_hereMany {l : Launch} {B : pj_B} (hB : B.2.2.2.1 = pj_LM)  {z : pj_S} {r0 : Int32} {z0 : pj_S} (h : Md_hereMany z = some (r0, z0)) : pj_Mi l yX11_hereMany cX11_hereMany 3 (some .int) 1 [.ref (B.2.1 0)] B z r0 z0 := by
  refine pj_meti (own := RX11) (by decide +kernel) rfl (Nat.le_of_ble_eq_true rfl) ?_
  intro A K hK C Q H lo ls P hl
  have hl : lv_has ls 3 [(0, .ref (B.2.1 0))] := hl
  unfold Md_hereMany at h
  refine pj_iconst (v := (nI 0)) C dd_Md_hereMany_0 rfl ?_
  refine pj_istore_n [(1, .int (nI 0)), (0, .ref (B.2.1 0))] C dd_Md_hereMany_1 rfl hl (by decide) rfl (fun ls hl => ?_)
  refine pj_iconst (v := (nI 0)) C dd_Md_hereMany_2 rfl ?_
  refine pj_istore_n [(2, .int (nI 0)), (1, .int (nI 0)), (0, .ref (B.2.1 0))] C dd_Md_hereMany_3 rfl hl (by decide) rfl (fun ls hl => ?_)
  exact lt_Md_hereMany_4 hB C Q 4000 _ _ _ _ _ _ h P (lv_sub hl [2, 1, 0] rfl)
theorem dd_Md_all_0 : pj_d cX11_all 0 (.aload_n 0) 1 1 := ⟨by decide +kernel, rfl⟩
theorem dd_Md_all_1 : pj_d cX11_all 1 (.invokevirtual 305) 3 4 := ⟨by decide +kernel, rfl⟩
theorem dd_Md_all_4 : pj_d cX11_all 4 (.istore_n 2) 1 5 := ⟨by decide +kernel, rfl⟩
theorem dd_Md_all_5 : pj_d cX11_all 5 (.iload_n 1) 1 6 := ⟨by decide +kernel, rfl⟩
theorem dd_Md_all_6 : pj_d cX11_all 6 (.iconst 0) 1 7 := ⟨by decide +kernel, rfl⟩
theorem dd_Md_all_7 : pj_d cX11_all 7 (.iconst 1) 1 8 := ⟨by decide +kernel, rfl⟩
theorem dd_Md_all_8 : pj_d cX11_all 8 (.invokestatic 70) 3 11 := ⟨by decide +kernel, rfl⟩
theorem dd_Md_all_11 : pj_dj cX11_all 11 (.ifCond .eq 7) 7 14 18 := ⟨by decide +kernel, rfl, by decide⟩
theorem dd_Md_all_14 : pj_d cX11_all 14 (.iload_n 2) 1 15 := ⟨by decide +kernel, rfl⟩
theorem dd_Md_all_15 : pj_dj cX11_all 15 (.ifCond .ne 5) 5 18 20 := ⟨by decide +kernel, rfl, by decide⟩
theorem dd_Md_all_18 : pj_d cX11_all 18 (.iconst (-1)) 1 19 := ⟨by decide +kernel, rfl⟩
theorem dd_Md_all_19 : pj_d cX11_all 19 (.ireturn) 1 20 := ⟨by decide +kernel, rfl⟩
theorem dd_Md_all_20 : pj_d cX11_all 20 (.iconst 0) 1 21 := ⟨by decide +kernel, rfl⟩
theorem dd_Md_all_21 : pj_d cX11_all 21 (.istore_n 3) 1 22 := ⟨by decide +kernel, rfl⟩
theorem dd_Md_all_22 : pj_d cX11_all 22 (.iload_n 3) 1 23 := ⟨by decide +kernel, rfl⟩
theorem dd_Md_all_23 : pj_d cX11_all 23 (.aload_n 0) 1 24 := ⟨by decide +kernel, rfl⟩
theorem dd_Md_all_24 : pj_d cX11_all 24 (.getfield 7) 3 27 := ⟨by decide +kernel, rfl⟩
theorem dd_Md_all_27 : pj_d cX11_all 27 (.iconst 0) 1 28 := ⟨by decide +kernel, rfl⟩
theorem dd_Md_all_28 : pj_d cX11_all 28 (.iaload) 1 29 := ⟨by decide +kernel, rfl⟩
theorem dd_Md_all_29 : pj_d cX11_all 29 (.aload_n 0) 1 30 := ⟨by decide +kernel, rfl⟩
theorem dd_Md_all_30 : pj_d cX11_all 30 (.getfield 7) 3 33 := ⟨by decide +kernel, rfl⟩
theorem dd_Md_all_33 : pj_d cX11_all 33 (.iconst 1) 1 34 := ⟨by decide +kernel, rfl⟩
theorem dd_Md_all_34 : pj_d cX11_all 34 (.iaload) 1 35 := ⟨by decide +kernel, rfl⟩
theorem dd_Md_all_35 : pj_d cX11_all 35 (.imul) 1 36 := ⟨by decide +kernel, rfl⟩
theorem dd_Md_all_36 : pj_dj cX11_all 36 (.if_icmp .ge 47) 47 39 83 := ⟨by decide +kernel, rfl, by decide⟩
theorem dd_Md_all_39 : pj_d cX11_all 39 (.iconst 0) 1 40 := ⟨by decide +kernel, rfl⟩
theorem dd_Md_all_40 : pj_d cX11_all 40 (.istore 4) 2 42 := ⟨by decide +kernel, rfl⟩
theorem dd_Md_all_42 : pj_d cX11_all 42 (.iload 4) 2 44 := ⟨by decide +kernel, rfl⟩
theorem dd_Md_all_44 : pj_d cX11_all 44 (.iconst 2) 1 45 := ⟨by decide +kernel, rfl⟩
theorem dd_Md_all_45 : pj_dj cX11_all 45 (.if_icmp .ge 32) 32 48 77 := ⟨by decide +kernel, rfl, by decide⟩
theorem dd_Md_all_48 : pj_d cX11_all 48 (.aload_n 0) 1 49 := ⟨by decide +kernel, rfl⟩
theorem dd_Md_all_49 : pj_d cX11_all 49 (.iload_n 3) 1 50 := ⟨by decide +kernel, rfl⟩
theorem dd_Md_all_50 : pj_d cX11_all 50 (.iload 4) 2 52 := ⟨by decide +kernel, rfl⟩
theorem dd_Md_all_52 : pj_d cX11_all 52 (.iconst 0) 1 53 := ⟨by decide +kernel, rfl⟩
theorem dd_Md_all_53 : pj_d cX11_all 53 (.invokevirtual 308) 3 56 := ⟨by decide +kernel, rfl⟩
theorem dd_Md_all_56 : pj_d cX11_all 56 (.iload_n 2) 1 57 := ⟨by decide +kernel, rfl⟩
theorem dd_Md_all_57 : pj_dj cX11_all 57 (.if_icmp .ne 14) 14 60 71 := ⟨by decide +kernel, rfl, by decide⟩
theorem dd_Md_all_60 : pj_d cX11_all 60 (.iload_n 1) 1 61 := ⟨by decide +kernel, rfl⟩
theorem dd_Md_all_61 : pj_dj cX11_all 61 (.ifCond .ne 7) 7 64 68 := ⟨by decide +kernel, rfl, by decide⟩
theorem dd_Md_all_64 : pj_d cX11_all 64 (.iload_n 3) 1 65 := ⟨by decide +kernel, rfl⟩
theorem dd_Md_all_65 : pj_dj cX11_all 65 (.goto 5) 5 68 70 := ⟨by decide +kernel, rfl, by decide⟩
theorem dd_Md_all_68 : pj_d cX11_all 68 (.iload 4) 2 70 := ⟨by decide +kernel, rfl⟩
theorem dd_Md_all_70 : pj_d cX11_all 70 (.ireturn) 1 71 := ⟨by decide +kernel, rfl⟩
theorem dd_Md_all_71 : pj_d cX11_all 71 (.iinc 4 1) 3 74 := ⟨by decide +kernel, rfl⟩
theorem dd_Md_all_74 : pj_dj cX11_all 74 (.goto (-32)) (-32) 77 42 := ⟨by decide +kernel, rfl, by decide⟩
theorem dd_Md_all_77 : pj_d cX11_all 77 (.iinc 3 1) 3 80 := ⟨by decide +kernel, rfl⟩
theorem dd_Md_all_80 : pj_dj cX11_all 80 (.goto (-58)) (-58) 83 22 := ⟨by decide +kernel, rfl, by decide⟩
theorem dd_Md_all_83 : pj_d cX11_all 83 (.iconst (-1)) 1 84 := ⟨by decide +kernel, rfl⟩
theorem dd_Md_all_84 : pj_d cX11_all 84 (.ireturn) 1 85 := ⟨by decide +kernel, rfl⟩
set_option maxHeartbeats 4000000 in
set_option maxRecDepth 100000 in
theorem bt_Md_all_60 {B : pj_B} {A : Nat → Prop} {K : pj_K} {r0 : Int32} {z0 : pj_S} (hB : B.2.2.2.1 = pj_LM) (C : pj_C B A K cX11_all 5 RX11 6) (Q : pj_Qi B A K (some .int) r0 z0)  (v1 : Int32) (v3 : Int32) (v4 : Int32) (z : pj_S) (H : Heap) (lo : List Loc) (ls : Array Slot) (h : Md_all_60 v1 v3 v4 z = some (r0, z0)) (P : pj_P B A K z H lo) (hl : lv_has ls 5 [(1, .int v1), (3, .int v3), (4, .int v4)]) : pj_W K H lo 60 ls [] := by
  unfold Md_all_60 at h
  refine pj_iload_n C dd_Md_all_60 rfl hl 0 rfl ?_
  refine pj_if_ne C h dd_Md_all_61 (fun h => ?_) (fun h => ?_)
  · refine pj_iload C dd_Md_all_68 hl 2 rfl ?_
    exact pj_iret C Q P h dd_Md_all_70
  · refine pj_iload_n C dd_Md_all_64 rfl hl 1 rfl ?_
    refine pj_goto C dd_Md_all_65 ?_
    exact pj_iret C Q P h dd_Md_all_70
set_option maxHeartbeats 4000000 in
set_option maxRecDepth 100000 in
theorem bt_Md_all_77 {B : pj_B} {A : Nat → Prop} {K : pj_K} {r0 : Int32} {z0 : pj_S} (hB : B.2.2.2.1 = pj_LM) (C : pj_C B A K cX11_all 5 RX11 6) (Q : pj_Qi B A K (some .int) r0 z0) (s22 : Int32 → Int32 → Int32 → pj_S → Option (Int32 × pj_S)) (k22 : ∀ (v1 : Int32) (v2 : Int32) (v3 : Int32) (z : pj_S) (H : Heap) (lo : List Loc) (ls : Array Slot), s22 v1 v2 v3 z = some (r0, z0) → pj_P B A K z H lo → lv_has ls 5 [(0, .ref (B.2.1 0)), (1, .int v1), (2, .int v2), (3, .int v3)] → pj_W K H lo 22 ls []) (v1 : Int32) (v2 : Int32) (v3 : Int32) (z : pj_S) (H : Heap) (lo : List Loc) (ls : Array Slot) (h : Md_all_77 s22 v1 v2 v3 z = some (r0, z0)) (P : pj_P B A K z H lo) (hl : lv_has ls 5 [(0, .ref (B.2.1 0)), (1, .int v1), (2, .int v2), (3, .int v3)]) : pj_W K H lo 77 ls [] := by
  unfold Md_all_77 at h
  refine pj_iinc (v := (nI 1)) [(0, .ref (B.2.1 0)), (1, .int v1), (2, .int v2)] C h rfl dd_Md_all_77 hl 3 rfl (by decide) rfl (fun x1 ls h hl => ?_)
  refine pj_goto C dd_Md_all_80 ?_
  exact k22 _ _ _ _ _ _ _ h P (lv_sub hl [1, 2, 3, 0] rfl)
set_option maxHeartbeats 4000000 in
set_option maxRecDepth 100000 in
theorem bt_Md_all_42 {B : pj_B} {A : Nat → Prop} {K : pj_K} {r0 : Int32} {z0 : pj_S} (hB : B.2.2.2.1 = pj_LM) (C : pj_C B A K cX11_all 5 RX11 6) (Q : pj_Qi B A K (some .int) r0 z0) (s22 : Int32 → Int32 → Int32 → pj_S → Option (Int32 × pj_S)) (k22 : ∀ (v1 : Int32) (v2 : Int32) (v3 : Int32) (z : pj_S) (H : Heap) (lo : List Loc) (ls : Array Slot), s22 v1 v2 v3 z = some (r0, z0) → pj_P B A K z H lo → lv_has ls 5 [(0, .ref (B.2.1 0)), (1, .int v1), (2, .int v2), (3, .int v3)] → pj_W K H lo 22 ls []) (s42 : Int32 → Int32 → Int32 → Int32 → pj_S → Option (Int32 × pj_S)) (k42 : ∀ (v1 : Int32) (v2 : Int32) (v3 : Int32) (v4 : Int32) (z : pj_S) (H : Heap) (lo : List Loc) (ls : Array Slot), s42 v1 v2 v3 v4 z = some (r0, z0) → pj_P B A K z H lo → lv_has ls 5 [(0, .ref (B.2.1 0)), (1, .int v1), (2, .int v2), (3, .int v3), (4, .int v4)] → pj_W K H lo 42 ls []) (v1 : Int32) (v2 : Int32) (v3 : Int32) (v4 : Int32) (z : pj_S) (H : Heap) (lo : List Loc) (ls : Array Slot) (h : Md_all_42 s22 s42 v1 v2 v3 v4 z = some (r0, z0)) (P : pj_P B A K z H lo) (hl : lv_has ls 5 [(0, .ref (B.2.1 0)), (1, .int v1), (2, .int v2), (3, .int v3), (4, .int v4)]) : pj_W K H lo 42 ls [] := by
  unfold Md_all_42 at h
  refine pj_iload C dd_Md_all_42 hl 4 rfl ?_
  refine pj_iconst (v := (nI 2)) C dd_Md_all_44 rfl ?_
  refine pj_ic_ge C h dd_Md_all_45 (fun h => ?_) (fun h => ?_)
  · exact bt_Md_all_77 hB C Q s22 k22 _ _ _ _ _ _ _ h P (lv_sub hl [0, 1, 2, 3] rfl)
  · refine pj_aload_n C dd_Md_all_48 rfl hl 0 rfl ?_
    refine pj_iload_n C dd_Md_all_49 rfl hl 3 rfl ?_
    refine pj_iload C dd_Md_all_50 hl 4 rfl ?_
    refine pj_iconst (v := (nI 0)) C dd_Md_all_52 rfl ?_
    obtain ⟨r3, z2, e1, h⟩ := pj_cE h
    refine pj_cVi (st := []) [.int v3, .int v4, .int (nI 0)] C P 0 (LM0 hB) rfl (ct_Md_comes hB e1) cl_Md_308 rfl (by decide) (by decide) hl.1 (Nat.le_of_ble_eq_true rfl) dd_Md_all_53 (fun H lo P => ?_)
    refine pj_iload_n C dd_Md_all_56 rfl hl 2 rfl ?_
    refine pj_ic_ne C h dd_Md_all_57 (fun h => ?_) (fun h => ?_)
    · refine pj_iinc (v := (nI 1)) [(0, .ref (B.2.1 0)), (1, .int v1), (2, .int v2), (3, .int v3)] C h rfl dd_Md_all_71 hl 4 rfl (by decide) rfl (fun x4 ls h hl => ?_)
      refine pj_goto C dd_Md_all_74 ?_
      exact k42 _ _ _ _ _ _ _ _ h P (lv_sub hl [1, 2, 3, 4, 0] rfl)
    · exact bt_Md_all_60 hB C Q _ _ _ _ _ _ _ h P (lv_sub hl [1, 3, 4] rfl)
theorem lt_Md_all_42 {B : pj_B} {A : Nat → Prop} {K : pj_K} {r0 : Int32} {z0 : pj_S} (hB : B.2.2.2.1 = pj_LM) (C : pj_C B A K cX11_all 5 RX11 6) (Q : pj_Qi B A K (some .int) r0 z0) (s22 : Int32 → Int32 → Int32 → pj_S → Option (Int32 × pj_S)) (k22 : ∀ (v1 : Int32) (v2 : Int32) (v3 : Int32) (z : pj_S) (H : Heap) (lo : List Loc) (ls : Array Slot), s22 v1 v2 v3 z = some (r0, z0) → pj_P B A K z H lo → lv_has ls 5 [(0, .ref (B.2.1 0)), (1, .int v1), (2, .int v2), (3, .int v3)] → pj_W K H lo 22 ls []) : ∀ (n : Nat) (v1 : Int32) (v2 : Int32) (v3 : Int32) (v4 : Int32) (z : pj_S) (H : Heap) (lo : List Loc) (ls : Array Slot), pj_lp4 (Md_all_42 s22) n v1 v2 v3 v4 z = some (r0, z0) → pj_P B A K z H lo → lv_has ls 5 [(0, .ref (B.2.1 0)), (1, .int v1), (2, .int v2), (3, .int v3), (4, .int v4)] → pj_W K H lo 42 ls [] := by
  intro n
  induction n with
  | zero => intro v1 v2 v3 v4 z H lo ls h; rw [pj_lp4_0] at h; cases h
  | succ n ih =>
    intro v1 v2 v3 v4 z H lo ls h P hl
    rw [pj_lp4_s] at h
    exact bt_Md_all_42 hB C Q  s22 k22 (pj_lp4 (Md_all_42 s22) n) ih v1 v2 v3 v4 z H lo ls h P hl
set_option maxHeartbeats 4000000 in
set_option maxRecDepth 100000 in
theorem bt_Md_all_22 {B : pj_B} {A : Nat → Prop} {K : pj_K} {r0 : Int32} {z0 : pj_S} (hB : B.2.2.2.1 = pj_LM) (C : pj_C B A K cX11_all 5 RX11 6) (Q : pj_Qi B A K (some .int) r0 z0) (s22 : Int32 → Int32 → Int32 → pj_S → Option (Int32 × pj_S)) (k22 : ∀ (v1 : Int32) (v2 : Int32) (v3 : Int32) (z : pj_S) (H : Heap) (lo : List Loc) (ls : Array Slot), s22 v1 v2 v3 z = some (r0, z0) → pj_P B A K z H lo → lv_has ls 5 [(0, .ref (B.2.1 0)), (1, .int v1), (2, .int v2), (3, .int v3)] → pj_W K H lo 22 ls []) (v1 : Int32) (v2 : Int32) (v3 : Int32) (z : pj_S) (H : Heap) (lo : List Loc) (ls : Array Slot) (h : Md_all_22 s22 v1 v2 v3 z = some (r0, z0)) (P : pj_P B A K z H lo) (hl : lv_has ls 5 [(0, .ref (B.2.1 0)), (1, .int v1), (2, .int v2), (3, .int v3)]) : pj_W K H lo 22 ls [] := by
  unfold Md_all_22 at h
  refine pj_iload_n C dd_Md_all_22 rfl hl 3 rfl ?_
  refine pj_aload_n C dd_Md_all_23 rfl hl 0 rfl ?_
  refine pj_getR C P 0 (LM0 hB) rfl fl_Md_7 dd_Md_all_24 ?_
  refine pj_iconst (v := (nI 0)) C dd_Md_all_27 rfl ?_
  refine pj_iald C P 1 (LM1 hB) h dd_Md_all_28 (fun h => ?_)
  refine pj_aload_n C dd_Md_all_29 rfl hl 0 rfl ?_
  refine pj_getR C P 0 (LM0 hB) rfl fl_Md_7 dd_Md_all_30 ?_
  refine pj_iconst (v := (nI 1)) C dd_Md_all_33 rfl ?_
  refine pj_iald C P 1 (LM1 hB) h dd_Md_all_34 (fun h => ?_)
  refine pj_imul C dd_Md_all_35 ?_
  refine pj_ic_ge C h dd_Md_all_36 (fun h => ?_) (fun h => ?_)
  · refine pj_iconst (v := (-1 : Int32)) C dd_Md_all_83 rfl ?_
    exact pj_iret C Q P h dd_Md_all_84
  · refine pj_iconst (v := (nI 0)) C dd_Md_all_39 rfl ?_
    refine pj_istore [(4, .int (nI 0)), (0, .ref (B.2.1 0)), (1, .int v1), (2, .int v2), (3, .int v3)] C dd_Md_all_40 hl (by decide) rfl (fun ls hl => ?_)
    exact lt_Md_all_42 hB C Q s22 k22 4000 _ _ _ _ _ _ _ _ h P (lv_sub hl [1, 2, 3, 4, 0] rfl)
theorem lt_Md_all_22 {B : pj_B} {A : Nat → Prop} {K : pj_K} {r0 : Int32} {z0 : pj_S} (hB : B.2.2.2.1 = pj_LM) (C : pj_C B A K cX11_all 5 RX11 6) (Q : pj_Qi B A K (some .int) r0 z0)  : ∀ (n : Nat) (v1 : Int32) (v2 : Int32) (v3 : Int32) (z : pj_S) (H : Heap) (lo : List Loc) (ls : Array Slot), pj_lp3 Md_all_22 n v1 v2 v3 z = some (r0, z0) → pj_P B A K z H lo → lv_has ls 5 [(0, .ref (B.2.1 0)), (1, .int v1), (2, .int v2), (3, .int v3)] → pj_W K H lo 22 ls [] := by
  intro n
  induction n with
  | zero => intro v1 v2 v3 z H lo ls h; rw [pj_lp3_0] at h; cases h
  | succ n ih =>
    intro v1 v2 v3 z H lo ls h P hl
    rw [pj_lp3_s] at h
    exact bt_Md_all_22 hB C Q   (pj_lp3 Md_all_22 n) ih v1 v2 v3 z H lo ls h P hl
set_option maxHeartbeats 4000000 in
set_option maxRecDepth 100000 in
theorem ct_Md_all {l : Launch} {B : pj_B} (hB : B.2.2.2.1 = pj_LM) {v1 : Int32} {z : pj_S} {r0 : Int32} {z0 : pj_S} (h : Md_all v1 z = some (r0, z0)) : pj_Mi l yX11_all cX11_all 5 (some .int) 6 [.ref (B.2.1 0), .int v1] B z r0 z0 := by
  refine pj_meti (own := RX11) (by decide +kernel) rfl (Nat.le_of_ble_eq_true rfl) ?_
  intro A K hK C Q H lo ls P hl
  have hl : lv_has ls 5 [(0, .ref (B.2.1 0)), (1, .int v1)] := hl
  unfold Md_all at h
  refine pj_aload_n C dd_Md_all_0 rfl hl 0 rfl ?_
  obtain ⟨r3, z2, e1, h⟩ := pj_cE h
  refine pj_cVi (st := []) [] C P 0 (LM0 hB) rfl (ct_Md_hereMany hB e1) cl_Md_305 rfl (by decide) (by decide) hl.1 (Nat.le_of_ble_eq_true rfl) dd_Md_all_1 (fun H lo P => ?_)
  refine pj_istore_n [(2, .int r3), (0, .ref (B.2.1 0)), (1, .int v1)] C dd_Md_all_4 rfl hl (by decide) rfl (fun ls hl => ?_)
  refine pj_iload_n C dd_Md_all_5 rfl hl 2 rfl ?_
  refine pj_iconst (v := (nI 0)) C dd_Md_all_6 rfl ?_
  refine pj_iconst (v := (nI 1)) C dd_Md_all_7 rfl ?_
  obtain ⟨r6, z5, e4, h⟩ := pj_cE h
  refine pj_cSi (st := []) [.int v1, .int (nI 0), .int (nI 1)] C P (ct_Md_isInM hB e4) cl_Md_70 rfl (by decide) (by decide) hl.1 (Nat.le_of_ble_eq_true rfl) dd_Md_all_8 (fun H lo P => ?_)
  refine pj_if_eq C h dd_Md_all_11 (fun h => ?_) (fun h => ?_)
  · refine pj_iconst (v := (-1 : Int32)) C dd_Md_all_18 rfl ?_
    exact pj_iret C Q P h dd_Md_all_19
  · refine pj_iload_n C dd_Md_all_14 rfl hl 0 rfl ?_
    refine pj_if_ne C h dd_Md_all_15 (fun h => ?_) (fun h => ?_)
    · refine pj_iconst (v := (nI 0)) C dd_Md_all_20 rfl ?_
      refine pj_istore_n [(3, .int (nI 0)), (2, .int r3), (0, .ref (B.2.1 0)), (1, .int v1)] C dd_Md_all_21 rfl hl (by decide) rfl (fun ls hl => ?_)
      exact lt_Md_all_22 hB C Q 4000 _ _ _ _ _ _ _ h P (lv_sub hl [2, 3, 1, 0] rfl)
    · refine pj_iconst (v := (-1 : Int32)) C dd_Md_all_18 rfl ?_
      exact pj_iret C Q P h dd_Md_all_19
