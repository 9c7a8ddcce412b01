theorem dd_Md_is_0 : pj_d cX11_is 0 (.aload_n 0) 1 1 := ⟨by decide +kernel, rfl⟩
theorem dd_Md_is_1 : pj_d cX11_is 1 (.getfield 83) 3 4 := ⟨by decide +kernel, rfl⟩
theorem dd_Md_is_4 : pj_d cX11_is 4 (.aload_n 0) 1 5 := ⟨by decide +kernel, rfl⟩
theorem dd_Md_is_5 : pj_d cX11_is 5 (.getfield 86) 3 8 := ⟨by decide +kernel, rfl⟩
theorem dd_Md_is_8 : pj_d cX11_is 8 (.isub) 1 9 := ⟨by decide +kernel, rfl⟩
theorem dd_Md_is_9 : pj_d cX11_is 9 (.aload_n 1) 1 10 := ⟨by decide +kernel, rfl⟩
theorem dd_Md_is_10 : pj_d cX11_is 10 (.invokevirtual 89) 3 13 := ⟨by decide +kernel, rfl⟩
theorem dd_Md_is_13 : pj_dj cX11_is 13 (.if_icmp .ne 7) 7 16 20 := ⟨by decide +kernel, rfl, by decide⟩
theorem dd_Md_is_16 : pj_d cX11_is 16 (.iconst 1) 1 17 := ⟨by decide +kernel, rfl⟩
theorem dd_Md_is_17 : pj_dj cX11_is 17 (.goto 4) 4 20 21 := ⟨by decide +kernel, rfl, by decide⟩
theorem dd_Md_is_20 : pj_d cX11_is 20 (.iconst 0) 1 21 := ⟨by decide +kernel, rfl⟩
theorem dd_Md_is_21 : pj_d cX11_is 21 (.istore_n 2) 1 22 := ⟨by decide +kernel, rfl⟩
theorem dd_Md_is_22 : pj_d cX11_is 22 (.iconst 0) 1 23 := ⟨by decide +kernel, rfl⟩
theorem dd_Md_is_23 : pj_d cX11_is 23 (.istore_n 3) 1 24 := ⟨by decide +kernel, rfl⟩
theorem dd_Md_is_24 : pj_d cX11_is 24 (.iload_n 3) 1 25 := ⟨by decide +kernel, rfl⟩
theorem dd_Md_is_25 : pj_d cX11_is 25 (.aload_n 1) 1 26 := ⟨by decide +kernel, rfl⟩
theorem dd_Md_is_26 : pj_d cX11_is 26 (.invokevirtual 89) 3 29 := ⟨by decide +kernel, rfl⟩
theorem dd_Md_is_29 : pj_dj cX11_is 29 (.if_icmp .ge 38) 38 32 67 := ⟨by decide +kernel, rfl, by decide⟩
theorem dd_Md_is_32 : pj_d cX11_is 32 (.iload_n 2) 1 33 := ⟨by decide +kernel, rfl⟩
theorem dd_Md_is_33 : pj_dj cX11_is 33 (.ifCond .eq 34) 34 36 67 := ⟨by decide +kernel, rfl, by decide⟩
theorem dd_Md_is_36 : pj_d cX11_is 36 (.aload_n 0) 1 37 := ⟨by decide +kernel, rfl⟩
theorem dd_Md_is_37 : pj_d cX11_is 37 (.getfield 25) 3 40 := ⟨by decide +kernel, rfl⟩
theorem dd_Md_is_40 : pj_d cX11_is 40 (.aload_n 0) 1 41 := ⟨by decide +kernel, rfl⟩
theorem dd_Md_is_41 : pj_d cX11_is 41 (.getfield 86) 3 44 := ⟨by decide +kernel, rfl⟩
theorem dd_Md_is_44 : pj_d cX11_is 44 (.iload_n 3) 1 45 := ⟨by decide +kernel, rfl⟩
theorem dd_Md_is_45 : pj_d cX11_is 45 (.iadd) 1 46 := ⟨by decide +kernel, rfl⟩
theorem dd_Md_is_46 : pj_d cX11_is 46 (.iaload) 1 47 := ⟨by decide +kernel, rfl⟩
theorem dd_Md_is_47 : pj_d cX11_is 47 (.aload_n 1) 1 48 := ⟨by decide +kernel, rfl⟩
theorem dd_Md_is_48 : pj_d cX11_is 48 (.iload_n 3) 1 49 := ⟨by decide +kernel, rfl⟩
theorem dd_Md_is_49 : pj_d cX11_is 49 (.invokevirtual 95) 3 52 := ⟨by decide +kernel, rfl⟩
theorem dd_Md_is_52 : pj_dj cX11_is 52 (.if_icmp .ne 7) 7 55 59 := ⟨by decide +kernel, rfl, by decide⟩
theorem dd_Md_is_55 : pj_d cX11_is 55 (.iconst 1) 1 56 := ⟨by decide +kernel, rfl⟩
theorem dd_Md_is_56 : pj_dj cX11_is 56 (.goto 4) 4 59 60 := ⟨by decide +kernel, rfl, by decide⟩
theorem dd_Md_is_59 : pj_d cX11_is 59 (.iconst 0) 1 60 := ⟨by decide +kernel, rfl⟩
theorem dd_Md_is_60 : pj_d cX11_is 60 (.istore_n 2) 1 61 := ⟨by decide +kernel, rfl⟩
theorem dd_Md_is_61 : pj_d cX11_is 61 (.iinc 3 1) 3 64 := ⟨by decide +kernel, rfl⟩
theorem dd_Md_is_64 : pj_dj cX11_is 64 (.goto (-40)) (-40) 67 24 := ⟨by decide +kernel, rfl, by decide⟩
theorem dd_Md_is_67 : pj_d cX11_is 67 (.iload_n 2) 1 68 := ⟨by decide +kernel, rfl⟩
theorem dd_Md_is_68 : pj_d cX11_is 68 (.ireturn) 1 69 := ⟨by decide +kernel, rfl⟩
set_option maxHeartbeats 4000000 in
set_option maxRecDepth 100000 in
theorem bt_Md_is_60 {B : pj_B} {A : Nat → Prop} {K : pj_K} {r0 : Int32} {z0 : pj_S} (hB : B.2.2.2.1 = pj_LM) (C : pj_C B A K cX11_is 4 RX11 7) (Q : pj_Qi B A K (some .boolean) r0 z0) (s24 : Nat → Int32 → Int32 → pj_S → Option (Int32 × pj_S)) (k24 : ∀ (v1 : Nat) (v2 : Int32) (v3 : Int32) (z : pj_S) (H : Heap) (lo : List Loc) (ls : Array Slot), s24 v1 v2 v3 z = some (r0, z0) → pj_P B A K z H lo → lv_has ls 4 [(0, .ref (B.2.1 0)), (1, .ref (B.2.2.2.2.2.1 v1)), (2, .int v2), (3, .int v3)] → pj_W K H lo 24 ls []) (v1 : Nat) (v3 : Int32) (t0 : Int32) (z : pj_S) (H : Heap) (lo : List Loc) (ls : Array Slot) (h : Md_is_60 s24 v1 v3 t0 z = some (r0, z0)) (P : pj_P B A K z H lo) (hl : lv_has ls 4 [(0, .ref (B.2.1 0)), (1, .ref (B.2.2.2.2.2.1 v1)), (3, .int v3)]) : pj_W K H lo 60 ls [.int t0] := by
  unfold Md_is_60 at h
  refine pj_istore_n [(2, .int t0), (0, .ref (B.2.1 0)), (1, .ref (B.2.2.2.2.2.1 v1)), (3, .int v3)] C dd_Md_is_60 rfl hl (by decide) rfl (fun ls hl => ?_)
  refine pj_iinc (v := (nI 1)) [(2, .int t0), (0, .ref (B.2.1 0)), (1, .ref (B.2.2.2.2.2.1 v1))] C h rfl dd_Md_is_61 hl 3 rfl (by decide) rfl (fun x1 ls h hl => ?_)
  refine pj_goto C dd_Md_is_64 ?_
  exact k24 _ _ _ _ _ _ _ h P (lv_sub hl [2, 3, 1, 0] rfl)
set_option maxHeartbeats 4000000 in
set_option maxRecDepth 100000 in
theorem bt_Md_is_24 {B : pj_B} {A : Nat → Prop} {K : pj_K} {r0 : Int32} {z0 : pj_S} (hB : B.2.2.2.1 = pj_LM) (C : pj_C B A K cX11_is 4 RX11 7) (Q : pj_Qi B A K (some .boolean) r0 z0) (s24 : Nat → Int32 → Int32 → pj_S → Option (Int32 × pj_S)) (k24 : ∀ (v1 : Nat) (v2 : Int32) (v3 : Int32) (z : pj_S) (H : Heap) (lo : List Loc) (ls : Array Slot), s24 v1 v2 v3 z = some (r0, z0) → pj_P B A K z H lo → lv_has ls 4 [(0, .ref (B.2.1 0)), (1, .ref (B.2.2.2.2.2.1 v1)), (2, .int v2), (3, .int v3)] → pj_W K H lo 24 ls []) (v1 : Nat) (v2 : Int32) (v3 : Int32) (z : pj_S) (H : Heap) (lo : List Loc) (ls : Array Slot) (h : Md_is_24 s24 v1 v2 v3 z = some (r0, z0)) (P : pj_P B A K z H lo) (hl : lv_has ls 4 [(0, .ref (B.2.1 0)), (1, .ref (B.2.2.2.2.2.1 v1)), (2, .int v2), (3, .int v3)]) : pj_W K H lo 24 ls [] := by
  unfold Md_is_24 at h
  refine pj_iload_n C dd_Md_is_24 rfl hl 3 rfl ?_
  refine pj_aload_n C dd_Md_is_25 rfl hl 1 rfl ?_
  obtain ⟨r3, z2, e1, h⟩ := pj_cE h
  refine pj_cKi (st := [.int v3]) [] C P v1 (JStr_hi_length e1) (ct_JStr_length hB e1) cl_Md_89 rfl (by decide) (by decide) hl.1 (Nat.le_of_ble_eq_true rfl) dd_Md_is_26 (fun H lo P => ?_)
  refine pj_ic_ge C h dd_Md_is_29 (fun h => ?_) (fun h => ?_)
  · refine pj_iload_n C dd_Md_is_67 rfl hl 2 rfl ?_
    exact pj_zret C Q P h dd_Md_is_68
  · refine pj_iload_n C dd_Md_is_32 rfl hl 2 rfl ?_
    refine pj_if_eq C h dd_Md_is_33 (fun h => ?_) (fun h => ?_)
    · refine pj_iload_n C dd_Md_is_67 rfl hl 2 rfl ?_
      exact pj_zret C Q P h dd_Md_is_68
    · refine pj_aload_n C dd_Md_is_36 rfl hl 0 rfl ?_
      refine pj_getR C P 0 (LM0 hB) rfl fl_Md_25 dd_Md_is_37 ?_
      refine pj_aload_n C dd_Md_is_40 rfl hl 0 rfl ?_
      refine pj_getI C P 0 (LM0 hB) rfl fl_Md_86 dd_Md_is_41 ?_
      refine pj_iload_n C dd_Md_is_44 rfl hl 3 rfl ?_
      refine pj_iadd C dd_Md_is_45 ?_
      refine pj_iald C P 6 (LM6 hB) h dd_Md_is_46 (fun h => ?_)
      refine pj_aload_n C dd_Md_is_47 rfl hl 1 rfl ?_
      refine pj_iload_n C dd_Md_is_48 rfl hl 3 rfl ?_
      obtain ⟨r6, z5, e4, h⟩ := pj_cE h
      refine pj_cKi (st := [.int (z2.1 6 (Int32.toNatClampNeg ((z2.1 0 15) + v3)))]) [.int v3] C P v1 (JStr_hi_charAt e4) (ct_JStr_charAt hB e4) cl_Md_95 rfl (by decide) (by decide) hl.1 (Nat.le_of_ble_eq_true rfl) dd_Md_is_49 (fun H lo P => ?_)
      refine pj_ic_ne C h dd_Md_is_52 (fun h => ?_) (fun h => ?_)
      · refine pj_iconst (v := (nI 0)) C dd_Md_is_59 rfl ?_
        exact bt_Md_is_60 hB C Q s24 k24 _ _ _ _ _ _ _ h P (lv_sub hl [0, 1, 3] rfl)
      · refine pj_iconst (v := (nI 1)) C dd_Md_is_55 rfl ?_
        refine pj_goto C dd_Md_is_56 ?_
        exact bt_Md_is_60 hB C Q s24 k24 _ _ _ _ _ _ _ h P (lv_sub hl [0, 1, 3] rfl)
theorem lt_Md_is_24 {B : pj_B} {A : Nat → Prop} {K : pj_K} {r0 : Int32} {z0 : pj_S} (hB : B.2.2.2.1 = pj_LM) (C : pj_C B A K cX11_is 4 RX11 7) (Q : pj_Qi B A K (some .boolean) r0 z0)  : ∀ (n : Nat) (v1 : Nat) (v2 : Int32) (v3 : Int32) (z : pj_S) (H : Heap) (lo : List Loc) (ls : Array Slot), pj_lp3 Md_is_24 n v1 v2 v3 z = some (r0, z0) → pj_P B A K z H lo → lv_has ls 4 [(0, .ref (B.2.1 0)), (1, .ref (B.2.2.2.2.2.1 v1)), (2, .int v2), (3, .int v3)] → pj_W K H lo 24 ls [] := by
  intro n
  induction n with
  | zero => intro v1 v2 v3 z H lo ls h; rw [pj_lp3_0] at h; cases h
  | succ n ih =>
    intro v1 v2 v3 z H lo ls h P hl
    rw [pj_lp3_s] at h
    exact bt_Md_is_24 hB C Q   (pj_lp3 Md_is_24 n) ih v1 v2 v3 z H lo ls h P hl
set_option maxHeartbeats 4000000 in
set_option maxRecDepth 100000 in
theorem bt_Md_is_21 {B : pj_B} {A : Nat → Prop} {K : pj_K} {r0 : Int32} {z0 : pj_S} (hB : B.2.2.2.1 = pj_LM) (C : pj_C B A K cX11_is 4 RX11 7) (Q : pj_Qi B A K (some .boolean) r0 z0)  (v1 : Nat) (t0 : Int32) (z : pj_S) (H : Heap) (lo : List Loc) (ls : Array Slot) (h : Md_is_21 v1 t0 z = some (r0, z0)) (P : pj_P B A K z H lo) (hl : lv_has ls 4 [(0, .ref (B.2.1 0)), (1, .ref (B.2.2.2.2.2.1 v1))]) : pj_W K H lo 21 ls [.int t0] := by
  unfold Md_is_21 at h
  refine pj_istore_n [(2, .int t0), (0, .ref (B.2.1 0)), (1, .ref (B.2.2.2.2.2.1 v1))] C dd_Md_is_21 rfl hl (by decide) rfl (fun ls hl => ?_)
  refine pj_iconst (v := (nI 0)) C dd_Md_is_22 rfl ?_
  refine pj_istore_n [(3, .int (nI 0)), (2, .int t0), (0, .ref (B.2.1 0)), (1, .ref (B.2.2.2.2.2.1 v1))] C dd_Md_is_23 rfl hl (by decide) rfl (fun ls hl => ?_)
  exact lt_Md_is_24 hB C Q 4000 _ _ _ _ _ _ _ h P (lv_sub hl [2, 3, 1, 0] rfl)
set_option maxHeartbeats 4000000 in
set_option maxRecDepth 100000 in
theorem ct_Md_is {l : Launch} {B : pj_B} (hB : B.2.2.2.1 = pj_LM) {v1 : Nat} {z : pj_S} {r0 : Int32} {z0 : pj_S} (h : Md_is v1 z = some (r0, z0)) : pj_Mi l yX11_is cX11_is 4 (some .boolean) 7 [.ref (B.2.1 0), .ref (B.2.2.2.2.2.1 v1)] B z r0 z0 := by
  refine pj_meti (own := RX11) (by decide +kernel) rfl (Nat.le_of_ble_eq_true rfl) ?_
  intro A K hK C Q H lo ls P hl
  have hl : lv_has ls 4 [(0, .ref (B.2.1 0)), (1, .ref (B.2.2.2.2.2.1 v1))] := hl
  unfold Md_is at h
  refine pj_aload_n C dd_Md_is_0 rfl hl 0 rfl ?_
  refine pj_getI C P 0 (LM0 hB) rfl fl_Md_83 dd_Md_is_1 ?_
  refine pj_aload_n C dd_Md_is_4 rfl hl 0 rfl ?_
  refine pj_getI C P 0 (LM0 hB) rfl fl_Md_86 dd_Md_is_5 ?_
  refine pj_isub C dd_Md_is_8 ?_
  refine pj_aload_n C dd_Md_is_9 rfl hl 1 rfl ?_
  obtain ⟨r3, z2, e1, h⟩ := pj_cE h
  refine pj_cKi (st := [.int ((z.1 0 13) - (z.1 0 15))]) [] C P v1 (JStr_hi_length e1) (ct_JStr_length hB e1) cl_Md_89 rfl (by decide) (by decide) hl.1 (Nat.le_of_ble_eq_true rfl) dd_Md_is_10 (fun H lo P => ?_)
  refine pj_ic_ne C h dd_Md_is_13 (fun h => ?_) (fun h => ?_)
  · refine pj_iconst (v := (nI 0)) C dd_Md_is_20 rfl ?_
    exact bt_Md_is_21 hB C Q _ _ _ _ _ _ h P (lv_sub hl [0, 1] rfl)
  · refine pj_iconst (v := (nI 1)) C dd_Md_is_16 rfl ?_
    refine pj_goto C dd_Md_is_17 ?_
    exact bt_Md_is_21 hB C Q _ _ _ _ _ _ h P (lv_sub hl [0, 1] rfl)
theorem dd_Md_nameWord_0 : pj_d cX11_nameWord 0 (.aload_n 0) 1 1 := ⟨by decide +kernel, rfl⟩
theorem dd_Md_nameWord_1 : pj_d cX11_nameWord 1 (.ldc 99) 2 3 := ⟨by decide +kernel, rfl⟩
theorem dd_Md_nameWord_3 : pj_d cX11_nameWord 3 (.invokevirtual 101) 3 6 := ⟨by decide +kernel, rfl⟩
theorem dd_Md_nameWord_6 : pj_dj cX11_nameWord 6 (.ifCond .eq 6) 6 9 12 := ⟨by decide +kernel, rfl, by decide⟩
theorem dd_Md_nameWord_9 : pj_d cX11_nameWord 9 (.bipush 41) 2 11 := ⟨by decide +kernel, rfl⟩
theorem dd_Md_nameWord_11 : pj_d cX11_nameWord 11 (.ireturn) 1 12 := ⟨by decide +kernel, rfl⟩
theorem dd_Md_nameWord_12 : pj_d cX11_nameWord 12 (.aload_n 0) 1 13 := ⟨by decide +kernel, rfl⟩
theorem dd_Md_nameWord_13 : pj_d cX11_nameWord 13 (.ldc 105) 2 15 := ⟨by decide +kernel, rfl⟩
theorem dd_Md_nameWord_15 : pj_d cX11_nameWord 15 (.invokevirtual 101) 3 18 := ⟨by decide +kernel, rfl⟩
theorem dd_Md_nameWord_18 : pj_dj cX11_nameWord 18 (.ifCond .eq 6) 6 21 24 := ⟨by decide +kernel, rfl, by decide⟩
theorem dd_Md_nameWord_21 : pj_d cX11_nameWord 21 (.bipush 42) 2 23 := ⟨by decide +kernel, rfl⟩
theorem dd_Md_nameWord_23 : pj_d cX11_nameWord 23 (.ireturn) 1 24 := ⟨by decide +kernel, rfl⟩
theorem dd_Md_nameWord_24 : pj_d cX11_nameWord 24 (.aload_n 0) 1 25 := ⟨by decide +kernel, rfl⟩
theorem dd_Md_nameWord_25 : pj_d cX11_nameWord 25 (.ldc 107) 2 27 := ⟨by decide +kernel, rfl⟩
theorem dd_Md_nameWord_27 : pj_d cX11_nameWord 27 (.invokevirtual 101) 3 30 := ⟨by decide +kernel, rfl⟩
theorem dd_Md_nameWord_30 : pj_dj cX11_nameWord 30 (.ifCond .eq 6) 6 33 36 := ⟨by decide +kernel, rfl, by decide⟩
theorem dd_Md_nameWord_33 : pj_d cX11_nameWord 33 (.bipush 43) 2 35 := ⟨by decide +kernel, rfl⟩
theorem dd_Md_nameWord_35 : pj_d cX11_nameWord 35 (.ireturn) 1 36 := ⟨by decide +kernel, rfl⟩
theorem dd_Md_nameWord_36 : pj_d cX11_nameWord 36 (.aload_n 0) 1 37 := ⟨by decide +kernel, rfl⟩
theorem dd_Md_nameWord_37 : pj_d cX11_nameWord 37 (.ldc 109) 2 39 := ⟨by decide +kernel, rfl⟩
theorem dd_Md_nameWord_39 : pj_d cX11_nameWord 39 (.invokevirtual 101) 3 42 := ⟨by decide +kernel, rfl⟩
theorem dd_Md_nameWord_42 : pj_dj cX11_nameWord 42 (.ifCond .eq 6) 6 45 48 := ⟨by decide +kernel, rfl, by decide⟩
theorem dd_Md_nameWord_45 : pj_d cX11_nameWord 45 (.bipush 44) 2 47 := ⟨by decide +kernel, rfl⟩
theorem dd_Md_nameWord_47 : pj_d cX11_nameWord 47 (.ireturn) 1 48 := ⟨by decide +kernel, rfl⟩
theorem dd_Md_nameWord_48 : pj_d cX11_nameWord 48 (.aload_n 0) 1 49 := ⟨by decide +kernel, rfl⟩
theorem dd_Md_nameWord_49 : pj_d cX11_nameWord 49 (.ldc 111) 2 51 := ⟨by decide +kernel, rfl⟩
theorem dd_Md_nameWord_51 : pj_d cX11_nameWord 51 (.invokevirtual 101) 3 54 := ⟨by decide +kernel, rfl⟩
theorem dd_Md_nameWord_54 : pj_dj cX11_nameWord 54 (.ifCond .eq 6) 6 57 60 := ⟨by decide +kernel, rfl, by decide⟩
theorem dd_Md_nameWord_57 : pj_d cX11_nameWord 57 (.bipush 45) 2 59 := ⟨by decide +kernel, rfl⟩
theorem dd_Md_nameWord_59 : pj_d cX11_nameWord 59 (.ireturn) 1 60 := ⟨by decide +kernel, rfl⟩
theorem dd_Md_nameWord_60 : pj_d cX11_nameWord 60 (.aload_n 0) 1 61 := ⟨by decide +kernel, rfl⟩
theorem dd_Md_nameWord_61 : pj_d cX11_nameWord 61 (.ldc 113) 2 63 := ⟨by decide +kernel, rfl⟩
theorem dd_Md_nameWord_63 : pj_d cX11_nameWord 63 (.invokevirtual 101) 3 66 := ⟨by decide +kernel, rfl⟩
theorem dd_Md_nameWord_66 : pj_dj cX11_nameWord 66 (.ifCond .eq 6) 6 69 72 := ⟨by decide +kernel, rfl, by decide⟩
theorem dd_Md_nameWord_69 : pj_d cX11_nameWord 69 (.bipush 46) 2 71 := ⟨by decide +kernel, rfl⟩
theorem dd_Md_nameWord_71 : pj_d cX11_nameWord 71 (.ireturn) 1 72 := ⟨by decide +kernel, rfl⟩
theorem dd_Md_nameWord_72 : pj_d cX11_nameWord 72 (.aload_n 0) 1 73 := ⟨by decide +kernel, rfl⟩
theorem dd_Md_nameWord_73 : pj_d cX11_nameWord 73 (.ldc 115) 2 75 := ⟨by decide +kernel, rfl⟩
theorem dd_Md_nameWord_75 : pj_d cX11_nameWord 75 (.invokevirtual 101) 3 78 := ⟨by decide +kernel, rfl⟩
theorem dd_Md_nameWord_78 : pj_dj cX11_nameWord 78 (.ifCond .eq 8) 8 81 86 := ⟨by decide +kernel, rfl, by decide⟩
theorem dd_Md_nameWord_81 : pj_d cX11_nameWord 81 (.bipush 47) 2 83 := ⟨by decide +kernel, rfl⟩
theorem dd_Md_nameWord_83 : pj_dj cX11_nameWord 83 (.goto 4) 4 86 87 := ⟨by decide +kernel, rfl, by decide⟩
theorem dd_Md_nameWord_86 : pj_d cX11_nameWord 86 (.iconst 1) 1 87 := ⟨by decide +kernel, rfl⟩
theorem dd_Md_nameWord_87 : pj_d cX11_nameWord 87 (.ireturn) 1 88 := ⟨by decide +kernel, rfl⟩
set_option maxHeartbeats 4000000 in
set_option maxRecDepth 100000 in
theorem ct_Md_nameWord {l : Launch} {B : pj_B} (hB : B.2.2.2.1 = pj_LM)  {z : pj_S} {r0 : Int32} {z0 : pj_S} (h : Md_nameWord z = some (r0, z0)) : pj_Mi l yX11_nameWord cX11_nameWord 1 (some .int) 8 [.ref (B.2.1 0)] B z r0 z0 := by
  refine pj_meti (own := RX11) (by decide +kernel) rfl (Nat.le_of_ble_eq_true rfl) ?_
  intro A K hK C Q H lo ls P hl
  have hl : lv_has ls 1 [(0, .ref (B.2.1 0))] := hl
  unfold Md_nameWord at h
  refine pj_aload_n C dd_Md_nameWord_0 rfl hl 0 rfl ?_
  refine pj_ldcS (tx := "kind") (i := 5) C (by decide +kernel) dd_Md_nameWord_1 ?_
  obtain ⟨r3, z2, e1, h⟩ := pj_cE h
  refine pj_cVi (st := []) [.ref (B.2.2.2.2.2.1 5)] C P 0 (LM0 hB) rfl (ct_Md_is hB e1) cl_Md_101 rfl (by decide) (by decide) hl.1 (Nat.le_of_ble_eq_true rfl) dd_Md_nameWord_3 (fun H lo P => ?_)
  refine pj_if_eq C h dd_Md_nameWord_6 (fun h => ?_) (fun h => ?_)
  · refine pj_aload_n C dd_Md_nameWord_12 rfl hl 0 rfl ?_
    refine pj_ldcS (tx := "row") (i := 6) C (by decide +kernel) dd_Md_nameWord_13 ?_
    obtain ⟨r6, z5, e4, h⟩ := pj_cE h
    refine pj_cVi (st := []) [.ref (B.2.2.2.2.2.1 6)] C P 0 (LM0 hB) rfl (ct_Md_is hB e4) cl_Md_101 rfl (by decide) (by decide) hl.1 (Nat.le_of_ble_eq_true rfl) dd_Md_nameWord_15 (fun H lo P => ?_)
    refine pj_if_eq C h dd_Md_nameWord_18 (fun h => ?_) (fun h => ?_)
    · refine pj_aload_n C dd_Md_nameWord_24 rfl hl 0 rfl ?_
      refine pj_ldcS (tx := "column") (i := 7) C (by decide +kernel) dd_Md_nameWord_25 ?_
      obtain ⟨r9, z8, e7, h⟩ := pj_cE h
      refine pj_cVi (st := []) [.ref (B.2.2.2.2.2.1 7)] C P 0 (LM0 hB) rfl (ct_Md_is hB e7) cl_Md_101 rfl (by decide) (by decide) hl.1 (Nat.le_of_ble_eq_true rfl) dd_Md_nameWord_27 (fun H lo P => ?_)
      refine pj_if_eq C h dd_Md_nameWord_30 (fun h => ?_) (fun h => ?_)
      · refine pj_aload_n C dd_Md_nameWord_36 rfl hl 0 rfl ?_
        refine pj_ldcS (tx := "beside") (i := 8) C (by decide +kernel) dd_Md_nameWord_37 ?_
        obtain ⟨r12, z11, e10, h⟩ := pj_cE h
        refine pj_cVi (st := []) [.ref (B.2.2.2.2.2.1 8)] C P 0 (LM0 hB) rfl (ct_Md_is hB e10) cl_Md_101 rfl (by decide) (by decide) hl.1 (Nat.le_of_ble_eq_true rfl) dd_Md_nameWord_39 (fun H lo P => ?_)
        refine pj_if_eq C h dd_Md_nameWord_42 (fun h => ?_) (fun h => ?_)
        · refine pj_aload_n C dd_Md_nameWord_48 rfl hl 0 rfl ?_
          refine pj_ldcS (tx := "below") (i := 9) C (by decide +kernel) dd_Md_nameWord_49 ?_
          obtain ⟨r15, z14, e13, h⟩ := pj_cE h
          refine pj_cVi (st := []) [.ref (B.2.2.2.2.2.1 9)] C P 0 (LM0 hB) rfl (ct_Md_is hB e13) cl_Md_101 rfl (by decide) (by decide) hl.1 (Nat.le_of_ble_eq_true rfl) dd_Md_nameWord_51 (fun H lo P => ?_)
          refine pj_if_eq C h dd_Md_nameWord_54 (fun h => ?_) (fun h => ?_)
          · refine pj_aload_n C dd_Md_nameWord_60 rfl hl 0 rfl ?_
            refine pj_ldcS (tx := "hour") (i := 10) C (by decide +kernel) dd_Md_nameWord_61 ?_
            obtain ⟨r18, z17, e16, h⟩ := pj_cE h
            refine pj_cVi (st := []) [.ref (B.2.2.2.2.2.1 10)] C P 0 (LM0 hB) rfl (ct_Md_is hB e16) cl_Md_101 rfl (by decide) (by decide) hl.1 (Nat.le_of_ble_eq_true rfl) dd_Md_nameWord_63 (fun H lo P => ?_)
            refine pj_if_eq C h dd_Md_nameWord_66 (fun h => ?_) (fun h => ?_)
            · refine pj_aload_n C dd_Md_nameWord_72 rfl hl 0 rfl ?_
              refine pj_ldcS (tx := "gone") (i := 11) C (by decide +kernel) dd_Md_nameWord_73 ?_
              obtain ⟨r21, z20, e19, h⟩ := pj_cE h
              refine pj_cVi (st := []) [.ref (B.2.2.2.2.2.1 11)] C P 0 (LM0 hB) rfl (ct_Md_is hB e19) cl_Md_101 rfl (by decide) (by decide) hl.1 (Nat.le_of_ble_eq_true rfl) dd_Md_nameWord_75 (fun H lo P => ?_)
              refine pj_if_eq C h dd_Md_nameWord_78 (fun h => ?_) (fun h => ?_)
              · refine pj_iconst (v := (nI 1)) C dd_Md_nameWord_86 rfl ?_
                exact pj_iret C Q P h dd_Md_nameWord_87
              · refine pj_bipush (v := (nI 47)) C dd_Md_nameWord_81 rfl ?_
                refine pj_goto C dd_Md_nameWord_83 ?_
                exact pj_iret C Q P h dd_Md_nameWord_87
            · refine pj_bipush (v := (nI 46)) C dd_Md_nameWord_69 rfl ?_
              exact pj_iret C Q P h dd_Md_nameWord_71
          · refine pj_bipush (v := (nI 45)) C dd_Md_nameWord_57 rfl ?_
            exact pj_iret C Q P h dd_Md_nameWord_59
        · refine pj_bipush (v := (nI 44)) C dd_Md_nameWord_45 rfl ?_
          exact pj_iret C Q P h dd_Md_nameWord_47
      · refine pj_bipush (v := (nI 43)) C dd_Md_nameWord_33 rfl ?_
        exact pj_iret C Q P h dd_Md_nameWord_35
    · refine pj_bipush (v := (nI 42)) C dd_Md_nameWord_21 rfl ?_
      exact pj_iret C Q P h dd_Md_nameWord_23
  · refine pj_bipush (v := (nI 41)) C dd_Md_nameWord_9 rfl ?_
    exact pj_iret C Q P h dd_Md_nameWord_11
theorem dd_Md_word_0 : pj_d cX11_word 0 (.aload_n 0) 1 1 := ⟨by decide +kernel, rfl⟩
theorem dd_Md_word_1 : pj_d cX11_word 1 (.ldc 117) 2 3 := ⟨by decide +kernel, rfl⟩
theorem dd_Md_word_3 : pj_d cX11_word 3 (.invokevirtual 101) 3 6 := ⟨by decide +kernel, rfl⟩
theorem dd_Md_word_6 : pj_dj cX11_word 6 (.ifCond .eq 5) 5 9 11 := ⟨by decide +kernel, rfl, by decide⟩
theorem dd_Md_word_9 : pj_d cX11_word 9 (.iconst 3) 1 10 := ⟨by decide +kernel, rfl⟩
theorem dd_Md_word_10 : pj_d cX11_word 10 (.ireturn) 1 11 := ⟨by decide +kernel, rfl⟩
theorem dd_Md_word_11 : pj_d cX11_word 11 (.aload_n 0) 1 12 := ⟨by decide +kernel, rfl⟩
theorem dd_Md_word_12 : pj_d cX11_word 12 (.ldc 119) 2 14 := ⟨by decide +kernel, rfl⟩
theorem dd_Md_word_14 : pj_d cX11_word 14 (.invokevirtual 101) 3 17 := ⟨by decide +kernel, rfl⟩
theorem dd_Md_word_17 : pj_dj cX11_word 17 (.ifCond .eq 5) 5 20 22 := ⟨by decide +kernel, rfl, by decide⟩
theorem dd_Md_word_20 : pj_d cX11_word 20 (.iconst 4) 1 21 := ⟨by decide +kernel, rfl⟩
theorem dd_Md_word_21 : pj_d cX11_word 21 (.ireturn) 1 22 := ⟨by decide +kernel, rfl⟩
theorem dd_Md_word_22 : pj_d cX11_word 22 (.aload_n 0) 1 23 := ⟨by decide +kernel, rfl⟩
theorem dd_Md_word_23 : pj_d cX11_word 23 (.ldc 121) 2 25 := ⟨by decide +kernel, rfl⟩
theorem dd_Md_word_25 : pj_d cX11_word 25 (.invokevirtual 101) 3 28 := ⟨by decide +kernel, rfl⟩
theorem dd_Md_word_28 : pj_dj cX11_word 28 (.ifCond .eq 5) 5 31 33 := ⟨by decide +kernel, rfl, by decide⟩
theorem dd_Md_word_31 : pj_d cX11_word 31 (.iconst 5) 1 32 := ⟨by decide +kernel, rfl⟩
theorem dd_Md_word_32 : pj_d cX11_word 32 (.ireturn) 1 33 := ⟨by decide +kernel, rfl⟩
theorem dd_Md_word_33 : pj_d cX11_word 33 (.aload_n 0) 1 34 := ⟨by decide +kernel, rfl⟩
theorem dd_Md_word_34 : pj_d cX11_word 34 (.ldc 123) 2 36 := ⟨by decide +kernel, rfl⟩
theorem dd_Md_word_36 : pj_d cX11_word 36 (.invokevirtual 101) 3 39 := ⟨by decide +kernel, rfl⟩
theorem dd_Md_word_39 : pj_dj cX11_word 39 (.ifCond .eq 6) 6 42 45 := ⟨by decide +kernel, rfl, by decide⟩
theorem dd_Md_word_42 : pj_d cX11_word 42 (.bipush 6) 2 44 := ⟨by decide +kernel, rfl⟩
theorem dd_Md_word_44 : pj_d cX11_word 44 (.ireturn) 1 45 := ⟨by decide +kernel, rfl⟩
theorem dd_Md_word_45 : pj_d cX11_word 45 (.aload_n 0) 1 46 := ⟨by decide +kernel, rfl⟩
theorem dd_Md_word_46 : pj_d cX11_word 46 (.ldc 125) 2 48 := ⟨by decide +kernel, rfl⟩
theorem dd_Md_word_48 : pj_d cX11_word 48 (.invokevirtual 101) 3 51 := ⟨by decide +kernel, rfl⟩
theorem dd_Md_word_51 : pj_dj cX11_word 51 (.ifCond .eq 8) 8 54 59 := ⟨by decide +kernel, rfl, by decide⟩
theorem dd_Md_word_54 : pj_d cX11_word 54 (.bipush 20) 2 56 := ⟨by decide +kernel, rfl⟩
theorem dd_Md_word_56 : pj_dj cX11_word 56 (.goto 7) 7 59 63 := ⟨by decide +kernel, rfl, by decide⟩
theorem dd_Md_word_59 : pj_d cX11_word 59 (.aload_n 0) 1 60 := ⟨by decide +kernel, rfl⟩
theorem dd_Md_word_60 : pj_d cX11_word 60 (.invokevirtual 127) 3 63 := ⟨by decide +kernel, rfl⟩
theorem dd_Md_word_63 : pj_d cX11_word 63 (.ireturn) 1 64 := ⟨by decide +kernel, rfl⟩
set_option maxHeartbeats 4000000 in
set_option maxRecDepth 100000 in
theorem ct_Md_word {l : Launch} {B : pj_B} (hB : B.2.2.2.1 = pj_LM)  {z : pj_S} {r0 : Int32} {z0 : pj_S} (h : Md_word z = some (r0, z0)) : pj_Mi l yX11_word cX11_word 1 (some .int) 9 [.ref (B.2.1 0)] B z r0 z0 := by
  refine pj_meti (own := RX11) (by decide +kernel) rfl (Nat.le_of_ble_eq_true rfl) ?_
  intro A K hK C Q H lo ls P hl
  have hl : lv_has ls 1 [(0, .ref (B.2.1 0))] := hl
  unfold Md_word at h
  refine pj_aload_n C dd_Md_word_0 rfl hl 0 rfl ?_
  refine pj_ldcS (tx := "when") (i := 1) C (by decide +kernel) dd_Md_word_1 ?_
  obtain ⟨r3, z2, e1, h⟩ := pj_cE h
  refine pj_cVi (st := []) [.ref (B.2.2.2.2.2.1 1)] C P 0 (LM0 hB) rfl (ct_Md_is hB e1) cl_Md_101 rfl (by decide) (by decide) hl.1 (Nat.le_of_ble_eq_true rfl) dd_Md_word_3 (fun H lo P => ?_)
  refine pj_if_eq C h dd_Md_word_6 (fun h => ?_) (fun h => ?_)
  · refine pj_aload_n C dd_Md_word_11 rfl hl 0 rfl ?_
    refine pj_ldcS (tx := "or") (i := 2) C (by decide +kernel) dd_Md_word_12 ?_
    obtain ⟨r6, z5, e4, h⟩ := pj_cE h
    refine pj_cVi (st := []) [.ref (B.2.2.2.2.2.1 2)] C P 0 (LM0 hB) rfl (ct_Md_is hB e4) cl_Md_101 rfl (by decide) (by decide) hl.1 (Nat.le_of_ble_eq_true rfl) dd_Md_word_14 (fun H lo P => ?_)
    refine pj_if_eq C h dd_Md_word_17 (fun h => ?_) (fun h => ?_)
    · refine pj_aload_n C dd_Md_word_22 rfl hl 0 rfl ?_
      refine pj_ldcS (tx := "and") (i := 3) C (by decide +kernel) dd_Md_word_23 ?_
      obtain ⟨r9, z8, e7, h⟩ := pj_cE h
      refine pj_cVi (st := []) [.ref (B.2.2.2.2.2.1 3)] C P 0 (LM0 hB) rfl (ct_Md_is hB e7) cl_Md_101 rfl (by decide) (by decide) hl.1 (Nat.le_of_ble_eq_true rfl) dd_Md_word_25 (fun H lo P => ?_)
      refine pj_if_eq C h dd_Md_word_28 (fun h => ?_) (fun h => ?_)
      · refine pj_aload_n C dd_Md_word_33 rfl hl 0 rfl ?_
        refine pj_ldcS (tx := "not") (i := 4) C (by decide +kernel) dd_Md_word_34 ?_
        obtain ⟨r12, z11, e10, h⟩ := pj_cE h
        refine pj_cVi (st := []) [.ref (B.2.2.2.2.2.1 4)] C P 0 (LM0 hB) rfl (ct_Md_is hB e10) cl_Md_101 rfl (by decide) (by decide) hl.1 (Nat.le_of_ble_eq_true rfl) dd_Md_word_36 (fun H lo P => ?_)
        refine pj_if_eq C h dd_Md_word_39 (fun h => ?_) (fun h => ?_)
        · refine pj_aload_n C dd_Md_word_45 rfl hl 0 rfl ?_
          refine pj_ldcS (tx := "run") (i := 0) C (by decide +kernel) dd_Md_word_46 ?_
          obtain ⟨r15, z14, e13, h⟩ := pj_cE h
          refine pj_cVi (st := []) [.ref (B.2.2.2.2.2.1 0)] C P 0 (LM0 hB) rfl (ct_Md_is hB e13) cl_Md_101 rfl (by decide) (by decide) hl.1 (Nat.le_of_ble_eq_true rfl) dd_Md_word_48 (fun H lo P => ?_)
          refine pj_if_eq C h dd_Md_word_51 (fun h => ?_) (fun h => ?_)
          · refine pj_aload_n C dd_Md_word_59 rfl hl 0 rfl ?_
            obtain ⟨r18, z17, e16, h⟩ := pj_cE h
            refine pj_cVi (st := []) [] C P 0 (LM0 hB) rfl (ct_Md_nameWord hB e16) cl_Md_127 rfl (by decide) (by decide) hl.1 (Nat.le_of_ble_eq_true rfl) dd_Md_word_60 (fun H lo P => ?_)
            exact pj_iret C Q P h dd_Md_word_63
          · refine pj_bipush (v := (nI 20)) C dd_Md_word_54 rfl ?_
            refine pj_goto C dd_Md_word_56 ?_
            exact pj_iret C Q P h dd_Md_word_63
        · refine pj_bipush (v := (nI 6)) C dd_Md_word_42 rfl ?_
          exact pj_iret C Q P h dd_Md_word_44
      · refine pj_iconst (v := (nI 5)) C dd_Md_word_31 rfl ?_
        exact pj_iret C Q P h dd_Md_word_32
    · refine pj_iconst (v := (nI 4)) C dd_Md_word_20 rfl ?_
      exact pj_iret C Q P h dd_Md_word_21
  · refine pj_iconst (v := (nI 3)) C dd_Md_word_9 rfl ?_
    exact pj_iret C Q P h dd_Md_word_10
theorem dd_Md_isLetter_0 : pj_d cX11_isLetter 0 (.iload_n 0) 1 1 := ⟨by decide +kernel, rfl⟩
theorem dd_Md_isLetter_1 : pj_d cX11_isLetter 1 (.bipush 97) 2 3 := ⟨by decide +kernel, rfl⟩
theorem dd_Md_isLetter_3 : pj_d cX11_isLetter 3 (.bipush 122) 2 5 := ⟨by decide +kernel, rfl⟩
theorem dd_Md_isLetter_5 : pj_d cX11_isLetter 5 (.invokestatic 70) 3 8 := ⟨by decide +kernel, rfl⟩
theorem dd_Md_isLetter_8 : pj_dj cX11_isLetter 8 (.ifCond .ne 14) 14 11 22 := ⟨by decide +kernel, rfl, by decide⟩
theorem dd_Md_isLetter_11 : pj_d cX11_isLetter 11 (.iload_n 0) 1 12 := ⟨by decide +kernel, rfl⟩
theorem dd_Md_isLetter_12 : pj_d cX11_isLetter 12 (.bipush 65) 2 14 := ⟨by decide +kernel, rfl⟩
theorem dd_Md_isLetter_14 : pj_d cX11_isLetter 14 (.bipush 90) 2 16 := ⟨by decide +kernel, rfl⟩
theorem dd_Md_isLetter_16 : pj_d cX11_isLetter 16 (.invokestatic 70) 3 19 := ⟨by decide +kernel, rfl⟩
theorem dd_Md_isLetter_19 : pj_dj cX11_isLetter 19 (.ifCond .eq 7) 7 22 26 := ⟨by decide +kernel, rfl, by decide⟩
theorem dd_Md_isLetter_22 : pj_d cX11_isLetter 22 (.iconst 1) 1 23 := ⟨by decide +kernel, rfl⟩
theorem dd_Md_isLetter_23 : pj_dj cX11_isLetter 23 (.goto 4) 4 26 27 := ⟨by decide +kernel, rfl, by decide⟩
theorem dd_Md_isLetter_26 : pj_d cX11_isLetter 26 (.iconst 0) 1 27 := ⟨by decide +kernel, rfl⟩
theorem dd_Md_isLetter_27 : pj_d cX11_isLetter 27 (.ireturn) 1 28 := ⟨by decide +kernel, rfl⟩
set_option maxHeartbeats 4000000 in
set_option maxRecDepth 100000 in
theorem bt_Md_isLetterM_22 {B : pj_B} {A : Nat → Prop} {K : pj_K} {r0 : Int32} {z0 : pj_S} (hB : B.2.2.2.1 = pj_LM) (C : pj_C B A K cX11_isLetter 1 RX11 2) (Q : pj_Qi B A K (some .boolean) r0 z0)   (z : pj_S) (H : Heap) (lo : List Loc) (ls : Array Slot) (h : Md_isLetterM_22 z = some (r0, z0)) (P : pj_P B A K z H lo) (hl : lv_has ls 1 []) : pj_W K H lo 22 ls [] := by
  unfold Md_isLetterM_22 at h
  refine pj_iconst (v := (nI 1)) C dd_Md_isLetter_22 rfl ?_
  refine pj_goto C dd_Md_isLetter_23 ?_
  exact pj_zret C Q P h dd_Md_isLetter_27
set_option maxHeartbeats 4000000 in
set_option maxRecDepth 100000 in
theorem ct_Md_isLetterM {l : Launch} {B : pj_B} (hB : B.2.2.2.1 = pj_LM) {v0 : Int32} {z : pj_S} {r0 : Int32} {z0 : pj_S} (h : Md_isLetterM v0 z = some (r0, z0)) : pj_Mi l yX11_isLetter cX11_isLetter 1 (some .boolean) 2 [.int v0] B z r0 z0 := by
  refine pj_meti (own := RX11) (by decide +kernel) rfl (Nat.le_of_ble_eq_true rfl) ?_
  intro A K hK C Q H lo ls P hl
  have hl : lv_has ls 1 [(0, .int v0)] := hl
  unfold Md_isLetterM at h
  refine pj_iload_n C dd_Md_isLetter_0 rfl hl 0 rfl ?_
  refine pj_bipush (v := (nI 97)) C dd_Md_isLetter_1 rfl ?_
  refine pj_bipush (v := (nI 122)) C dd_Md_isLetter_3 rfl ?_
  obtain ⟨r3, z2, e1, h⟩ := pj_cE h
  refine pj_cSi (st := []) [.int v0, .int (nI 97), .int (nI 122)] C P (ct_Md_isInM hB e1) cl_Md_70 rfl (by decide) (by decide) hl.1 (Nat.le_of_ble_eq_true rfl) dd_Md_isLetter_5 (fun H lo P => ?_)
  refine pj_if_ne C h dd_Md_isLetter_8 (fun h => ?_) (fun h => ?_)
  · exact bt_Md_isLetterM_22 hB C Q _ _ _ _ h P (lv_sub hl [] rfl)
  · refine pj_iload_n C dd_Md_isLetter_11 rfl hl 0 rfl ?_
    refine pj_bipush (v := (nI 65)) C dd_Md_isLetter_12 rfl ?_
    refine pj_bipush (v := (nI 90)) C dd_Md_isLetter_14 rfl ?_
    obtain ⟨r6, z5, e4, h⟩ := pj_cE h
    refine pj_cSi (st := []) [.int v0, .int (nI 65), .int (nI 90)] C P (ct_Md_isInM hB e4) cl_Md_70 rfl (by decide) (by decide) hl.1 (Nat.le_of_ble_eq_true rfl) dd_Md_isLetter_16 (fun H lo P => ?_)
    refine pj_if_eq C h dd_Md_isLetter_19 (fun h => ?_) (fun h => ?_)
    · refine pj_iconst (v := (nI 0)) C dd_Md_isLetter_26 rfl ?_
      exact pj_zret C Q P h dd_Md_isLetter_27
    · exact bt_Md_isLetterM_22 hB C Q _ _ _ _ h P (lv_sub hl [] rfl)
theorem dd_Md_next0_0 : pj_d cX11_next0 0 (.aload_n 0) 1 1 := ⟨by decide +kernel, rfl⟩
theorem dd_Md_next0_1 : pj_d cX11_next0 1 (.aload_n 0) 1 2 := ⟨by decide +kernel, rfl⟩
theorem dd_Md_next0_2 : pj_d cX11_next0 2 (.getfield 83) 3 5 := ⟨by decide +kernel, rfl⟩
theorem dd_Md_next0_5 : pj_d cX11_next0 5 (.invokevirtual 130) 3 8 := ⟨by decide +kernel, rfl⟩
theorem dd_Md_next0_8 : pj_d cX11_next0 8 (.bipush 32) 2 10 := ⟨by decide +kernel, rfl⟩
theorem dd_Md_next0_10 : pj_dj cX11_next0 10 (.if_icmp .eq 16) 16 13 26 := ⟨by decide +kernel, rfl, by decide⟩
theorem dd_Md_next0_13 : pj_d cX11_next0 13 (.aload_n 0) 1 14 := ⟨by decide +kernel, rfl⟩
theorem dd_Md_next0_14 : pj_d cX11_next0 14 (.aload_n 0) 1 15 := ⟨by decide +kernel, rfl⟩
theorem dd_Md_next0_15 : pj_d cX11_next0 15 (.getfield 83) 3 18 := ⟨by decide +kernel, rfl⟩
theorem dd_Md_next0_18 : pj_d cX11_next0 18 (.invokevirtual 130) 3 21 := ⟨by decide +kernel, rfl⟩
theorem dd_Md_next0_21 : pj_d cX11_next0 21 (.bipush 10) 2 23 := ⟨by decide +kernel, rfl⟩
theorem dd_Md_next0_23 : pj_dj cX11_next0 23 (.if_icmp .ne 16) 16 26 39 := ⟨by decide +kernel, rfl, by decide⟩
theorem dd_Md_next0_26 : pj_d cX11_next0 26 (.aload_n 0) 1 27 := ⟨by decide +kernel, rfl⟩
theorem dd_Md_next0_27 : pj_d cX11_next0 27 (.dup) 1 28 := ⟨by decide +kernel, rfl⟩
theorem dd_Md_next0_28 : pj_d cX11_next0 28 (.getfield 83) 3 31 := ⟨by decide +kernel, rfl⟩
theorem dd_Md_next0_31 : pj_d cX11_next0 31 (.iconst 1) 1 32 := ⟨by decide +kernel, rfl⟩
theorem dd_Md_next0_32 : pj_d cX11_next0 32 (.iadd) 1 33 := ⟨by decide +kernel, rfl⟩
theorem dd_Md_next0_33 : pj_d cX11_next0 33 (.putfield 83) 3 36 := ⟨by decide +kernel, rfl⟩
theorem dd_Md_next0_36 : pj_dj cX11_next0 36 (.goto (-36)) (-36) 39 0 := ⟨by decide +kernel, rfl, by decide⟩
theorem dd_Md_next0_39 : pj_d cX11_next0 39 (.aload_n 0) 1 40 := ⟨by decide +kernel, rfl⟩
theorem dd_Md_next0_40 : pj_d cX11_next0 40 (.aload_n 0) 1 41 := ⟨by decide +kernel, rfl⟩
theorem dd_Md_next0_41 : pj_d cX11_next0 41 (.getfield 83) 3 44 := ⟨by decide +kernel, rfl⟩
theorem dd_Md_next0_44 : pj_d cX11_next0 44 (.putfield 86) 3 47 := ⟨by decide +kernel, rfl⟩
theorem dd_Md_next0_47 : pj_d cX11_next0 47 (.aload_n 0) 1 48 := ⟨by decide +kernel, rfl⟩
theorem dd_Md_next0_48 : pj_d cX11_next0 48 (.aload_n 0) 1 49 := ⟨by decide +kernel, rfl⟩
theorem dd_Md_next0_49 : pj_d cX11_next0 49 (.getfield 83) 3 52 := ⟨by decide +kernel, rfl⟩
theorem dd_Md_next0_52 : pj_d cX11_next0 52 (.invokevirtual 130) 3 55 := ⟨by decide +kernel, rfl⟩
theorem dd_Md_next0_55 : pj_d cX11_next0 55 (.istore_n 1) 1 56 := ⟨by decide +kernel, rfl⟩
theorem dd_Md_next0_56 : pj_d cX11_next0 56 (.iload_n 1) 1 57 := ⟨by decide +kernel, rfl⟩
theorem dd_Md_next0_57 : pj_d cX11_next0 57 (.iconst (-1)) 1 58 := ⟨by decide +kernel, rfl⟩
theorem dd_Md_next0_58 : pj_dj cX11_next0 58 (.if_icmp .ne 11) 11 61 69 := ⟨by decide +kernel, rfl, by decide⟩
theorem dd_Md_next0_61 : pj_d cX11_next0 61 (.aload_n 0) 1 62 := ⟨by decide +kernel, rfl⟩
theorem dd_Md_next0_62 : pj_d cX11_next0 62 (.iconst 0) 1 63 := ⟨by decide +kernel, rfl⟩
theorem dd_Md_next0_63 : pj_d cX11_next0 63 (.putfield 134) 3 66 := ⟨by decide +kernel, rfl⟩
theorem dd_Md_next0_66 : pj_dj cX11_next0 66 (.goto 240) 240 69 306 := ⟨by decide +kernel, rfl, by decide⟩
theorem dd_Md_next0_69 : pj_d cX11_next0 69 (.iload_n 1) 1 70 := ⟨by decide +kernel, rfl⟩
theorem dd_Md_next0_70 : pj_d cX11_next0 70 (.invokestatic 137) 3 73 := ⟨by decide +kernel, rfl⟩
theorem dd_Md_next0_73 : pj_dj cX11_next0 73 (.ifCond .eq 41) 41 76 114 := ⟨by decide +kernel, rfl, by decide⟩
theorem dd_Md_next0_76 : pj_d cX11_next0 76 (.aload_n 0) 1 77 := ⟨by decide +kernel, rfl⟩
theorem dd_Md_next0_77 : pj_d cX11_next0 77 (.aload_n 0) 1 78 := ⟨by decide +kernel, rfl⟩
theorem dd_Md_next0_78 : pj_d cX11_next0 78 (.getfield 83) 3 81 := ⟨by decide +kernel, rfl⟩
theorem dd_Md_next0_81 : pj_d cX11_next0 81 (.invokevirtual 130) 3 84 := ⟨by decide +kernel, rfl⟩
theorem dd_Md_next0_84 : pj_d cX11_next0 84 (.invokestatic 137) 3 87 := ⟨by decide +kernel, rfl⟩
theorem dd_Md_next0_87 : pj_dj cX11_next0 87 (.ifCond .eq 16) 16 90 103 := ⟨by decide +kernel, rfl, by decide⟩
theorem dd_Md_next0_90 : pj_d cX11_next0 90 (.aload_n 0) 1 91 := ⟨by decide +kernel, rfl⟩
theorem dd_Md_next0_91 : pj_d cX11_next0 91 (.dup) 1 92 := ⟨by decide +kernel, rfl⟩
theorem dd_Md_next0_92 : pj_d cX11_next0 92 (.getfield 83) 3 95 := ⟨by decide +kernel, rfl⟩
theorem dd_Md_next0_95 : pj_d cX11_next0 95 (.iconst 1) 1 96 := ⟨by decide +kernel, rfl⟩
theorem dd_Md_next0_96 : pj_d cX11_next0 96 (.iadd) 1 97 := ⟨by decide +kernel, rfl⟩
theorem dd_Md_next0_97 : pj_d cX11_next0 97 (.putfield 83) 3 100 := ⟨by decide +kernel, rfl⟩
theorem dd_Md_next0_100 : pj_dj cX11_next0 100 (.goto (-24)) (-24) 103 76 := ⟨by decide +kernel, rfl, by decide⟩
theorem dd_Md_next0_103 : pj_d cX11_next0 103 (.aload_n 0) 1 104 := ⟨by decide +kernel, rfl⟩
theorem dd_Md_next0_104 : pj_d cX11_next0 104 (.aload_n 0) 1 105 := ⟨by decide +kernel, rfl⟩
theorem dd_Md_next0_105 : pj_d cX11_next0 105 (.invokevirtual 140) 3 108 := ⟨by decide +kernel, rfl⟩
theorem dd_Md_next0_108 : pj_d cX11_next0 108 (.putfield 134) 3 111 := ⟨by decide +kernel, rfl⟩
theorem dd_Md_next0_111 : pj_dj cX11_next0 111 (.goto 195) 195 114 306 := ⟨by decide +kernel, rfl, by decide⟩
theorem dd_Md_next0_114 : pj_d cX11_next0 114 (.iload_n 1) 1 115 := ⟨by decide +kernel, rfl⟩
theorem dd_Md_next0_115 : pj_d cX11_next0 115 (.invokestatic 143) 3 118 := ⟨by decide +kernel, rfl⟩
theorem dd_Md_next0_118 : pj_dj cX11_next0 118 (.ifCond .eq 96) 96 121 214 := ⟨by decide +kernel, rfl, by decide⟩
theorem dd_Md_next0_121 : pj_d cX11_next0 121 (.aload_n 0) 1 122 := ⟨by decide +kernel, rfl⟩
theorem dd_Md_next0_122 : pj_d cX11_next0 122 (.iconst 0) 1 123 := ⟨by decide +kernel, rfl⟩
theorem dd_Md_next0_123 : pj_d cX11_next0 123 (.putfield 146) 3 126 := ⟨by decide +kernel, rfl⟩
theorem dd_Md_next0_126 : pj_d cX11_next0 126 (.aload_n 0) 1 127 := ⟨by decide +kernel, rfl⟩
theorem dd_Md_next0_127 : pj_d cX11_next0 127 (.aload_n 0) 1 128 := ⟨by decide +kernel, rfl⟩
theorem dd_Md_next0_128 : pj_d cX11_next0 128 (.getfield 83) 3 131 := ⟨by decide +kernel, rfl⟩
theorem dd_Md_next0_131 : pj_d cX11_next0 131 (.invokevirtual 130) 3 134 := ⟨by decide +kernel, rfl⟩
theorem dd_Md_next0_134 : pj_d cX11_next0 134 (.invokestatic 143) 3 137 := ⟨by decide +kernel, rfl⟩
theorem dd_Md_next0_137 : pj_dj cX11_next0 137 (.ifCond .eq 52) 52 140 189 := ⟨by decide +kernel, rfl, by decide⟩
theorem dd_Md_next0_140 : pj_d cX11_next0 140 (.aload_n 0) 1 141 := ⟨by decide +kernel, rfl⟩
theorem dd_Md_next0_141 : pj_d cX11_next0 141 (.getfield 83) 3 144 := ⟨by decide +kernel, rfl⟩
theorem dd_Md_next0_144 : pj_d cX11_next0 144 (.aload_n 0) 1 145 := ⟨by decide +kernel, rfl⟩
theorem dd_Md_next0_145 : pj_d cX11_next0 145 (.getfield 86) 3 148 := ⟨by decide +kernel, rfl⟩
theorem dd_Md_next0_148 : pj_d cX11_next0 148 (.iconst 4) 1 149 := ⟨by decide +kernel, rfl⟩
theorem dd_Md_next0_149 : pj_d cX11_next0 149 (.iadd) 1 150 := ⟨by decide +kernel, rfl⟩
theorem dd_Md_next0_150 : pj_dj cX11_next0 150 (.if_icmp .ge 26) 26 153 176 := ⟨by decide +kernel, rfl, by decide⟩
theorem dd_Md_next0_153 : pj_d cX11_next0 153 (.aload_n 0) 1 154 := ⟨by decide +kernel, rfl⟩
theorem dd_Md_next0_154 : pj_d cX11_next0 154 (.bipush 10) 2 156 := ⟨by decide +kernel, rfl⟩
theorem dd_Md_next0_156 : pj_d cX11_next0 156 (.aload_n 0) 1 157 := ⟨by decide +kernel, rfl⟩
theorem dd_Md_next0_157 : pj_d cX11_next0 157 (.getfield 146) 3 160 := ⟨by decide +kernel, rfl⟩
theorem dd_Md_next0_160 : pj_d cX11_next0 160 (.imul) 1 161 := ⟨by decide +kernel, rfl⟩
theorem dd_Md_next0_161 : pj_d cX11_next0 161 (.aload_n 0) 1 162 := ⟨by decide +kernel, rfl⟩
theorem dd_Md_next0_162 : pj_d cX11_next0 162 (.aload_n 0) 1 163 := ⟨by decide +kernel, rfl⟩
theorem dd_Md_next0_163 : pj_d cX11_next0 163 (.getfield 83) 3 166 := ⟨by decide +kernel, rfl⟩
theorem dd_Md_next0_166 : pj_d cX11_next0 166 (.invokevirtual 130) 3 169 := ⟨by decide +kernel, rfl⟩
theorem dd_Md_next0_169 : pj_d cX11_next0 169 (.iadd) 1 170 := ⟨by decide +kernel, rfl⟩
theorem dd_Md_next0_170 : pj_d cX11_next0 170 (.bipush 48) 2 172 := ⟨by decide +kernel, rfl⟩
theorem dd_Md_next0_172 : pj_d cX11_next0 172 (.isub) 1 173 := ⟨by decide +kernel, rfl⟩
theorem dd_Md_next0_173 : pj_d cX11_next0 173 (.putfield 146) 3 176 := ⟨by decide +kernel, rfl⟩
theorem dd_Md_next0_176 : pj_d cX11_next0 176 (.aload_n 0) 1 177 := ⟨by decide +kernel, rfl⟩
theorem dd_Md_next0_177 : pj_d cX11_next0 177 (.dup) 1 178 := ⟨by decide +kernel, rfl⟩
theorem dd_Md_next0_178 : pj_d cX11_next0 178 (.getfield 83) 3 181 := ⟨by decide +kernel, rfl⟩
theorem dd_Md_next0_181 : pj_d cX11_next0 181 (.iconst 1) 1 182 := ⟨by decide +kernel, rfl⟩
theorem dd_Md_next0_182 : pj_d cX11_next0 182 (.iadd) 1 183 := ⟨by decide +kernel, rfl⟩
theorem dd_Md_next0_183 : pj_d cX11_next0 183 (.putfield 83) 3 186 := ⟨by decide +kernel, rfl⟩
theorem dd_Md_next0_186 : pj_dj cX11_next0 186 (.goto (-60)) (-60) 189 126 := ⟨by decide +kernel, rfl, by decide⟩
theorem dd_Md_next0_189 : pj_d cX11_next0 189 (.aload_n 0) 1 190 := ⟨by decide +kernel, rfl⟩
theorem dd_Md_next0_190 : pj_d cX11_next0 190 (.aload_n 0) 1 191 := ⟨by decide +kernel, rfl⟩
theorem dd_Md_next0_191 : pj_d cX11_next0 191 (.getfield 83) 3 194 := ⟨by decide +kernel, rfl⟩
theorem dd_Md_next0_194 : pj_d cX11_next0 194 (.aload_n 0) 1 195 := ⟨by decide +kernel, rfl⟩
theorem dd_Md_next0_195 : pj_d cX11_next0 195 (.getfield 86) 3 198 := ⟨by decide +kernel, rfl⟩
theorem dd_Md_next0_198 : pj_d cX11_next0 198 (.isub) 1 199 := ⟨by decide +kernel, rfl⟩
theorem dd_Md_next0_199 : pj_d cX11_next0 199 (.iconst 5) 1 200 := ⟨by decide +kernel, rfl⟩
theorem dd_Md_next0_200 : pj_dj cX11_next0 200 (.if_icmp .ge 7) 7 203 207 := ⟨by decide +kernel, rfl, by decide⟩
theorem dd_Md_next0_203 : pj_d cX11_next0 203 (.iconst 2) 1 204 := ⟨by decide +kernel, rfl⟩
theorem dd_Md_next0_204 : pj_dj cX11_next0 204 (.goto 4) 4 207 208 := ⟨by decide +kernel, rfl, by decide⟩
theorem dd_Md_next0_207 : pj_d cX11_next0 207 (.iconst 1) 1 208 := ⟨by decide +kernel, rfl⟩
theorem dd_Md_next0_208 : pj_d cX11_next0 208 (.putfield 134) 3 211 := ⟨by decide +kernel, rfl⟩
theorem dd_Md_next0_211 : pj_dj cX11_next0 211 (.goto 95) 95 214 306 := ⟨by decide +kernel, rfl, by decide⟩
theorem dd_Md_next0_214 : pj_d cX11_next0 214 (.aload_n 0) 1 215 := ⟨by decide +kernel, rfl⟩
theorem dd_Md_next0_215 : pj_d cX11_next0 215 (.dup) 1 216 := ⟨by decide +kernel, rfl⟩
theorem dd_Md_next0_216 : pj_d cX11_next0 216 (.getfield 83) 3 219 := ⟨by decide +kernel, rfl⟩
theorem dd_Md_next0_219 : pj_d cX11_next0 219 (.iconst 1) 1 220 := ⟨by decide +kernel, rfl⟩
theorem dd_Md_next0_220 : pj_d cX11_next0 220 (.iadd) 1 221 := ⟨by decide +kernel, rfl⟩
theorem dd_Md_next0_221 : pj_d cX11_next0 221 (.putfield 83) 3 224 := ⟨by decide +kernel, rfl⟩
theorem dd_Md_next0_224 : pj_d cX11_next0 224 (.iload_n 1) 1 225 := ⟨by decide +kernel, rfl⟩
theorem dd_Md_next0_225 : pj_d cX11_next0 225 (.bipush 59) 2 227 := ⟨by decide +kernel, rfl⟩
theorem dd_Md_next0_227 : pj_dj cX11_next0 227 (.if_icmp .eq 57) 57 230 284 := ⟨by decide +kernel, rfl, by decide⟩
theorem dd_Md_next0_230 : pj_d cX11_next0 230 (.iload_n 1) 1 231 := ⟨by decide +kernel, rfl⟩
theorem dd_Md_next0_231 : pj_d cX11_next0 231 (.bipush 43) 2 233 := ⟨by decide +kernel, rfl⟩
theorem dd_Md_next0_233 : pj_dj cX11_next0 233 (.if_icmp .eq 51) 51 236 284 := ⟨by decide +kernel, rfl, by decide⟩
theorem dd_Md_next0_236 : pj_d cX11_next0 236 (.iload_n 1) 1 237 := ⟨by decide +kernel, rfl⟩
theorem dd_Md_next0_237 : pj_d cX11_next0 237 (.bipush 45) 2 239 := ⟨by decide +kernel, rfl⟩
theorem dd_Md_next0_239 : pj_dj cX11_next0 239 (.if_icmp .eq 45) 45 242 284 := ⟨by decide +kernel, rfl, by decide⟩
theorem dd_Md_next0_242 : pj_d cX11_next0 242 (.iload_n 1) 1 243 := ⟨by decide +kernel, rfl⟩
theorem dd_Md_next0_243 : pj_d cX11_next0 243 (.bipush 42) 2 245 := ⟨by decide +kernel, rfl⟩
theorem dd_Md_next0_245 : pj_dj cX11_next0 245 (.if_icmp .eq 39) 39 248 284 := ⟨by decide +kernel, rfl, by decide⟩
theorem dd_Md_next0_248 : pj_d cX11_next0 248 (.iload_n 1) 1 249 := ⟨by decide +kernel, rfl⟩
theorem dd_Md_next0_249 : pj_d cX11_next0 249 (.bipush 47) 2 251 := ⟨by decide +kernel, rfl⟩
theorem dd_Md_next0_251 : pj_dj cX11_next0 251 (.if_icmp .eq 33) 33 254 284 := ⟨by decide +kernel, rfl, by decide⟩
theorem dd_Md_next0_254 : pj_d cX11_next0 254 (.iload_n 1) 1 255 := ⟨by decide +kernel, rfl⟩
theorem dd_Md_next0_255 : pj_d cX11_next0 255 (.bipush 40) 2 257 := ⟨by decide +kernel, rfl⟩
theorem dd_Md_next0_257 : pj_dj cX11_next0 257 (.if_icmp .eq 27) 27 260 284 := ⟨by decide +kernel, rfl, by decide⟩
theorem dd_Md_next0_260 : pj_d cX11_next0 260 (.iload_n 1) 1 261 := ⟨by decide +kernel, rfl⟩
theorem dd_Md_next0_261 : pj_d cX11_next0 261 (.bipush 41) 2 263 := ⟨by decide +kernel, rfl⟩
theorem dd_Md_next0_263 : pj_dj cX11_next0 263 (.if_icmp .eq 21) 21 266 284 := ⟨by decide +kernel, rfl, by decide⟩
theorem dd_Md_next0_266 : pj_d cX11_next0 266 (.iload_n 1) 1 267 := ⟨by decide +kernel, rfl⟩
theorem dd_Md_next0_267 : pj_d cX11_next0 267 (.bipush 60) 2 269 := ⟨by decide +kernel, rfl⟩
theorem dd_Md_next0_269 : pj_dj cX11_next0 269 (.if_icmp .eq 15) 15 272 284 := ⟨by decide +kernel, rfl, by decide⟩
theorem dd_Md_next0_272 : pj_d cX11_next0 272 (.iload_n 1) 1 273 := ⟨by decide +kernel, rfl⟩
theorem dd_Md_next0_273 : pj_d cX11_next0 273 (.bipush 61) 2 275 := ⟨by decide +kernel, rfl⟩
theorem dd_Md_next0_275 : pj_dj cX11_next0 275 (.if_icmp .eq 9) 9 278 284 := ⟨by decide +kernel, rfl, by decide⟩
theorem dd_Md_next0_278 : pj_d cX11_next0 278 (.iload_n 1) 1 279 := ⟨by decide +kernel, rfl⟩
theorem dd_Md_next0_279 : pj_d cX11_next0 279 (.bipush 62) 2 281 := ⟨by decide +kernel, rfl⟩
theorem dd_Md_next0_281 : pj_dj cX11_next0 281 (.if_icmp .ne 7) 7 284 288 := ⟨by decide +kernel, rfl, by decide⟩
theorem dd_Md_next0_284 : pj_d cX11_next0 284 (.iconst 1) 1 285 := ⟨by decide +kernel, rfl⟩
theorem dd_Md_next0_285 : pj_dj cX11_next0 285 (.goto 4) 4 288 289 := ⟨by decide +kernel, rfl, by decide⟩
theorem dd_Md_next0_288 : pj_d cX11_next0 288 (.iconst 0) 1 289 := ⟨by decide +kernel, rfl⟩
theorem dd_Md_next0_289 : pj_d cX11_next0 289 (.istore_n 2) 1 290 := ⟨by decide +kernel, rfl⟩
theorem dd_Md_next0_290 : pj_d cX11_next0 290 (.aload_n 0) 1 291 := ⟨by decide +kernel, rfl⟩
theorem dd_Md_next0_291 : pj_d cX11_next0 291 (.iload_n 2) 1 292 := ⟨by decide +kernel, rfl⟩
theorem dd_Md_next0_292 : pj_dj cX11_next0 292 (.ifCond .eq 10) 10 295 302 := ⟨by decide +kernel, rfl, by decide⟩
theorem dd_Md_next0_295 : pj_d cX11_next0 295 (.bipush 100) 2 297 := ⟨by decide +kernel, rfl⟩
theorem dd_Md_next0_297 : pj_d cX11_next0 297 (.iload_n 1) 1 298 := ⟨by decide +kernel, rfl⟩
theorem dd_Md_next0_298 : pj_d cX11_next0 298 (.iadd) 1 299 := ⟨by decide +kernel, rfl⟩
theorem dd_Md_next0_299 : pj_dj cX11_next0 299 (.goto 4) 4 302 303 := ⟨by decide +kernel, rfl, by decide⟩
theorem dd_Md_next0_302 : pj_d cX11_next0 302 (.iconst 1) 1 303 := ⟨by decide +kernel, rfl⟩
theorem dd_Md_next0_303 : pj_d cX11_next0 303 (.putfield 134) 3 306 := ⟨by decide +kernel, rfl⟩
theorem dd_Md_next0_306 : pj_d cX11_next0 306 (.return_) 1 307 := ⟨by decide +kernel, rfl⟩
set_option maxHeartbeats 4000000 in
set_option maxRecDepth 100000 in
theorem bt_Md_next0_303 {B : pj_B} {A : Nat → Prop} {K : pj_K} {r0 : Unit} {z0 : pj_S} (hB : B.2.2.2.1 = pj_LM) (C : pj_C B A K cX11_next0 3 RX11 10) (Q : pj_Qv B A K none r0 z0)  (t0 : Int32) (z : pj_S) (H : Heap) (lo : List Loc) (ls : Array Slot) (h : Md_next0_303 t0 z = some (r0, z0)) (P : pj_P B A K z H lo) (hl : lv_has ls 3 []) : pj_W K H lo 303 ls [.int t0, .ref (B.2.1 0)] := by
  unfold Md_next0_303 at h
  refine pj_putI C P 0 (LM0 hB) rfl fl_Md_134 rfl fy_11_14 h dd_Md_next0_303 (fun H lo z1 h P => ?_)
  exact pj_vret C Q P h dd_Md_next0_306
set_option maxHeartbeats 4000000 in
set_option maxRecDepth 100000 in
theorem bt_Md_next0_289 {B : pj_B} {A : Nat → Prop} {K : pj_K} {r0 : Unit} {z0 : pj_S} (hB : B.2.2.2.1 = pj_LM) (C : pj_C B A K cX11_next0 3 RX11 10) (Q : pj_Qv B A K none r0 z0)  (v1 : Int32) (t0 : Int32) (z : pj_S) (H : Heap) (lo : List Loc) (ls : Array Slot) (h : Md_next0_289 v1 t0 z = some (r0, z0)) (P : pj_P B A K z H lo) (hl : lv_has ls 3 [(0, .ref (B.2.1 0)), (1, .int v1)]) : pj_W K H lo 289 ls [.int t0] := by
  unfold Md_next0_289 at h
  refine pj_istore_n [(2, .int t0), (0, .ref (B.2.1 0)), (1, .int v1)] C dd_Md_next0_289 rfl hl (by decide) rfl (fun ls hl => ?_)
  refine pj_aload_n C dd_Md_next0_290 rfl hl 1 rfl ?_
  refine pj_iload_n C dd_Md_next0_291 rfl hl 0 rfl ?_
  refine pj_if_eq C h dd_Md_next0_292 (fun h => ?_) (fun h => ?_)
  · refine pj_iconst (v := (nI 1)) C dd_Md_next0_302 rfl ?_
    exact bt_Md_next0_303 hB C Q _ _ _ _ _ h P (lv_sub hl [] rfl)
  · refine pj_bipush (v := (nI 100)) C dd_Md_next0_295 rfl ?_
    refine pj_iload_n C dd_Md_next0_297 rfl hl 2 rfl ?_
    refine pj_iadd C dd_Md_next0_298 ?_
    refine pj_goto C dd_Md_next0_299 ?_
    exact bt_Md_next0_303 hB C Q _ _ _ _ _ h P (lv_sub hl [] rfl)
set_option maxHeartbeats 4000000 in
set_option maxRecDepth 100000 in
theorem bt_Md_next0_103 {B : pj_B} {A : Nat → Prop} {K : pj_K} {r0 : Unit} {z0 : pj_S} (hB : B.2.2.2.1 = pj_LM) (C : pj_C B A K cX11_next0 3 RX11 10) (Q : pj_Qv B A K none r0 z0)   (z : pj_S) (H : Heap) (lo : List Loc) (ls : Array Slot) (h : Md_next0_103 z = some (r0, z0)) (P : pj_P B A K z H lo) (hl : lv_has ls 3 [(0, .ref (B.2.1 0))]) : pj_W K H lo 103 ls [] := by
  unfold Md_next0_103 at h
  refine pj_aload_n C dd_Md_next0_103 rfl hl 0 rfl ?_
  refine pj_aload_n C dd_Md_next0_104 rfl hl 0 rfl ?_
  obtain ⟨r3, z2, e1, h⟩ := pj_cE h
  refine pj_cVi (st := [.ref (B.2.1 0)]) [] C P 0 (LM0 hB) rfl (ct_Md_word hB e1) cl_Md_140 rfl (by decide) (by decide) hl.1 (Nat.le_of_ble_eq_true rfl) dd_Md_next0_105 (fun H lo P => ?_)
  refine pj_putI C P 0 (LM0 hB) rfl fl_Md_134 rfl fy_11_14 h dd_Md_next0_108 (fun H lo z4 h P => ?_)
  refine pj_goto C dd_Md_next0_111 ?_
  exact pj_vret C Q P h dd_Md_next0_306
set_option maxHeartbeats 4000000 in
set_option maxRecDepth 100000 in
theorem bt_Md_next0_76 {B : pj_B} {A : Nat → Prop} {K : pj_K} {r0 : Unit} {z0 : pj_S} (hB : B.2.2.2.1 = pj_LM) (C : pj_C B A K cX11_next0 3 RX11 10) (Q : pj_Qv B A K none r0 z0) (s76 : pj_S → Option (Unit × pj_S)) (k76 : ∀  (z : pj_S) (H : Heap) (lo : List Loc) (ls : Array Slot), s76  z = some (r0, z0) → pj_P B A K z H lo → lv_has ls 3 [(0, .ref (B.2.1 0))] → pj_W K H lo 76 ls [])  (z : pj_S) (H : Heap) (lo : List Loc) (ls : Array Slot) (h : Md_next0_76 s76 z = some (r0, z0)) (P : pj_P B A K z H lo) (hl : lv_has ls 3 [(0, .ref (B.2.1 0))]) : pj_W K H lo 76 ls [] := by
  unfold Md_next0_76 at h
  refine pj_aload_n C dd_Md_next0_76 rfl hl 0 rfl ?_
  refine pj_aload_n C dd_Md_next0_77 rfl hl 0 rfl ?_
  refine pj_getI C P 0 (LM0 hB) rfl fl_Md_83 dd_Md_next0_78 ?_
  obtain ⟨r3, z2, e1, h⟩ := pj_cE h
  refine pj_cVi (st := []) [.int (z.1 0 13)] C P 0 (LM0 hB) rfl (ct_Md_see hB e1) cl_Md_130 rfl (by decide) (by decide) hl.1 (Nat.le_of_ble_eq_true rfl) dd_Md_next0_81 (fun H lo P => ?_)
  obtain ⟨r6, z5, e4, h⟩ := pj_cE h
  refine pj_cSi (st := []) [.int r3] C P (ct_Md_isLetterM hB e4) cl_Md_137 rfl (by decide) (by decide) hl.1 (Nat.le_of_ble_eq_true rfl) dd_Md_next0_84 (fun H lo P => ?_)
  refine pj_if_eq C h dd_Md_next0_87 (fun h => ?_) (fun h => ?_)
  · exact bt_Md_next0_103 hB C Q _ _ _ _ h P (lv_sub hl [0] rfl)
  · refine pj_aload_n C dd_Md_next0_90 rfl hl 0 rfl ?_
    refine pj_dup C dd_Md_next0_91 rfl ?_
    refine pj_getI C P 0 (LM0 hB) rfl fl_Md_83 dd_Md_next0_92 ?_
    refine pj_iconst (v := (nI 1)) C dd_Md_next0_95 rfl ?_
    refine pj_iadd C dd_Md_next0_96 ?_
    refine pj_putI C P 0 (LM0 hB) rfl fl_Md_83 rfl fy_11_13 h dd_Md_next0_97 (fun H lo z7 h P => ?_)
    refine pj_goto C dd_Md_next0_100 ?_
    exact k76 _ _ _ _ h P (lv_sub hl [0] rfl)
theorem lt_Md_next0_76 {B : pj_B} {A : Nat → Prop} {K : pj_K} {r0 : Unit} {z0 : pj_S} (hB : B.2.2.2.1 = pj_LM) (C : pj_C B A K cX11_next0 3 RX11 10) (Q : pj_Qv B A K none r0 z0)  : ∀ (n : Nat)  (z : pj_S) (H : Heap) (lo : List Loc) (ls : Array Slot), pj_lp0 Md_next0_76 n  z = some (r0, z0) → pj_P B A K z H lo → lv_has ls 3 [(0, .ref (B.2.1 0))] → pj_W K H lo 76 ls [] := by
  intro n
  induction n with
  | zero => intro  z H lo ls h; rw [pj_lp0_0] at h; cases h
  | succ n ih =>
    intro  z H lo ls h P hl
    rw [pj_lp0_s] at h
    exact bt_Md_next0_76 hB C Q   (pj_lp0 Md_next0_76 n) ih  z H lo ls h P hl
set_option maxHeartbeats 4000000 in
set_option maxRecDepth 100000 in
theorem bt_Md_next0_284 {B : pj_B} {A : Nat → Prop} {K : pj_K} {r0 : Unit} {z0 : pj_S} (hB : B.2.2.2.1 = pj_LM) (C : pj_C B A K cX11_next0 3 RX11 10) (Q : pj_Qv B A K none r0 z0)  (v1 : Int32) (z : pj_S) (H : Heap) (lo : List Loc) (ls : Array Slot) (h : Md_next0_284 v1 z = some (r0, z0)) (P : pj_P B A K z H lo) (hl : lv_has ls 3 [(0, .ref (B.2.1 0)), (1, .int v1)]) : pj_W K H lo 284 ls [] := by
  unfold Md_next0_284 at h
  refine pj_iconst (v := (nI 1)) C dd_Md_next0_284 rfl ?_
  refine pj_goto C dd_Md_next0_285 ?_
  exact bt_Md_next0_289 hB C Q _ _ _ _ _ _ h P (lv_sub hl [0, 1] rfl)
set_option maxHeartbeats 4000000 in
set_option maxRecDepth 100000 in
theorem bt_Md_next0_176 {B : pj_B} {A : Nat → Prop} {K : pj_K} {r0 : Unit} {z0 : pj_S} (hB : B.2.2.2.1 = pj_LM) (C : pj_C B A K cX11_next0 3 RX11 10) (Q : pj_Qv B A K none r0 z0) (s126 : pj_S → Option (Unit × pj_S)) (k126 : ∀  (z : pj_S) (H : Heap) (lo : List Loc) (ls : Array Slot), s126  z = some (r0, z0) → pj_P B A K z H lo → lv_has ls 3 [(0, .ref (B.2.1 0))] → pj_W K H lo 126 ls [])  (z : pj_S) (H : Heap) (lo : List Loc) (ls : Array Slot) (h : Md_next0_176 s126 z = some (r0, z0)) (P : pj_P B A K z H lo) (hl : lv_has ls 3 [(0, .ref (B.2.1 0))]) : pj_W K H lo 176 ls [] := by
  unfold Md_next0_176 at h
  refine pj_aload_n C dd_Md_next0_176 rfl hl 0 rfl ?_
  refine pj_dup C dd_Md_next0_177 rfl ?_
  refine pj_getI C P 0 (LM0 hB) rfl fl_Md_83 dd_Md_next0_178 ?_
  refine pj_iconst (v := (nI 1)) C dd_Md_next0_181 rfl ?_
  refine pj_iadd C dd_Md_next0_182 ?_
  refine pj_putI C P 0 (LM0 hB) rfl fl_Md_83 rfl fy_11_13 h dd_Md_next0_183 (fun H lo z1 h P => ?_)
  refine pj_goto C dd_Md_next0_186 ?_
  exact k126 _ _ _ _ h P (lv_sub hl [0] rfl)
set_option maxHeartbeats 4000000 in
set_option maxRecDepth 100000 in
theorem bt_Md_next0_208 {B : pj_B} {A : Nat → Prop} {K : pj_K} {r0 : Unit} {z0 : pj_S} (hB : B.2.2.2.1 = pj_LM) (C : pj_C B A K cX11_next0 3 RX11 10) (Q : pj_Qv B A K none r0 z0)  (t0 : Int32) (z : pj_S) (H : Heap) (lo : List Loc) (ls : Array Slot) (h : Md_next0_208 t0 z = some (r0, z0)) (P : pj_P B A K z H lo) (hl : lv_has ls 3 []) : pj_W K H lo 208 ls [.int t0, .ref (B.2.1 0)] := by
  unfold Md_next0_208 at h
  refine pj_putI C P 0 (LM0 hB) rfl fl_Md_134 rfl fy_11_14 h dd_Md_next0_208 (fun H lo z1 h P => ?_)
  refine pj_goto C dd_Md_next0_211 ?_
  exact pj_vret C Q P h dd_Md_next0_306
set_option maxHeartbeats 4000000 in
set_option maxRecDepth 100000 in
theorem bt_Md_next0_189 {B : pj_B} {A : Nat → Prop} {K : pj_K} {r0 : Unit} {z0 : pj_S} (hB : B.2.2.2.1 = pj_LM) (C : pj_C B A K cX11_next0 3 RX11 10) (Q : pj_Qv B A K none r0 z0)   (z : pj_S) (H : Heap) (lo : List Loc) (ls : Array Slot) (h : Md_next0_189 z = some (r0, z0)) (P : pj_P B A K z H lo) (hl : lv_has ls 3 [(0, .ref (B.2.1 0))]) : pj_W K H lo 189 ls [] := by
  unfold Md_next0_189 at h
  refine pj_aload_n C dd_Md_next0_189 rfl hl 0 rfl ?_
  refine pj_aload_n C dd_Md_next0_190 rfl hl 0 rfl ?_
  refine pj_getI C P 0 (LM0 hB) rfl fl_Md_83 dd_Md_next0_191 ?_
  refine pj_aload_n C dd_Md_next0_194 rfl hl 0 rfl ?_
  refine pj_getI C P 0 (LM0 hB) rfl fl_Md_86 dd_Md_next0_195 ?_
  refine pj_isub C dd_Md_next0_198 ?_
  refine pj_iconst (v := (nI 5)) C dd_Md_next0_199 rfl ?_
  refine pj_ic_ge C h dd_Md_next0_200 (fun h => ?_) (fun h => ?_)
  · refine pj_iconst (v := (nI 1)) C dd_Md_next0_207 rfl ?_
    exact bt_Md_next0_208 hB C Q _ _ _ _ _ h P (lv_sub hl [] rfl)
  · refine pj_iconst (v := (nI 2)) C dd_Md_next0_203 rfl ?_
    refine pj_goto C dd_Md_next0_204 ?_
    exact bt_Md_next0_208 hB C Q _ _ _ _ _ h P (lv_sub hl [] rfl)
set_option maxHeartbeats 4000000 in
set_option maxRecDepth 100000 in
theorem bt_Md_next0_126 {B : pj_B} {A : Nat → Prop} {K : pj_K} {r0 : Unit} {z0 : pj_S} (hB : B.2.2.2.1 = pj_LM) (C : pj_C B A K cX11_next0 3 RX11 10) (Q : pj_Qv B A K none r0 z0) (s126 : pj_S → Option (Unit × pj_S)) (k126 : ∀  (z : pj_S) (H : Heap) (lo : List Loc) (ls : Array Slot), s126  z = some (r0, z0) → pj_P B A K z H lo → lv_has ls 3 [(0, .ref (B.2.1 0))] → pj_W K H lo 126 ls [])  (z : pj_S) (H : Heap) (lo : List Loc) (ls : Array Slot) (h : Md_next0_126 s126 z = some (r0, z0)) (P : pj_P B A K z H lo) (hl : lv_has ls 3 [(0, .ref (B.2.1 0))]) : pj_W K H lo 126 ls [] := by
  unfold Md_next0_126 at h
  refine pj_aload_n C dd_Md_next0_126 rfl hl 0 rfl ?_
  refine pj_aload_n C dd_Md_next0_127 rfl hl 0 rfl ?_
  refine pj_getI C P 0 (LM0 hB) rfl fl_Md_83 dd_Md_next0_128 ?_
  obtain ⟨r3, z2, e1, h⟩ := pj_cE h
  refine pj_cVi (st := []) [.int (z.1 0 13)] C P 0 (LM0 hB) rfl (ct_Md_see hB e1) cl_Md_130 rfl (by decide) (by decide) hl.1 (Nat.le_of_ble_eq_true rfl) dd_Md_next0_131 (fun H lo P => ?_)
  obtain ⟨r6, z5, e4, h⟩ := pj_cE h
  refine pj_cSi (st := []) [.int r3] C P (ct_Md_isDigitM hB e4) cl_Md_143 rfl (by decide) (by decide) hl.1 (Nat.le_of_ble_eq_true rfl) dd_Md_next0_134 (fun H lo P => ?_)
  refine pj_if_eq C h dd_Md_next0_137 (fun h => ?_) (fun h => ?_)
  · exact bt_Md_next0_189 hB C Q _ _ _ _ h P (lv_sub hl [0] rfl)
  · refine pj_aload_n C dd_Md_next0_140 rfl hl 0 rfl ?_
    refine pj_getI C P 0 (LM0 hB) rfl fl_Md_83 dd_Md_next0_141 ?_
    refine pj_aload_n C dd_Md_next0_144 rfl hl 0 rfl ?_
    refine pj_getI C P 0 (LM0 hB) rfl fl_Md_86 dd_Md_next0_145 ?_
    refine pj_iconst (v := (nI 4)) C dd_Md_next0_148 rfl ?_
    refine pj_iadd C dd_Md_next0_149 ?_
    refine pj_ic_ge C h dd_Md_next0_150 (fun h => ?_) (fun h => ?_)
    · exact bt_Md_next0_176 hB C Q s126 k126 _ _ _ _ h P (lv_sub hl [0] rfl)
    · refine pj_aload_n C dd_Md_next0_153 rfl hl 0 rfl ?_
      refine pj_bipush (v := (nI 10)) C dd_Md_next0_154 rfl ?_
      refine pj_aload_n C dd_Md_next0_156 rfl hl 0 rfl ?_
      refine pj_getI C P 0 (LM0 hB) rfl fl_Md_146 dd_Md_next0_157 ?_
      refine pj_imul C dd_Md_next0_160 ?_
      refine pj_aload_n C dd_Md_next0_161 rfl hl 0 rfl ?_
      refine pj_aload_n C dd_Md_next0_162 rfl hl 0 rfl ?_
      refine pj_getI C P 0 (LM0 hB) rfl fl_Md_83 dd_Md_next0_163 ?_
      obtain ⟨r9, z8, e7, h⟩ := pj_cE h
      refine pj_cVi (st := [.int ((nI 10) * (z5.1 0 16)), .ref (B.2.1 0)]) [.int (z5.1 0 13)] C P 0 (LM0 hB) rfl (ct_Md_see hB e7) cl_Md_130 rfl (by decide) (by decide) hl.1 (Nat.le_of_ble_eq_true rfl) dd_Md_next0_166 (fun H lo P => ?_)
      refine pj_iadd C dd_Md_next0_169 ?_
      refine pj_bipush (v := (nI 48)) C dd_Md_next0_170 rfl ?_
      refine pj_isub C dd_Md_next0_172 ?_
      refine pj_putI C P 0 (LM0 hB) rfl fl_Md_146 rfl fy_11_16 h dd_Md_next0_173 (fun H lo z10 h P => ?_)
      exact bt_Md_next0_176 hB C Q s126 k126 _ _ _ _ h P (lv_sub hl [0] rfl)
theorem lt_Md_next0_126 {B : pj_B} {A : Nat → Prop} {K : pj_K} {r0 : Unit} {z0 : pj_S} (hB : B.2.2.2.1 = pj_LM) (C : pj_C B A K cX11_next0 3 RX11 10) (Q : pj_Qv B A K none r0 z0)  : ∀ (n : Nat)  (z : pj_S) (H : Heap) (lo : List Loc) (ls : Array Slot), pj_lp0 Md_next0_126 n  z = some (r0, z0) → pj_P B A K z H lo → lv_has ls 3 [(0, .ref (B.2.1 0))] → pj_W K H lo 126 ls [] := by
  intro n
  induction n with
  | zero => intro  z H lo ls h; rw [pj_lp0_0] at h; cases h
  | succ n ih =>
    intro  z H lo ls h P hl
    rw [pj_lp0_s] at h
    exact bt_Md_next0_126 hB C Q   (pj_lp0 Md_next0_126 n) ih  z H lo ls h P hl
set_option maxHeartbeats 4000000 in
set_option maxRecDepth 100000 in
theorem bt_Md_next0_39 {B : pj_B} {A : Nat → Prop} {K : pj_K} {r0 : Unit} {z0 : pj_S} (hB : B.2.2.2.1 = pj_LM) (C : pj_C B A K cX11_next0 3 RX11 10) (Q : pj_Qv B A K none r0 z0)   (z : pj_S) (H : Heap) (lo : List Loc) (ls : Array Slot) (h : Md_next0_39 z = some (r0, z0)) (P : pj_P B A K z H lo) (hl : lv_has ls 3 [(0, .ref (B.2.1 0))]) : pj_W K H lo 39 ls [] := by
  unfold Md_next0_39 at h
  refine pj_aload_n C dd_Md_next0_39 rfl hl 0 rfl ?_
  refine pj_aload_n C dd_Md_next0_40 rfl hl 0 rfl ?_
  refine pj_getI C P 0 (LM0 hB) rfl fl_Md_83 dd_Md_next0_41 ?_
  refine pj_putI C P 0 (LM0 hB) rfl fl_Md_86 rfl fy_11_15 h dd_Md_next0_44 (fun H lo z1 h P => ?_)
  refine pj_aload_n C dd_Md_next0_47 rfl hl 0 rfl ?_
  refine pj_aload_n C dd_Md_next0_48 rfl hl 0 rfl ?_
  refine pj_getI C P 0 (LM0 hB) rfl fl_Md_83 dd_Md_next0_49 ?_
  obtain ⟨r4, z3, e2, h⟩ := pj_cE h
  refine pj_cVi (st := []) [.int (z1.1 0 13)] C P 0 (LM0 hB) rfl (ct_Md_see hB e2) cl_Md_130 rfl (by decide) (by decide) hl.1 (Nat.le_of_ble_eq_true rfl) dd_Md_next0_52 (fun H lo P => ?_)
  refine pj_istore_n [(1, .int r4), (0, .ref (B.2.1 0))] C dd_Md_next0_55 rfl hl (by decide) rfl (fun ls hl => ?_)
  refine pj_iload_n C dd_Md_next0_56 rfl hl 0 rfl ?_
  refine pj_iconst (v := (-1 : Int32)) C dd_Md_next0_57 rfl ?_
  refine pj_ic_ne C h dd_Md_next0_58 (fun h => ?_) (fun h => ?_)
  · refine pj_iload_n C dd_Md_next0_69 rfl hl 0 rfl ?_
    obtain ⟨r7, z6, e5, h⟩ := pj_cE h
    refine pj_cSi (st := []) [.int r4] C P (ct_Md_isLetterM hB e5) cl_Md_137 rfl (by decide) (by decide) hl.1 (Nat.le_of_ble_eq_true rfl) dd_Md_next0_70 (fun H lo P => ?_)
    refine pj_if_eq C h dd_Md_next0_73 (fun h => ?_) (fun h => ?_)
    · refine pj_iload_n C dd_Md_next0_114 rfl hl 0 rfl ?_
      obtain ⟨r10, z9, e8, h⟩ := pj_cE h
      refine pj_cSi (st := []) [.int r4] C P (ct_Md_isDigitM hB e8) cl_Md_143 rfl (by decide) (by decide) hl.1 (Nat.le_of_ble_eq_true rfl) dd_Md_next0_115 (fun H lo P => ?_)
      refine pj_if_eq C h dd_Md_next0_118 (fun h => ?_) (fun h => ?_)
      · refine pj_aload_n C dd_Md_next0_214 rfl hl 1 rfl ?_
        refine pj_dup C dd_Md_next0_215 rfl ?_
        refine pj_getI C P 0 (LM0 hB) rfl fl_Md_83 dd_Md_next0_216 ?_
        refine pj_iconst (v := (nI 1)) C dd_Md_next0_219 rfl ?_
        refine pj_iadd C dd_Md_next0_220 ?_
        refine pj_putI C P 0 (LM0 hB) rfl fl_Md_83 rfl fy_11_13 h dd_Md_next0_221 (fun H lo z11 h P => ?_)
        refine pj_iload_n C dd_Md_next0_224 rfl hl 0 rfl ?_
        refine pj_bipush (v := (nI 59)) C dd_Md_next0_225 rfl ?_
        refine pj_ic_eq C h dd_Md_next0_227 (fun h => ?_) (fun h => ?_)
        · exact bt_Md_next0_284 hB C Q _ _ _ _ _ h P (lv_sub hl [1, 0] rfl)
        · refine pj_iload_n C dd_Md_next0_230 rfl hl 0 rfl ?_
          refine pj_bipush (v := (nI 43)) C dd_Md_next0_231 rfl ?_
          refine pj_ic_eq C h dd_Md_next0_233 (fun h => ?_) (fun h => ?_)
          · exact bt_Md_next0_284 hB C Q _ _ _ _ _ h P (lv_sub hl [1, 0] rfl)
          · refine pj_iload_n C dd_Md_next0_236 rfl hl 0 rfl ?_
            refine pj_bipush (v := (nI 45)) C dd_Md_next0_237 rfl ?_
            refine pj_ic_eq C h dd_Md_next0_239 (fun h => ?_) (fun h => ?_)
            · exact bt_Md_next0_284 hB C Q _ _ _ _ _ h P (lv_sub hl [1, 0] rfl)
            · refine pj_iload_n C dd_Md_next0_242 rfl hl 0 rfl ?_
              refine pj_bipush (v := (nI 42)) C dd_Md_next0_243 rfl ?_
              refine pj_ic_eq C h dd_Md_next0_245 (fun h => ?_) (fun h => ?_)
              · exact bt_Md_next0_284 hB C Q _ _ _ _ _ h P (lv_sub hl [1, 0] rfl)
              · refine pj_iload_n C dd_Md_next0_248 rfl hl 0 rfl ?_
                refine pj_bipush (v := (nI 47)) C dd_Md_next0_249 rfl ?_
                refine pj_ic_eq C h dd_Md_next0_251 (fun h => ?_) (fun h => ?_)
                · exact bt_Md_next0_284 hB C Q _ _ _ _ _ h P (lv_sub hl [1, 0] rfl)
                · refine pj_iload_n C dd_Md_next0_254 rfl hl 0 rfl ?_
                  refine pj_bipush (v := (nI 40)) C dd_Md_next0_255 rfl ?_
                  refine pj_ic_eq C h dd_Md_next0_257 (fun h => ?_) (fun h => ?_)
                  · exact bt_Md_next0_284 hB C Q _ _ _ _ _ h P (lv_sub hl [1, 0] rfl)
                  · refine pj_iload_n C dd_Md_next0_260 rfl hl 0 rfl ?_
                    refine pj_bipush (v := (nI 41)) C dd_Md_next0_261 rfl ?_
                    refine pj_ic_eq C h dd_Md_next0_263 (fun h => ?_) (fun h => ?_)
                    · exact bt_Md_next0_284 hB C Q _ _ _ _ _ h P (lv_sub hl [1, 0] rfl)
                    · refine pj_iload_n C dd_Md_next0_266 rfl hl 0 rfl ?_
                      refine pj_bipush (v := (nI 60)) C dd_Md_next0_267 rfl ?_
                      refine pj_ic_eq C h dd_Md_next0_269 (fun h => ?_) (fun h => ?_)
                      · exact bt_Md_next0_284 hB C Q _ _ _ _ _ h P (lv_sub hl [1, 0] rfl)
                      · refine pj_iload_n C dd_Md_next0_272 rfl hl 0 rfl ?_
                        refine pj_bipush (v := (nI 61)) C dd_Md_next0_273 rfl ?_
                        refine pj_ic_eq C h dd_Md_next0_275 (fun h => ?_) (fun h => ?_)
                        · exact bt_Md_next0_284 hB C Q _ _ _ _ _ h P (lv_sub hl [1, 0] rfl)
                        · refine pj_iload_n C dd_Md_next0_278 rfl hl 0 rfl ?_
                          refine pj_bipush (v := (nI 62)) C dd_Md_next0_279 rfl ?_
                          refine pj_ic_ne C h dd_Md_next0_281 (fun h => ?_) (fun h => ?_)
                          · refine pj_iconst (v := (nI 0)) C dd_Md_next0_288 rfl ?_
                            exact bt_Md_next0_289 hB C Q _ _ _ _ _ _ h P (lv_sub hl [1, 0] rfl)
                          · exact bt_Md_next0_284 hB C Q _ _ _ _ _ h P (lv_sub hl [1, 0] rfl)
      · refine pj_aload_n C dd_Md_next0_121 rfl hl 1 rfl ?_
        refine pj_iconst (v := (nI 0)) C dd_Md_next0_122 rfl ?_
        refine pj_putI C P 0 (LM0 hB) rfl fl_Md_146 rfl fy_11_16 h dd_Md_next0_123 (fun H lo z12 h P => ?_)
        exact lt_Md_next0_126 hB C Q 4000 _ _ _ _ h P (lv_sub hl [1] rfl)
    · exact lt_Md_next0_76 hB C Q 4000 _ _ _ _ h P (lv_sub hl [1] rfl)
  · refine pj_aload_n C dd_Md_next0_61 rfl hl 1 rfl ?_
    refine pj_iconst (v := (nI 0)) C dd_Md_next0_62 rfl ?_
    refine pj_putI C P 0 (LM0 hB) rfl fl_Md_134 rfl fy_11_14 h dd_Md_next0_63 (fun H lo z13 h P => ?_)
    refine pj_goto C dd_Md_next0_66 ?_
    exact pj_vret C Q P h dd_Md_next0_306
set_option maxHeartbeats 4000000 in
set_option maxRecDepth 100000 in
theorem bt_Md_next0_26 {B : pj_B} {A : Nat → Prop} {K : pj_K} {r0 : Unit} {z0 : pj_S} (hB : B.2.2.2.1 = pj_LM) (C : pj_C B A K cX11_next0 3 RX11 10) (Q : pj_Qv B A K none r0 z0) (s0 : pj_S → Option (Unit × pj_S)) (k0 : ∀  (z : pj_S) (H : Heap) (lo : List Loc) (ls : Array Slot), s0  z = some (r0, z0) → pj_P B A K z H lo → lv_has ls 3 [(0, .ref (B.2.1 0))] → pj_W K H lo 0 ls [])  (z : pj_S) (H : Heap) (lo : List Loc) (ls : Array Slot) (h : Md_next0_26 s0 z = some (r0, z0)) (P : pj_P B A K z H lo) (hl : lv_has ls 3 [(0, .ref (B.2.1 0))]) : pj_W K H lo 26 ls [] := by
  unfold Md_next0_26 at h
  refine pj_aload_n C dd_Md_next0_26 rfl hl 0 rfl ?_
  refine pj_dup C dd_Md_next0_27 rfl ?_
  refine pj_getI C P 0 (LM0 hB) rfl fl_Md_83 dd_Md_next0_28 ?_
  refine pj_iconst (v := (nI 1)) C dd_Md_next0_31 rfl ?_
  refine pj_iadd C dd_Md_next0_32 ?_
  refine pj_putI C P 0 (LM0 hB) rfl fl_Md_83 rfl fy_11_13 h dd_Md_next0_33 (fun H lo z1 h P => ?_)
  refine pj_goto C dd_Md_next0_36 ?_
  exact k0 _ _ _ _ h P (lv_sub hl [0] rfl)
set_option maxHeartbeats 4000000 in
set_option maxRecDepth 100000 in
theorem bt_Md_next0_0 {B : pj_B} {A : Nat → Prop} {K : pj_K} {r0 : Unit} {z0 : pj_S} (hB : B.2.2.2.1 = pj_LM) (C : pj_C B A K cX11_next0 3 RX11 10) (Q : pj_Qv B A K none r0 z0) (s0 : pj_S → Option (Unit × pj_S)) (k0 : ∀  (z : pj_S) (H : Heap) (lo : List Loc) (ls : Array Slot), s0  z = some (r0, z0) → pj_P B A K z H lo → lv_has ls 3 [(0, .ref (B.2.1 0))] → pj_W K H lo 0 ls [])  (z : pj_S) (H : Heap) (lo : List Loc) (ls : Array Slot) (h : Md_next0_0 s0 z = some (r0, z0)) (P : pj_P B A K z H lo) (hl : lv_has ls 3 [(0, .ref (B.2.1 0))]) : pj_W K H lo 0 ls [] := by
  unfold Md_next0_0 at h
  refine pj_aload_n C dd_Md_next0_0 rfl hl 0 rfl ?_
  refine pj_aload_n C dd_Md_next0_1 rfl hl 0 rfl ?_
  refine pj_getI C P 0 (LM0 hB) rfl fl_Md_83 dd_Md_next0_2 ?_
  obtain ⟨r3, z2, e1, h⟩ := pj_cE h
  refine pj_cVi (st := []) [.int (z.1 0 13)] C P 0 (LM0 hB) rfl (ct_Md_see hB e1) cl_Md_130 rfl (by decide) (by decide) hl.1 (Nat.le_of_ble_eq_true rfl) dd_Md_next0_5 (fun H lo P => ?_)
  refine pj_bipush (v := (nI 32)) C dd_Md_next0_8 rfl ?_
  refine pj_ic_eq C h dd_Md_next0_10 (fun h => ?_) (fun h => ?_)
  · exact bt_Md_next0_26 hB C Q s0 k0 _ _ _ _ h P (lv_sub hl [0] rfl)
  · refine pj_aload_n C dd_Md_next0_13 rfl hl 0 rfl ?_
    refine pj_aload_n C dd_Md_next0_14 rfl hl 0 rfl ?_
    refine pj_getI C P 0 (LM0 hB) rfl fl_Md_83 dd_Md_next0_15 ?_
    obtain ⟨r6, z5, e4, h⟩ := pj_cE h
    refine pj_cVi (st := []) [.int (z2.1 0 13)] C P 0 (LM0 hB) rfl (ct_Md_see hB e4) cl_Md_130 rfl (by decide) (by decide) hl.1 (Nat.le_of_ble_eq_true rfl) dd_Md_next0_18 (fun H lo P => ?_)
    refine pj_bipush (v := (nI 10)) C dd_Md_next0_21 rfl ?_
    refine pj_ic_ne C h dd_Md_next0_23 (fun h => ?_) (fun h => ?_)
    · exact bt_Md_next0_39 hB C Q _ _ _ _ h P (lv_sub hl [0] rfl)
    · exact bt_Md_next0_26 hB C Q s0 k0 _ _ _ _ h P (lv_sub hl [0] rfl)
theorem lt_Md_next0_0 {B : pj_B} {A : Nat → Prop} {K : pj_K} {r0 : Unit} {z0 : pj_S} (hB : B.2.2.2.1 = pj_LM) (C : pj_C B A K cX11_next0 3 RX11 10) (Q : pj_Qv B A K none r0 z0)  : ∀ (n : Nat)  (z : pj_S) (H : Heap) (lo : List Loc) (ls : Array Slot), pj_lp0 Md_next0_0 n  z = some (r0, z0) → pj_P B A K z H lo → lv_has ls 3 [(0, .ref (B.2.1 0))] → pj_W K H lo 0 ls [] := by
  intro n
  induction n with
  | zero => intro  z H lo ls h; rw [pj_lp0_0] at h; cases h
  | succ n ih =>
    intro  z H lo ls h P hl
    rw [pj_lp0_s] at h
    exact bt_Md_next0_0 hB C Q   (pj_lp0 Md_next0_0 n) ih  z H lo ls h P hl
set_option maxHeartbeats 4000000 in
set_option maxRecDepth 100000 in
theorem ct_Md_next0 {l : Launch} {B : pj_B} (hB : B.2.2.2.1 = pj_LM)  {z : pj_S} {r0 : Unit} {z0 : pj_S} (h : Md_next0 z = some (r0, z0)) : pj_Mv l yX11_next0 cX11_next0 3 none 10 [.ref (B.2.1 0)] B z r0 z0 := by
  refine pj_metv (own := RX11) (by decide +kernel) rfl (Nat.le_of_ble_eq_true rfl) ?_
  intro A K hK C Q H lo ls P hl
  have hl : lv_has ls 3 [(0, .ref (B.2.1 0))] := hl
  unfold Md_next0 at h
  exact lt_Md_next0_0 hB C Q 4000 _ _ _ _ h P (lv_sub hl [0] rfl)
theorem dd_Md_bad_0 : pj_d cX11_bad 0 (.aload_n 0) 1 1 := ⟨by decide +kernel, rfl⟩
theorem dd_Md_bad_1 : pj_d cX11_bad 1 (.iload_n 1) 1 2 := ⟨by decide +kernel, rfl⟩
theorem dd_Md_bad_2 : pj_d cX11_bad 2 (.putfield 149) 3 5 := ⟨by decide +kernel, rfl⟩
theorem dd_Md_bad_5 : pj_d cX11_bad 5 (.aload_n 0) 1 6 := ⟨by decide +kernel, rfl⟩
theorem dd_Md_bad_6 : pj_d cX11_bad 6 (.aload_n 0) 1 7 := ⟨by decide +kernel, rfl⟩
theorem dd_Md_bad_7 : pj_d cX11_bad 7 (.getfield 86) 3 10 := ⟨by decide +kernel, rfl⟩
theorem dd_Md_bad_10 : pj_d cX11_bad 10 (.putfield 152) 3 13 := ⟨by decide +kernel, rfl⟩
theorem dd_Md_bad_13 : pj_d cX11_bad 13 (.iconst 0) 1 14 := ⟨by decide +kernel, rfl⟩
theorem dd_Md_bad_14 : pj_d cX11_bad 14 (.ireturn) 1 15 := ⟨by decide +kernel, rfl⟩
set_option maxHeartbeats 4000000 in
set_option maxRecDepth 100000 in
theorem ct_Md_bad {l : Launch} {B : pj_B} (hB : B.2.2.2.1 = pj_LM) {v1 : Int32} {z : pj_S} {r0 : Int32} {z0 : pj_S} (h : Md_bad v1 z = some (r0, z0)) : pj_Mi l yX11_bad cX11_bad 2 (some .boolean) 1 [.ref (B.2.1 0), .int v1] B z r0 z0 := by
  refine pj_meti (own := RX11) (by decide +kernel) rfl (Nat.le_of_ble_eq_true rfl) ?_
  intro A K hK C Q H lo ls P hl
  have hl : lv_has ls 2 [(0, .ref (B.2.1 0)), (1, .int v1)] := hl
  unfold Md_bad at h
  refine pj_aload_n C dd_Md_bad_0 rfl hl 0 rfl ?_
  refine pj_iload_n C dd_Md_bad_1 rfl hl 1 rfl ?_
  refine pj_putI C P 0 (LM0 hB) rfl fl_Md_149 rfl fy_11_17 h dd_Md_bad_2 (fun H lo z1 h P => ?_)
  refine pj_aload_n C dd_Md_bad_5 rfl hl 0 rfl ?_
  refine pj_aload_n C dd_Md_bad_6 rfl hl 0 rfl ?_
  refine pj_getI C P 0 (LM0 hB) rfl fl_Md_86 dd_Md_bad_7 ?_
  refine pj_putI C P 0 (LM0 hB) rfl fl_Md_152 rfl fy_11_18 h dd_Md_bad_10 (fun H lo z2 h P => ?_)
  refine pj_iconst (v := (nI 0)) C dd_Md_bad_13 rfl ?_
  exact pj_zret C Q P h dd_Md_bad_14
theorem dd_Md_need_0 : pj_d cX11_need 0 (.aload_n 0) 1 1 := ⟨by decide +kernel, rfl⟩
theorem dd_Md_need_1 : pj_d cX11_need 1 (.getfield 134) 3 4 := ⟨by decide +kernel, rfl⟩
theorem dd_Md_need_4 : pj_d cX11_need 4 (.iload_n 1) 1 5 := ⟨by decide +kernel, rfl⟩
theorem dd_Md_need_5 : pj_dj cX11_need 5 (.if_icmp .eq 9) 9 8 14 := ⟨by decide +kernel, rfl, by decide⟩
theorem dd_Md_need_8 : pj_d cX11_need 8 (.aload_n 0) 1 9 := ⟨by decide +kernel, rfl⟩
theorem dd_Md_need_9 : pj_d cX11_need 9 (.iconst 1) 1 10 := ⟨by decide +kernel, rfl⟩
theorem dd_Md_need_10 : pj_d cX11_need 10 (.invokevirtual 155) 3 13 := ⟨by decide +kernel, rfl⟩
theorem dd_Md_need_13 : pj_d cX11_need 13 (.ireturn) 1 14 := ⟨by decide +kernel, rfl⟩
theorem dd_Md_need_14 : pj_d cX11_need 14 (.aload_n 0) 1 15 := ⟨by decide +kernel, rfl⟩
theorem dd_Md_need_15 : pj_d cX11_need 15 (.invokevirtual 158) 3 18 := ⟨by decide +kernel, rfl⟩
theorem dd_Md_need_18 : pj_d cX11_need 18 (.iconst 1) 1 19 := ⟨by decide +kernel, rfl⟩
theorem dd_Md_need_19 : pj_d cX11_need 19 (.ireturn) 1 20 := ⟨by decide +kernel, rfl⟩
set_option maxHeartbeats 4000000 in
set_option maxRecDepth 100000 in
theorem ct_Md_need {l : Launch} {B : pj_B} (hB : B.2.2.2.1 = pj_LM) {v1 : Int32} {z : pj_S} {r0 : Int32} {z0 : pj_S} (h : Md_need v1 z = some (r0, z0)) : pj_Mi l yX11_need cX11_need 2 (some .boolean) 11 [.ref (B.2.1 0), .int v1] B z r0 z0 := by
  refine pj_meti (own := RX11) (by decide +kernel) rfl (Nat.le_of_ble_eq_true rfl) ?_
  intro A K hK C Q H lo ls P hl
  have hl : lv_has ls 2 [(0, .ref (B.2.1 0)), (1, .int v1)] := hl
  unfold Md_need at h
  refine pj_aload_n C dd_Md_need_0 rfl hl 0 rfl ?_
  refine pj_getI C P 0 (LM0 hB) rfl fl_Md_134 dd_Md_need_1 ?_
  refine pj_iload_n C dd_Md_need_4 rfl hl 1 rfl ?_
  refine pj_ic_eq C h dd_Md_need_5 (fun h => ?_) (fun h => ?_)
  · refine pj_aload_n C dd_Md_need_14 rfl hl 0 rfl ?_
    obtain ⟨r3, z2, e1, h⟩ := pj_cE h
    refine pj_cVv (st := []) [] C P 0 (LM0 hB) rfl (ct_Md_next0 hB e1) cl_Md_158 rfl (by decide) (by decide) hl.1 (Nat.le_of_ble_eq_true rfl) dd_Md_need_15 (fun H lo P => ?_)
    refine pj_iconst (v := (nI 1)) C dd_Md_need_18 rfl ?_
    exact pj_zret C Q P h dd_Md_need_19
  · refine pj_aload_n C dd_Md_need_8 rfl hl 0 rfl ?_
    refine pj_iconst (v := (nI 1)) C dd_Md_need_9 rfl ?_
    obtain ⟨r6, z5, e4, h⟩ := pj_cE h
    refine pj_cVi (st := []) [.int (nI 1)] C P 0 (LM0 hB) rfl (ct_Md_bad hB e4) cl_Md_155 rfl (by decide) (by decide) hl.1 (Nat.le_of_ble_eq_true rfl) dd_Md_need_10 (fun H lo P => ?_)
    exact pj_zret C Q P h dd_Md_need_13
theorem dd_Md_lay_0 : pj_d cX11_lay 0 (.aload_n 0) 1 1 := ⟨by decide +kernel, rfl⟩
theorem dd_Md_lay_1 : pj_d cX11_lay 1 (.getfield 22) 3 4 := ⟨by decide +kernel, rfl⟩
theorem dd_Md_lay_4 : pj_d cX11_lay 4 (.iconst 2) 1 5 := ⟨by decide +kernel, rfl⟩
theorem dd_Md_lay_5 : pj_d cX11_lay 5 (.aload_n 0) 1 6 := ⟨by decide +kernel, rfl⟩
theorem dd_Md_lay_6 : pj_d cX11_lay 6 (.getfield 161) 3 9 := ⟨by decide +kernel, rfl⟩
theorem dd_Md_lay_9 : pj_d cX11_lay 9 (.imul) 1 10 := ⟨by decide +kernel, rfl⟩
theorem dd_Md_lay_10 : pj_d cX11_lay 10 (.iload_n 1) 1 11 := ⟨by decide +kernel, rfl⟩
theorem dd_Md_lay_11 : pj_d cX11_lay 11 (.iastore) 1 12 := ⟨by decide +kernel, rfl⟩
theorem dd_Md_lay_12 : pj_d cX11_lay 12 (.aload_n 0) 1 13 := ⟨by decide +kernel, rfl⟩
theorem dd_Md_lay_13 : pj_d cX11_lay 13 (.getfield 22) 3 16 := ⟨by decide +kernel, rfl⟩
theorem dd_Md_lay_16 : pj_d cX11_lay 16 (.iconst 2) 1 17 := ⟨by decide +kernel, rfl⟩
theorem dd_Md_lay_17 : pj_d cX11_lay 17 (.aload_n 0) 1 18 := ⟨by decide +kernel, rfl⟩
theorem dd_Md_lay_18 : pj_d cX11_lay 18 (.getfield 161) 3 21 := ⟨by decide +kernel, rfl⟩
theorem dd_Md_lay_21 : pj_d cX11_lay 21 (.imul) 1 22 := ⟨by decide +kernel, rfl⟩
theorem dd_Md_lay_22 : pj_d cX11_lay 22 (.iconst 1) 1 23 := ⟨by decide +kernel, rfl⟩
theorem dd_Md_lay_23 : pj_d cX11_lay 23 (.iadd) 1 24 := ⟨by decide +kernel, rfl⟩
theorem dd_Md_lay_24 : pj_d cX11_lay 24 (.iload_n 2) 1 25 := ⟨by decide +kernel, rfl⟩
theorem dd_Md_lay_25 : pj_d cX11_lay 25 (.iastore) 1 26 := ⟨by decide +kernel, rfl⟩
theorem dd_Md_lay_26 : pj_d cX11_lay 26 (.aload_n 0) 1 27 := ⟨by decide +kernel, rfl⟩
theorem dd_Md_lay_27 : pj_d cX11_lay 27 (.dup) 1 28 := ⟨by decide +kernel, rfl⟩
theorem dd_Md_lay_28 : pj_d cX11_lay 28 (.getfield 161) 3 31 := ⟨by decide +kernel, rfl⟩
theorem dd_Md_lay_31 : pj_d cX11_lay 31 (.iconst 1) 1 32 := ⟨by decide +kernel, rfl⟩
theorem dd_Md_lay_32 : pj_d cX11_lay 32 (.iadd) 1 33 := ⟨by decide +kernel, rfl⟩
theorem dd_Md_lay_33 : pj_d cX11_lay 33 (.putfield 161) 3 36 := ⟨by decide +kernel, rfl⟩
theorem dd_Md_lay_36 : pj_d cX11_lay 36 (.return_) 1 37 := ⟨by decide +kernel, rfl⟩
set_option maxHeartbeats 4000000 in
set_option maxRecDepth 100000 in
theorem ct_Md_lay {l : Launch} {B : pj_B} (hB : B.2.2.2.1 = pj_LM) {v1 : Int32} {v2 : Int32} {z : pj_S} {r0 : Unit} {z0 : pj_S} (h : Md_lay v1 v2 z = some (r0, z0)) : pj_Mv l yX11_lay cX11_lay 3 none 1 [.ref (B.2.1 0), .int v1, .int v2] B z r0 z0 := by
  refine pj_metv (own := RX11) (by decide +kernel) rfl (Nat.le_of_ble_eq_true rfl) ?_
  intro A K hK C Q H lo ls P hl
  have hl : lv_has ls 3 [(0, .ref (B.2.1 0)), (1, .int v1), (2, .int v2)] := hl
  unfold Md_lay at h
  refine pj_aload_n C dd_Md_lay_0 rfl hl 0 rfl ?_
  refine pj_getR C P 0 (LM0 hB) rfl fl_Md_22 dd_Md_lay_1 ?_
  refine pj_iconst (v := (nI 2)) C dd_Md_lay_4 rfl ?_
  refine pj_aload_n C dd_Md_lay_5 rfl hl 0 rfl ?_
  refine pj_getI C P 0 (LM0 hB) rfl fl_Md_161 dd_Md_lay_6 ?_
  refine pj_imul C dd_Md_lay_9 ?_
  refine pj_iload_n C dd_Md_lay_10 rfl hl 1 rfl ?_
  refine pj_iast C P 5 (LM5 hB) h dd_Md_lay_11 (fun H lo z1 h P => ?_)
  refine pj_aload_n C dd_Md_lay_12 rfl hl 0 rfl ?_
  refine pj_getR C P 0 (LM0 hB) rfl fl_Md_22 dd_Md_lay_13 ?_
  refine pj_iconst (v := (nI 2)) C dd_Md_lay_16 rfl ?_
  refine pj_aload_n C dd_Md_lay_17 rfl hl 0 rfl ?_
  refine pj_getI C P 0 (LM0 hB) rfl fl_Md_161 dd_Md_lay_18 ?_
  refine pj_imul C dd_Md_lay_21 ?_
  refine pj_iconst (v := (nI 1)) C dd_Md_lay_22 rfl ?_
  refine pj_iadd C dd_Md_lay_23 ?_
  refine pj_iload_n C dd_Md_lay_24 rfl hl 2 rfl ?_
  refine pj_iast C P 5 (LM5 hB) h dd_Md_lay_25 (fun H lo z2 h P => ?_)
  refine pj_aload_n C dd_Md_lay_26 rfl hl 0 rfl ?_
  refine pj_dup C dd_Md_lay_27 rfl ?_
  refine pj_getI C P 0 (LM0 hB) rfl fl_Md_161 dd_Md_lay_28 ?_
  refine pj_iconst (v := (nI 1)) C dd_Md_lay_31 rfl ?_
  refine pj_iadd C dd_Md_lay_32 ?_
  refine pj_putI C P 0 (LM0 hB) rfl fl_Md_161 rfl fy_11_11 h dd_Md_lay_33 (fun H lo z3 h P => ?_)
  exact pj_vret C Q P h dd_Md_lay_36
theorem dd_Md_unit_0 : pj_d cX11_unit 0 (.aload_n 0) 1 1 := ⟨by decide +kernel, rfl⟩
theorem dd_Md_unit_1 : pj_d cX11_unit 1 (.getfield 134) 3 4 := ⟨by decide +kernel, rfl⟩
theorem dd_Md_unit_4 : pj_d cX11_unit 4 (.bipush 41) 2 6 := ⟨by decide +kernel, rfl⟩
theorem dd_Md_unit_6 : pj_d cX11_unit 6 (.bipush 47) 2 8 := ⟨by decide +kernel, rfl⟩
theorem dd_Md_unit_8 : pj_d cX11_unit 8 (.invokestatic 70) 3 11 := ⟨by decide +kernel, rfl⟩
theorem dd_Md_unit_11 : pj_d cX11_unit 11 (.istore_n 1) 1 12 := ⟨by decide +kernel, rfl⟩
theorem dd_Md_unit_12 : pj_d cX11_unit 12 (.aload_n 0) 1 13 := ⟨by decide +kernel, rfl⟩
theorem dd_Md_unit_13 : pj_d cX11_unit 13 (.getfield 134) 3 16 := ⟨by decide +kernel, rfl⟩
theorem dd_Md_unit_16 : pj_d cX11_unit 16 (.iconst 2) 1 17 := ⟨by decide +kernel, rfl⟩
theorem dd_Md_unit_17 : pj_dj cX11_unit 17 (.if_icmp .eq 13) 13 20 30 := ⟨by decide +kernel, rfl, by decide⟩
theorem dd_Md_unit_20 : pj_d cX11_unit 20 (.iload_n 1) 1 21 := ⟨by decide +kernel, rfl⟩
theorem dd_Md_unit_21 : pj_dj cX11_unit 21 (.ifCond .ne 9) 9 24 30 := ⟨by decide +kernel, rfl, by decide⟩
theorem dd_Md_unit_24 : pj_d cX11_unit 24 (.aload_n 0) 1 25 := ⟨by decide +kernel, rfl⟩
theorem dd_Md_unit_25 : pj_d cX11_unit 25 (.iconst 1) 1 26 := ⟨by decide +kernel, rfl⟩
theorem dd_Md_unit_26 : pj_d cX11_unit 26 (.invokevirtual 155) 3 29 := ⟨by decide +kernel, rfl⟩
theorem dd_Md_unit_29 : pj_d cX11_unit 29 (.ireturn) 1 30 := ⟨by decide +kernel, rfl⟩
theorem dd_Md_unit_30 : pj_d cX11_unit 30 (.aload_n 0) 1 31 := ⟨by decide +kernel, rfl⟩
theorem dd_Md_unit_31 : pj_d cX11_unit 31 (.iload_n 1) 1 32 := ⟨by decide +kernel, rfl⟩
theorem dd_Md_unit_32 : pj_dj cX11_unit 32 (.ifCond .eq 13) 13 35 45 := ⟨by decide +kernel, rfl, by decide⟩
theorem dd_Md_unit_35 : pj_d cX11_unit 35 (.aload_n 0) 1 36 := ⟨by decide +kernel, rfl⟩
theorem dd_Md_unit_36 : pj_d cX11_unit 36 (.getfield 134) 3 39 := ⟨by decide +kernel, rfl⟩
theorem dd_Md_unit_39 : pj_d cX11_unit 39 (.bipush 40) 2 41 := ⟨by decide +kernel, rfl⟩
theorem dd_Md_unit_41 : pj_d cX11_unit 41 (.isub) 1 42 := ⟨by decide +kernel, rfl⟩
theorem dd_Md_unit_42 : pj_dj cX11_unit 42 (.goto 4) 4 45 46 := ⟨by decide +kernel, rfl, by decide⟩
theorem dd_Md_unit_45 : pj_d cX11_unit 45 (.iconst 0) 1 46 := ⟨by decide +kernel, rfl⟩
theorem dd_Md_unit_46 : pj_d cX11_unit 46 (.aload_n 0) 1 47 := ⟨by decide +kernel, rfl⟩
theorem dd_Md_unit_47 : pj_d cX11_unit 47 (.getfield 146) 3 50 := ⟨by decide +kernel, rfl⟩
theorem dd_Md_unit_50 : pj_d cX11_unit 50 (.invokevirtual 171) 3 53 := ⟨by decide +kernel, rfl⟩
theorem dd_Md_unit_53 : pj_d cX11_unit 53 (.aload_n 0) 1 54 := ⟨by decide +kernel, rfl⟩
theorem dd_Md_unit_54 : pj_d cX11_unit 54 (.invokevirtual 158) 3 57 := ⟨by decide +kernel, rfl⟩
theorem dd_Md_unit_57 : pj_d cX11_unit 57 (.iconst 1) 1 58 := ⟨by decide +kernel, rfl⟩
theorem dd_Md_unit_58 : pj_d cX11_unit 58 (.ireturn) 1 59 := ⟨by decide +kernel, rfl⟩
set_option maxHeartbeats 4000000 in
set_option maxRecDepth 100000 in
theorem bt_Md_unit_46 {B : pj_B} {A : Nat → Prop} {K : pj_K} {r0 : Int32} {z0 : pj_S} (hB : B.2.2.2.1 = pj_LM) (C : pj_C B A K cX11_unit 2 RX11 11) (Q : pj_Qi B A K (some .boolean) r0 z0)  (t0 : Int32) (z : pj_S) (H : Heap) (lo : List Loc) (ls : Array Slot) (h : Md_unit_46 t0 z = some (r0, z0)) (P : pj_P B A K z H lo) (hl : lv_has ls 2 [(0, .ref (B.2.1 0))]) : pj_W K H lo 46 ls [.int t0, .ref (B.2.1 0)] := by
  unfold Md_unit_46 at h
  refine pj_aload_n C dd_Md_unit_46 rfl hl 0 rfl ?_
  refine pj_getI C P 0 (LM0 hB) rfl fl_Md_146 dd_Md_unit_47 ?_
  obtain ⟨r3, z2, e1, h⟩ := pj_cE h
  refine pj_cVv (st := []) [.int t0, .int (z.1 0 16)] C P 0 (LM0 hB) rfl (ct_Md_lay hB e1) cl_Md_171 rfl (by decide) (by decide) hl.1 (Nat.le_of_ble_eq_true rfl) dd_Md_unit_50 (fun H lo P => ?_)
  refine pj_aload_n C dd_Md_unit_53 rfl hl 0 rfl ?_
  obtain ⟨r6, z5, e4, h⟩ := pj_cE h
  refine pj_cVv (st := []) [] C P 0 (LM0 hB) rfl (ct_Md_next0 hB e4) cl_Md_158 rfl (by decide) (by decide) hl.1 (Nat.le_of_ble_eq_true rfl) dd_Md_unit_54 (fun H lo P => ?_)
  refine pj_iconst (v := (nI 1)) C dd_Md_unit_57 rfl ?_
  exact pj_zret C Q P h dd_Md_unit_58
set_option maxHeartbeats 4000000 in
set_option maxRecDepth 100000 in
theorem bt_Md_unit_30 {B : pj_B} {A : Nat → Prop} {K : pj_K} {r0 : Int32} {z0 : pj_S} (hB : B.2.2.2.1 = pj_LM) (C : pj_C B A K cX11_unit 2 RX11 11) (Q : pj_Qi B A K (some .boolean) r0 z0)  (v1 : Int32) (z : pj_S) (H : Heap) (lo : List Loc) (ls : Array Slot) (h : Md_unit_30 v1 z = some (r0, z0)) (P : pj_P B A K z H lo) (hl : lv_has ls 2 [(0, .ref (B.2.1 0)), (1, .int v1)]) : pj_W K H lo 30 ls [] := by
  unfold Md_unit_30 at h
  refine pj_aload_n C dd_Md_unit_30 rfl hl 0 rfl ?_
  refine pj_iload_n C dd_Md_unit_31 rfl hl 1 rfl ?_
  refine pj_if_eq C h dd_Md_unit_32 (fun h => ?_) (fun h => ?_)
  · refine pj_iconst (v := (nI 0)) C dd_Md_unit_45 rfl ?_
    exact bt_Md_unit_46 hB C Q _ _ _ _ _ h P (lv_sub hl [0] rfl)
  · refine pj_aload_n C dd_Md_unit_35 rfl hl 0 rfl ?_
    refine pj_getI C P 0 (LM0 hB) rfl fl_Md_134 dd_Md_unit_36 ?_
    refine pj_bipush (v := (nI 40)) C dd_Md_unit_39 rfl ?_
    refine pj_isub C dd_Md_unit_41 ?_
    refine pj_goto C dd_Md_unit_42 ?_
    exact bt_Md_unit_46 hB C Q _ _ _ _ _ h P (lv_sub hl [0] rfl)
set_option maxHeartbeats 4000000 in
set_option maxRecDepth 100000 in
theorem ct_Md_unit {l : Launch} {B : pj_B} (hB : B.2.2.2.1 = pj_LM)  {z : pj_S} {r0 : Int32} {z0 : pj_S} (h : Md_unit z = some (r0, z0)) : pj_Mi l yX11_unit cX11_unit 2 (some .boolean) 11 [.ref (B.2.1 0)] B z r0 z0 := by
  refine pj_meti (own := RX11) (by decide +kernel) rfl (Nat.le_of_ble_eq_true rfl) ?_
  intro A K hK C Q H lo ls P hl
  have hl : lv_has ls 2 [(0, .ref (B.2.1 0))] := hl
  unfold Md_unit at h
  refine pj_aload_n C dd_Md_unit_0 rfl hl 0 rfl ?_
  refine pj_getI C P 0 (LM0 hB) rfl fl_Md_134 dd_Md_unit_1 ?_
  refine pj_bipush (v := (nI 41)) C dd_Md_unit_4 rfl ?_
  refine pj_bipush (v := (nI 47)) C dd_Md_unit_6 rfl ?_
  obtain ⟨r3, z2, e1, h⟩ := pj_cE h
  refine pj_cSi (st := []) [.int (z.1 0 14), .int (nI 41), .int (nI 47)] C P (ct_Md_isInM hB e1) cl_Md_70 rfl (by decide) (by decide) hl.1 (Nat.le_of_ble_eq_true rfl) dd_Md_unit_8 (fun H lo P => ?_)
  refine pj_istore_n [(1, .int r3), (0, .ref (B.2.1 0))] C dd_Md_unit_11 rfl hl (by decide) rfl (fun ls hl => ?_)
  refine pj_aload_n C dd_Md_unit_12 rfl hl 1 rfl ?_
  refine pj_getI C P 0 (LM0 hB) rfl fl_Md_134 dd_Md_unit_13 ?_
  refine pj_iconst (v := (nI 2)) C dd_Md_unit_16 rfl ?_
  refine pj_ic_eq C h dd_Md_unit_17 (fun h => ?_) (fun h => ?_)
  · exact bt_Md_unit_30 hB C Q _ _ _ _ _ h P (lv_sub hl [1, 0] rfl)
  · refine pj_iload_n C dd_Md_unit_20 rfl hl 0 rfl ?_
    refine pj_if_ne C h dd_Md_unit_21 (fun h => ?_) (fun h => ?_)
    · exact bt_Md_unit_30 hB C Q _ _ _ _ _ h P (lv_sub hl [1, 0] rfl)
    · refine pj_aload_n C dd_Md_unit_24 rfl hl 1 rfl ?_
      refine pj_iconst (v := (nI 1)) C dd_Md_unit_25 rfl ?_
      obtain ⟨r6, z5, e4, h⟩ := pj_cE h
      refine pj_cVi (st := []) [.int (nI 1)] C P 0 (LM0 hB) rfl (ct_Md_bad hB e4) cl_Md_155 rfl (by decide) (by decide) hl.1 (Nat.le_of_ble_eq_true rfl) dd_Md_unit_26 (fun H lo P => ?_)
      exact pj_zret C Q P h dd_Md_unit_29
theorem dd_Md_product_0 : pj_d cX11_product 0 (.aload_n 0) 1 1 := ⟨by decide +kernel, rfl⟩
theorem dd_Md_product_1 : pj_d cX11_product 1 (.invokevirtual 174) 3 4 := ⟨by decide +kernel, rfl⟩
theorem dd_Md_product_4 : pj_dj cX11_product 4 (.ifCond .ne 5) 5 7 9 := ⟨by decide +kernel, rfl, by decide⟩
theorem dd_Md_product_7 : pj_d cX11_product 7 (.iconst 0) 1 8 := ⟨by decide +kernel, rfl⟩
theorem dd_Md_product_8 : pj_d cX11_product 8 (.ireturn) 1 9 := ⟨by decide +kernel, rfl⟩
theorem dd_Md_product_9 : pj_d cX11_product 9 (.aload_n 0) 1 10 := ⟨by decide +kernel, rfl⟩
theorem dd_Md_product_10 : pj_d cX11_product 10 (.getfield 134) 3 13 := ⟨by decide +kernel, rfl⟩
theorem dd_Md_product_13 : pj_d cX11_product 13 (.sipush 142) 3 16 := ⟨by decide +kernel, rfl⟩
theorem dd_Md_product_16 : pj_dj cX11_product 16 (.if_icmp .eq 13) 13 19 29 := ⟨by decide +kernel, rfl, by decide⟩
theorem dd_Md_product_19 : pj_d cX11_product 19 (.aload_n 0) 1 20 := ⟨by decide +kernel, rfl⟩
theorem dd_Md_product_20 : pj_d cX11_product 20 (.getfield 134) 3 23 := ⟨by decide +kernel, rfl⟩
theorem dd_Md_product_23 : pj_d cX11_product 23 (.sipush 147) 3 26 := ⟨by decide +kernel, rfl⟩
theorem dd_Md_product_26 : pj_dj cX11_product 26 (.if_icmp .ne 89) 89 29 115 := ⟨by decide +kernel, rfl, by decide⟩
theorem dd_Md_product_29 : pj_d cX11_product 29 (.aload_n 0) 1 30 := ⟨by decide +kernel, rfl⟩
theorem dd_Md_product_30 : pj_d cX11_product 30 (.getfield 134) 3 33 := ⟨by decide +kernel, rfl⟩
theorem dd_Md_product_33 : pj_d cX11_product 33 (.sipush 147) 3 36 := ⟨by decide +kernel, rfl⟩
theorem dd_Md_product_36 : pj_dj cX11_product 36 (.if_icmp .ne 7) 7 39 43 := ⟨by decide +kernel, rfl, by decide⟩
theorem dd_Md_product_39 : pj_d cX11_product 39 (.iconst 1) 1 40 := ⟨by decide +kernel, rfl⟩
theorem dd_Md_product_40 : pj_dj cX11_product 40 (.goto 4) 4 43 44 := ⟨by decide +kernel, rfl, by decide⟩
theorem dd_Md_product_43 : pj_d cX11_product 43 (.iconst 0) 1 44 := ⟨by decide +kernel, rfl⟩
theorem dd_Md_product_44 : pj_d cX11_product 44 (.istore_n 1) 1 45 := ⟨by decide +kernel, rfl⟩
theorem dd_Md_product_45 : pj_d cX11_product 45 (.aload_n 0) 1 46 := ⟨by decide +kernel, rfl⟩
theorem dd_Md_product_46 : pj_d cX11_product 46 (.invokevirtual 158) 3 49 := ⟨by decide +kernel, rfl⟩
theorem dd_Md_product_49 : pj_d cX11_product 49 (.iload_n 1) 1 50 := ⟨by decide +kernel, rfl⟩
theorem dd_Md_product_50 : pj_dj cX11_product 50 (.ifCond .eq 46) 46 53 96 := ⟨by decide +kernel, rfl, by decide⟩
theorem dd_Md_product_53 : pj_d cX11_product 53 (.aload_n 0) 1 54 := ⟨by decide +kernel, rfl⟩
theorem dd_Md_product_54 : pj_d cX11_product 54 (.getfield 146) 3 57 := ⟨by decide +kernel, rfl⟩
theorem dd_Md_product_57 : pj_d cX11_product 57 (.istore_n 2) 1 58 := ⟨by decide +kernel, rfl⟩
theorem dd_Md_product_58 : pj_d cX11_product 58 (.aload_n 0) 1 59 := ⟨by decide +kernel, rfl⟩
theorem dd_Md_product_59 : pj_d cX11_product 59 (.getfield 134) 3 62 := ⟨by decide +kernel, rfl⟩
theorem dd_Md_product_62 : pj_d cX11_product 62 (.iconst 2) 1 63 := ⟨by decide +kernel, rfl⟩
theorem dd_Md_product_63 : pj_dj cX11_product 63 (.if_icmp .eq 9) 9 66 72 := ⟨by decide +kernel, rfl, by decide⟩
theorem dd_Md_product_66 : pj_d cX11_product 66 (.aload_n 0) 1 67 := ⟨by decide +kernel, rfl⟩
theorem dd_Md_product_67 : pj_d cX11_product 67 (.iconst 1) 1 68 := ⟨by decide +kernel, rfl⟩
theorem dd_Md_product_68 : pj_d cX11_product 68 (.invokevirtual 155) 3 71 := ⟨by decide +kernel, rfl⟩
theorem dd_Md_product_71 : pj_d cX11_product 71 (.ireturn) 1 72 := ⟨by decide +kernel, rfl⟩
theorem dd_Md_product_72 : pj_d cX11_product 72 (.iload_n 2) 1 73 := ⟨by decide +kernel, rfl⟩
theorem dd_Md_product_73 : pj_dj cX11_product 73 (.ifCond .ne 9) 9 76 82 := ⟨by decide +kernel, rfl, by decide⟩
theorem dd_Md_product_76 : pj_d cX11_product 76 (.aload_n 0) 1 77 := ⟨by decide +kernel, rfl⟩
theorem dd_Md_product_77 : pj_d cX11_product 77 (.iconst 2) 1 78 := ⟨by decide +kernel, rfl⟩
theorem dd_Md_product_78 : pj_d cX11_product 78 (.invokevirtual 155) 3 81 := ⟨by decide +kernel, rfl⟩
theorem dd_Md_product_81 : pj_d cX11_product 81 (.ireturn) 1 82 := ⟨by decide +kernel, rfl⟩
theorem dd_Md_product_82 : pj_d cX11_product 82 (.aload_n 0) 1 83 := ⟨by decide +kernel, rfl⟩
theorem dd_Md_product_83 : pj_d cX11_product 83 (.invokevirtual 158) 3 86 := ⟨by decide +kernel, rfl⟩
theorem dd_Md_product_86 : pj_d cX11_product 86 (.aload_n 0) 1 87 := ⟨by decide +kernel, rfl⟩
theorem dd_Md_product_87 : pj_d cX11_product 87 (.bipush 16) 2 89 := ⟨by decide +kernel, rfl⟩
theorem dd_Md_product_89 : pj_d cX11_product 89 (.iload_n 2) 1 90 := ⟨by decide +kernel, rfl⟩
theorem dd_Md_product_90 : pj_d cX11_product 90 (.invokevirtual 171) 3 93 := ⟨by decide +kernel, rfl⟩
theorem dd_Md_product_93 : pj_dj cX11_product 93 (.goto 19) 19 96 112 := ⟨by decide +kernel, rfl, by decide⟩
theorem dd_Md_product_96 : pj_d cX11_product 96 (.aload_n 0) 1 97 := ⟨by decide +kernel, rfl⟩
theorem dd_Md_product_97 : pj_d cX11_product 97 (.invokevirtual 174) 3 100 := ⟨by decide +kernel, rfl⟩
theorem dd_Md_product_100 : pj_dj cX11_product 100 (.ifCond .ne 5) 5 103 105 := ⟨by decide +kernel, rfl, by decide⟩
theorem dd_Md_product_103 : pj_d cX11_product 103 (.iconst 0) 1 104 := ⟨by decide +kernel, rfl⟩
theorem dd_Md_product_104 : pj_d cX11_product 104 (.ireturn) 1 105 := ⟨by decide +kernel, rfl⟩
theorem dd_Md_product_105 : pj_d cX11_product 105 (.aload_n 0) 1 106 := ⟨by decide +kernel, rfl⟩
theorem dd_Md_product_106 : pj_d cX11_product 106 (.bipush 15) 2 108 := ⟨by decide +kernel, rfl⟩
theorem dd_Md_product_108 : pj_d cX11_product 108 (.iconst 0) 1 109 := ⟨by decide +kernel, rfl⟩
theorem dd_Md_product_109 : pj_d cX11_product 109 (.invokevirtual 171) 3 112 := ⟨by decide +kernel, rfl⟩
theorem dd_Md_product_112 : pj_dj cX11_product 112 (.goto (-103)) (-103) 115 9 := ⟨by decide +kernel, rfl, by decide⟩
theorem dd_Md_product_115 : pj_d cX11_product 115 (.iconst 1) 1 116 := ⟨by decide +kernel, rfl⟩
theorem dd_Md_product_116 : pj_d cX11_product 116 (.ireturn) 1 117 := ⟨by decide +kernel, rfl⟩
set_option maxHeartbeats 4000000 in
set_option maxRecDepth 100000 in
theorem bt_Md_product_66 {B : pj_B} {A : Nat → Prop} {K : pj_K} {r0 : Int32} {z0 : pj_S} (hB : B.2.2.2.1 = pj_LM) (C : pj_C B A K cX11_product 3 RX11 12) (Q : pj_Qi B A K (some .boolean) r0 z0)   (z : pj_S) (H : Heap) (lo : List Loc) (ls : Array Slot) (h : Md_product_66 z = some (r0, z0)) (P : pj_P B A K z H lo) (hl : lv_has ls 3 [(0, .ref (B.2.1 0))]) : pj_W K H lo 66 ls [] := by
  unfold Md_product_66 at h
  refine pj_aload_n C dd_Md_product_66 rfl hl 0 rfl ?_
  refine pj_iconst (v := (nI 1)) C dd_Md_product_67 rfl ?_
  obtain ⟨r3, z2, e1, h⟩ := pj_cE h
  refine pj_cVi (st := []) [.int (nI 1)] C P 0 (LM0 hB) rfl (ct_Md_bad hB e1) cl_Md_155 rfl (by decide) (by decide) hl.1 (Nat.le_of_ble_eq_true rfl) dd_Md_product_68 (fun H lo P => ?_)
  exact pj_zret C Q P h dd_Md_product_71
set_option maxHeartbeats 4000000 in
set_option maxRecDepth 100000 in
theorem bt_Md_product_76 {B : pj_B} {A : Nat → Prop} {K : pj_K} {r0 : Int32} {z0 : pj_S} (hB : B.2.2.2.1 = pj_LM) (C : pj_C B A K cX11_product 3 RX11 12) (Q : pj_Qi B A K (some .boolean) r0 z0)   (z : pj_S) (H : Heap) (lo : List Loc) (ls : Array Slot) (h : Md_product_76 z = some (r0, z0)) (P : pj_P B A K z H lo) (hl : lv_has ls 3 [(0, .ref (B.2.1 0))]) : pj_W K H lo 76 ls [] := by
  unfold Md_product_76 at h
  refine pj_aload_n C dd_Md_product_76 rfl hl 0 rfl ?_
  refine pj_iconst (v := (nI 2)) C dd_Md_product_77 rfl ?_
  obtain ⟨r3, z2, e1, h⟩ := pj_cE h
  refine pj_cVi (st := []) [.int (nI 2)] C P 0 (LM0 hB) rfl (ct_Md_bad hB e1) cl_Md_155 rfl (by decide) (by decide) hl.1 (Nat.le_of_ble_eq_true rfl) dd_Md_product_78 (fun H lo P => ?_)
  exact pj_zret C Q P h dd_Md_product_81
set_option maxHeartbeats 4000000 in
set_option maxRecDepth 100000 in
theorem bt_Md_product_112 {B : pj_B} {A : Nat → Prop} {K : pj_K} {r0 : Int32} {z0 : pj_S} (hB : B.2.2.2.1 = pj_LM) (C : pj_C B A K cX11_product 3 RX11 12) (Q : pj_Qi B A K (some .boolean) r0 z0) (s9 : pj_S → Option (Int32 × pj_S)) (k9 : ∀  (z : pj_S) (H : Heap) (lo : List Loc) (ls : Array Slot), s9  z = some (r0, z0) → pj_P B A K z H lo → lv_has ls 3 [(0, .ref (B.2.1 0))] → pj_W K H lo 9 ls [])  (z : pj_S) (H : Heap) (lo : List Loc) (ls : Array Slot) (h : Md_product_112 s9 z = some (r0, z0)) (P : pj_P B A K z H lo) (hl : lv_has ls 3 [(0, .ref (B.2.1 0))]) : pj_W K H lo 112 ls [] := by
  unfold Md_product_112 at h
  refine pj_goto C dd_Md_product_112 ?_
  exact k9 _ _ _ _ h P (lv_sub hl [0] rfl)
set_option maxHeartbeats 4000000 in
set_option maxRecDepth 100000 in
theorem bt_Md_product_44 {B : pj_B} {A : Nat → Prop} {K : pj_K} {r0 : Int32} {z0 : pj_S} (hB : B.2.2.2.1 = pj_LM) (C : pj_C B A K cX11_product 3 RX11 12) (Q : pj_Qi B A K (some .boolean) r0 z0) (s9 : pj_S → Option (Int32 × pj_S)) (k9 : ∀  (z : pj_S) (H : Heap) (lo : List Loc) (ls : Array Slot), s9  z = some (r0, z0) → pj_P B A K z H lo → lv_has ls 3 [(0, .ref (B.2.1 0))] → pj_W K H lo 9 ls []) (t0 : Int32) (z : pj_S) (H : Heap) (lo : List Loc) (ls : Array Slot) (h : Md_product_44 s9 t0 z = some (r0, z0)) (P : pj_P B A K z H lo) (hl : lv_has ls 3 [(0, .ref (B.2.1 0))]) : pj_W K H lo 44 ls [.int t0] := by
  unfold Md_product_44 at h
  refine pj_istore_n [(1, .int t0), (0, .ref (B.2.1 0))] C dd_Md_product_44 rfl hl (by decide) rfl (fun ls hl => ?_)
  refine pj_aload_n C dd_Md_product_45 rfl hl 1 rfl ?_
  obtain ⟨r3, z2, e1, h⟩ := pj_cE h
  refine pj_cVv (st := []) [] C P 0 (LM0 hB) rfl (ct_Md_next0 hB e1) cl_Md_158 rfl (by decide) (by decide) hl.1 (Nat.le_of_ble_eq_true rfl) dd_Md_product_46 (fun H lo P => ?_)
  refine pj_iload_n C dd_Md_product_49 rfl hl 0 rfl ?_
  refine pj_if_eq C h dd_Md_product_50 (fun h => ?_) (fun h => ?_)
  · refine pj_aload_n C dd_Md_product_96 rfl hl 1 rfl ?_
    obtain ⟨r6, z5, e4, h⟩ := pj_cE h
    refine pj_cVi (st := []) [] C P 0 (LM0 hB) rfl (ct_Md_unit hB e4) cl_Md_174 rfl (by decide) (by decide) hl.1 (Nat.le_of_ble_eq_true rfl) dd_Md_product_97 (fun H lo P => ?_)
    refine pj_if_ne C h dd_Md_product_100 (fun h => ?_) (fun h => ?_)
    · refine pj_aload_n C dd_Md_product_105 rfl hl 1 rfl ?_
      refine pj_bipush (v := (nI 15)) C dd_Md_product_106 rfl ?_
      refine pj_iconst (v := (nI 0)) C dd_Md_product_108 rfl ?_
      obtain ⟨r9, z8, e7, h⟩ := pj_cE h
      refine pj_cVv (st := []) [.int (nI 15), .int (nI 0)] C P 0 (LM0 hB) rfl (ct_Md_lay hB e7) cl_Md_171 rfl (by decide) (by decide) hl.1 (Nat.le_of_ble_eq_true rfl) dd_Md_product_109 (fun H lo P => ?_)
      exact bt_Md_product_112 hB C Q s9 k9 _ _ _ _ h P (lv_sub hl [1] rfl)
    · refine pj_iconst (v := (nI 0)) C dd_Md_product_103 rfl ?_
      exact pj_zret C Q P h dd_Md_product_104
  · refine pj_aload_n C dd_Md_product_53 rfl hl 1 rfl ?_
    refine pj_getI C P 0 (LM0 hB) rfl fl_Md_146 dd_Md_product_54 ?_
    refine pj_istb_n [(1, .int t0), (0, .ref (B.2.1 0))] C h dd_Md_product_57 rfl hl (by decide) rfl (fun x10 ls h hl => ?_)
    refine pj_aload_n C dd_Md_product_58 rfl hl 2 rfl ?_
    refine pj_getI C P 0 (LM0 hB) rfl fl_Md_134 dd_Md_product_59 ?_
    refine pj_iconst (v := (nI 2)) C dd_Md_product_62 rfl ?_
    refine pj_ic_eq C h dd_Md_product_63 (fun h => ?_) (fun h => ?_)
    · refine pj_iload_n C dd_Md_product_72 rfl hl 0 rfl ?_
      refine pj_if_ne C h dd_Md_product_73 (fun h => ?_) (fun h => ?_)
      · refine pj_aload_n C dd_Md_product_82 rfl hl 2 rfl ?_
        obtain ⟨r13, z12, e11, h⟩ := pj_cE h
        refine pj_cVv (st := []) [] C P 0 (LM0 hB) rfl (ct_Md_next0 hB e11) cl_Md_158 rfl (by decide) (by decide) hl.1 (Nat.le_of_ble_eq_true rfl) dd_Md_product_83 (fun H lo P => ?_)
        refine pj_aload_n C dd_Md_product_86 rfl hl 2 rfl ?_
        refine pj_bipush (v := (nI 16)) C dd_Md_product_87 rfl ?_
        refine pj_iload_n C dd_Md_product_89 rfl hl 0 rfl ?_
        obtain ⟨r16, z15, e14, h⟩ := pj_cE h
        refine pj_cVv (st := []) [.int (nI 16), .int x10] C P 0 (LM0 hB) rfl (ct_Md_lay hB e14) cl_Md_171 rfl (by decide) (by decide) hl.1 (Nat.le_of_ble_eq_true rfl) dd_Md_product_90 (fun H lo P => ?_)
        refine pj_goto C dd_Md_product_93 ?_
        exact bt_Md_product_112 hB C Q s9 k9 _ _ _ _ h P (lv_sub hl [2] rfl)
      · exact bt_Md_product_76 hB C Q _ _ _ _ h P (lv_sub hl [2] rfl)
    · exact bt_Md_product_66 hB C Q _ _ _ _ h P (lv_sub hl [2] rfl)
set_option maxHeartbeats 4000000 in
set_option maxRecDepth 100000 in
theorem bt_Md_product_29 {B : pj_B} {A : Nat → Prop} {K : pj_K} {r0 : Int32} {z0 : pj_S} (hB : B.2.2.2.1 = pj_LM) (C : pj_C B A K cX11_product 3 RX11 12) (Q : pj_Qi B A K (some .boolean) r0 z0) (s9 : pj_S → Option (Int32 × pj_S)) (k9 : ∀  (z : pj_S) (H : Heap) (lo : List Loc) (ls : Array Slot), s9  z = some (r0, z0) → pj_P B A K z H lo → lv_has ls 3 [(0, .ref (B.2.1 0))] → pj_W K H lo 9 ls [])  (z : pj_S) (H : Heap) (lo : List Loc) (ls : Array Slot) (h : Md_product_29 s9 z = some (r0, z0)) (P : pj_P B A K z H lo) (hl : lv_has ls 3 [(0, .ref (B.2.1 0))]) : pj_W K H lo 29 ls [] := by
  unfold Md_product_29 at h
  refine pj_aload_n C dd_Md_product_29 rfl hl 0 rfl ?_
  refine pj_getI C P 0 (LM0 hB) rfl fl_Md_134 dd_Md_product_30 ?_
  refine pj_sipush (v := (nI 147)) C dd_Md_product_33 rfl ?_
  refine pj_ic_ne C h dd_Md_product_36 (fun h => ?_) (fun h => ?_)
  · refine pj_iconst (v := (nI 0)) C dd_Md_product_43 rfl ?_
    exact bt_Md_product_44 hB C Q s9 k9 _ _ _ _ _ h P (lv_sub hl [0] rfl)
  · refine pj_iconst (v := (nI 1)) C dd_Md_product_39 rfl ?_
    refine pj_goto C dd_Md_product_40 ?_
    exact bt_Md_product_44 hB C Q s9 k9 _ _ _ _ _ h P (lv_sub hl [0] rfl)
set_option maxHeartbeats 4000000 in
set_option maxRecDepth 100000 in
theorem bt_Md_product_9 {B : pj_B} {A : Nat → Prop} {K : pj_K} {r0 : Int32} {z0 : pj_S} (hB : B.2.2.2.1 = pj_LM) (C : pj_C B A K cX11_product 3 RX11 12) (Q : pj_Qi B A K (some .boolean) r0 z0) (s9 : pj_S → Option (Int32 × pj_S)) (k9 : ∀  (z : pj_S) (H : Heap) (lo : List Loc) (ls : Array Slot), s9  z = some (r0, z0) → pj_P B A K z H lo → lv_has ls 3 [(0, .ref (B.2.1 0))] → pj_W K H lo 9 ls [])  (z : pj_S) (H : Heap) (lo : List Loc) (ls : Array Slot) (h : Md_product_9 s9 z = some (r0, z0)) (P : pj_P B A K z H lo) (hl : lv_has ls 3 [(0, .ref (B.2.1 0))]) : pj_W K H lo 9 ls [] := by
  unfold Md_product_9 at h
  refine pj_aload_n C dd_Md_product_9 rfl hl 0 rfl ?_
  refine pj_getI C P 0 (LM0 hB) rfl fl_Md_134 dd_Md_product_10 ?_
  refine pj_sipush (v := (nI 142)) C dd_Md_product_13 rfl ?_
  refine pj_ic_eq C h dd_Md_product_16 (fun h => ?_) (fun h => ?_)
  · exact bt_Md_product_29 hB C Q s9 k9 _ _ _ _ h P (lv_sub hl [0] rfl)
  · refine pj_aload_n C dd_Md_product_19 rfl hl 0 rfl ?_
    refine pj_getI C P 0 (LM0 hB) rfl fl_Md_134 dd_Md_product_20 ?_
    refine pj_sipush (v := (nI 147)) C dd_Md_product_23 rfl ?_
    refine pj_ic_ne C h dd_Md_product_26 (fun h => ?_) (fun h => ?_)
    · refine pj_iconst (v := (nI 1)) C dd_Md_product_115 rfl ?_
      exact pj_zret C Q P h dd_Md_product_116
    · exact bt_Md_product_29 hB C Q s9 k9 _ _ _ _ h P (lv_sub hl [0] rfl)
theorem lt_Md_product_9 {B : pj_B} {A : Nat → Prop} {K : pj_K} {r0 : Int32} {z0 : pj_S} (hB : B.2.2.2.1 = pj_LM) (C : pj_C B A K cX11_product 3 RX11 12) (Q : pj_Qi B A K (some .boolean) r0 z0)  : ∀ (n : Nat)  (z : pj_S) (H : Heap) (lo : List Loc) (ls : Array Slot), pj_lp0 Md_product_9 n  z = some (r0, z0) → pj_P B A K z H lo → lv_has ls 3 [(0, .ref (B.2.1 0))] → pj_W K H lo 9 ls [] := by
  intro n
  induction n with
  | zero => intro  z H lo ls h; rw [pj_lp0_0] at h; cases h
  | succ n ih =>
    intro  z H lo ls h P hl
    rw [pj_lp0_s] at h
    exact bt_Md_product_9 hB C Q   (pj_lp0 Md_product_9 n) ih  z H lo ls h P hl
set_option maxHeartbeats 4000000 in
set_option maxRecDepth 100000 in
theorem ct_Md_product {l : Launch} {B : pj_B} (hB : B.2.2.2.1 = pj_LM)  {z : pj_S} {r0 : Int32} {z0 : pj_S} (h : Md_product z = some (r0, z0)) : pj_Mi l yX11_product cX11_product 3 (some .boolean) 12 [.ref (B.2.1 0)] B z r0 z0 := by
  refine pj_meti (own := RX11) (by decide +kernel) rfl (Nat.le_of_ble_eq_true rfl) ?_
  intro A K hK C Q H lo ls P hl
  have hl : lv_has ls 3 [(0, .ref (B.2.1 0))] := hl
  unfold Md_product at h
  refine pj_aload_n C dd_Md_product_0 rfl hl 0 rfl ?_
  obtain ⟨r3, z2, e1, h⟩ := pj_cE h
  refine pj_cVi (st := []) [] C P 0 (LM0 hB) rfl (ct_Md_unit hB e1) cl_Md_174 rfl (by decide) (by decide) hl.1 (Nat.le_of_ble_eq_true rfl) dd_Md_product_1 (fun H lo P => ?_)
  refine pj_if_ne C h dd_Md_product_4 (fun h => ?_) (fun h => ?_)
  · exact lt_Md_product_9 hB C Q 4000 _ _ _ _ h P (lv_sub hl [0] rfl)
  · refine pj_iconst (v := (nI 0)) C dd_Md_product_7 rfl ?_
    exact pj_zret C Q P h dd_Md_product_8
theorem dd_Md_sumUp_0 : pj_d cX11_sumUp 0 (.aload_n 0) 1 1 := ⟨by decide +kernel, rfl⟩
theorem dd_Md_sumUp_1 : pj_d cX11_sumUp 1 (.invokevirtual 167) 3 4 := ⟨by decide +kernel, rfl⟩
theorem dd_Md_sumUp_4 : pj_dj cX11_sumUp 4 (.ifCond .ne 5) 5 7 9 := ⟨by decide +kernel, rfl, by decide⟩
theorem dd_Md_sumUp_7 : pj_d cX11_sumUp 7 (.iconst 0) 1 8 := ⟨by decide +kernel, rfl⟩
theorem dd_Md_sumUp_8 : pj_d cX11_sumUp 8 (.ireturn) 1 9 := ⟨by decide +kernel, rfl⟩
theorem dd_Md_sumUp_9 : pj_d cX11_sumUp 9 (.aload_n 0) 1 10 := ⟨by decide +kernel, rfl⟩
theorem dd_Md_sumUp_10 : pj_d cX11_sumUp 10 (.getfield 134) 3 13 := ⟨by decide +kernel, rfl⟩
theorem dd_Md_sumUp_13 : pj_d cX11_sumUp 13 (.sipush 143) 3 16 := ⟨by decide +kernel, rfl⟩
theorem dd_Md_sumUp_16 : pj_dj cX11_sumUp 16 (.if_icmp .eq 13) 13 19 29 := ⟨by decide +kernel, rfl, by decide⟩
theorem dd_Md_sumUp_19 : pj_d cX11_sumUp 19 (.aload_n 0) 1 20 := ⟨by decide +kernel, rfl⟩
theorem dd_Md_sumUp_20 : pj_d cX11_sumUp 20 (.getfield 134) 3 23 := ⟨by decide +kernel, rfl⟩
theorem dd_Md_sumUp_23 : pj_d cX11_sumUp 23 (.sipush 145) 3 26 := ⟨by decide +kernel, rfl⟩
theorem dd_Md_sumUp_26 : pj_dj cX11_sumUp 26 (.if_icmp .ne 43) 43 29 69 := ⟨by decide +kernel, rfl, by decide⟩
theorem dd_Md_sumUp_29 : pj_d cX11_sumUp 29 (.aload_n 0) 1 30 := ⟨by decide +kernel, rfl⟩
theorem dd_Md_sumUp_30 : pj_d cX11_sumUp 30 (.getfield 134) 3 33 := ⟨by decide +kernel, rfl⟩
theorem dd_Md_sumUp_33 : pj_d cX11_sumUp 33 (.sipush 143) 3 36 := ⟨by decide +kernel, rfl⟩
theorem dd_Md_sumUp_36 : pj_dj cX11_sumUp 36 (.if_icmp .ne 8) 8 39 44 := ⟨by decide +kernel, rfl, by decide⟩
theorem dd_Md_sumUp_39 : pj_d cX11_sumUp 39 (.bipush 13) 2 41 := ⟨by decide +kernel, rfl⟩
theorem dd_Md_sumUp_41 : pj_dj cX11_sumUp 41 (.goto 5) 5 44 46 := ⟨by decide +kernel, rfl, by decide⟩
theorem dd_Md_sumUp_44 : pj_d cX11_sumUp 44 (.bipush 14) 2 46 := ⟨by decide +kernel, rfl⟩
theorem dd_Md_sumUp_46 : pj_d cX11_sumUp 46 (.istore_n 1) 1 47 := ⟨by decide +kernel, rfl⟩
theorem dd_Md_sumUp_47 : pj_d cX11_sumUp 47 (.aload_n 0) 1 48 := ⟨by decide +kernel, rfl⟩
theorem dd_Md_sumUp_48 : pj_d cX11_sumUp 48 (.invokevirtual 158) 3 51 := ⟨by decide +kernel, rfl⟩
theorem dd_Md_sumUp_51 : pj_d cX11_sumUp 51 (.aload_n 0) 1 52 := ⟨by decide +kernel, rfl⟩
theorem dd_Md_sumUp_52 : pj_d cX11_sumUp 52 (.invokevirtual 167) 3 55 := ⟨by decide +kernel, rfl⟩
theorem dd_Md_sumUp_55 : pj_dj cX11_sumUp 55 (.ifCond .ne 5) 5 58 60 := ⟨by decide +kernel, rfl, by decide⟩
theorem dd_Md_sumUp_58 : pj_d cX11_sumUp 58 (.iconst 0) 1 59 := ⟨by decide +kernel, rfl⟩
theorem dd_Md_sumUp_59 : pj_d cX11_sumUp 59 (.ireturn) 1 60 := ⟨by decide +kernel, rfl⟩
theorem dd_Md_sumUp_60 : pj_d cX11_sumUp 60 (.aload_n 0) 1 61 := ⟨by decide +kernel, rfl⟩
theorem dd_Md_sumUp_61 : pj_d cX11_sumUp 61 (.iload_n 1) 1 62 := ⟨by decide +kernel, rfl⟩
theorem dd_Md_sumUp_62 : pj_d cX11_sumUp 62 (.iconst 0) 1 63 := ⟨by decide +kernel, rfl⟩
theorem dd_Md_sumUp_63 : pj_d cX11_sumUp 63 (.invokevirtual 171) 3 66 := ⟨by decide +kernel, rfl⟩
theorem dd_Md_sumUp_66 : pj_dj cX11_sumUp 66 (.goto (-57)) (-57) 69 9 := ⟨by decide +kernel, rfl, by decide⟩
theorem dd_Md_sumUp_69 : pj_d cX11_sumUp 69 (.iconst 1) 1 70 := ⟨by decide +kernel, rfl⟩
theorem dd_Md_sumUp_70 : pj_d cX11_sumUp 70 (.ireturn) 1 71 := ⟨by decide +kernel, rfl⟩
set_option maxHeartbeats 4000000 in
set_option maxRecDepth 100000 in
theorem bt_Md_sumUp_46 {B : pj_B} {A : Nat → Prop} {K : pj_K} {r0 : Int32} {z0 : pj_S} (hB : B.2.2.2.1 = pj_LM) (C : pj_C B A K cX11_sumUp 2 RX11 13) (Q : pj_Qi B A K (some .boolean) r0 z0) (s9 : pj_S → Option (Int32 × pj_S)) (k9 : ∀  (z : pj_S) (H : Heap) (lo : List Loc) (ls : Array Slot), s9  z = some (r0, z0) → pj_P B A K z H lo → lv_has ls 2 [(0, .ref (B.2.1 0))] → pj_W K H lo 9 ls []) (t0 : Int32) (z : pj_S) (H : Heap) (lo : List Loc) (ls : Array Slot) (h : Md_sumUp_46 s9 t0 z = some (r0, z0)) (P : pj_P B A K z H lo) (hl : lv_has ls 2 [(0, .ref (B.2.1 0))]) : pj_W K H lo 46 ls [.int t0] := by
  unfold Md_sumUp_46 at h
  refine pj_istore_n [(1, .int t0), (0, .ref (B.2.1 0))] C dd_Md_sumUp_46 rfl hl (by decide) rfl (fun ls hl => ?_)
  refine pj_aload_n C dd_Md_sumUp_47 rfl hl 1 rfl ?_
  obtain ⟨r3, z2, e1, h⟩ := pj_cE h
  refine pj_cVv (st := []) [] C P 0 (LM0 hB) rfl (ct_Md_next0 hB e1) cl_Md_158 rfl (by decide) (by decide) hl.1 (Nat.le_of_ble_eq_true rfl) dd_Md_sumUp_48 (fun H lo P => ?_)
  refine pj_aload_n C dd_Md_sumUp_51 rfl hl 1 rfl ?_
  obtain ⟨r6, z5, e4, h⟩ := pj_cE h
  refine pj_cVi (st := []) [] C P 0 (LM0 hB) rfl (ct_Md_product hB e4) cl_Md_167 rfl (by decide) (by decide) hl.1 (Nat.le_of_ble_eq_true rfl) dd_Md_sumUp_52 (fun H lo P => ?_)
  refine pj_if_ne C h dd_Md_sumUp_55 (fun h => ?_) (fun h => ?_)
  · refine pj_aload_n C dd_Md_sumUp_60 rfl hl 1 rfl ?_
    refine pj_iload_n C dd_Md_sumUp_61 rfl hl 0 rfl ?_
    refine pj_iconst (v := (nI 0)) C dd_Md_sumUp_62 rfl ?_
    obtain ⟨r9, z8, e7, h⟩ := pj_cE h
    refine pj_cVv (st := []) [.int t0, .int (nI 0)] C P 0 (LM0 hB) rfl (ct_Md_lay hB e7) cl_Md_171 rfl (by decide) (by decide) hl.1 (Nat.le_of_ble_eq_true rfl) dd_Md_sumUp_63 (fun H lo P => ?_)
    refine pj_goto C dd_Md_sumUp_66 ?_
    exact k9 _ _ _ _ h P (lv_sub hl [1] rfl)
  · refine pj_iconst (v := (nI 0)) C dd_Md_sumUp_58 rfl ?_
    exact pj_zret C Q P h dd_Md_sumUp_59
set_option maxHeartbeats 4000000 in
set_option maxRecDepth 100000 in
theorem bt_Md_sumUp_29 {B : pj_B} {A : Nat → Prop} {K : pj_K} {r0 : Int32} {z0 : pj_S} (hB : B.2.2.2.1 = pj_LM) (C : pj_C B A K cX11_sumUp 2 RX11 13) (Q : pj_Qi B A K (some .boolean) r0 z0) (s9 : pj_S → Option (Int32 × pj_S)) (k9 : ∀  (z : pj_S) (H : Heap) (lo : List Loc) (ls : Array Slot), s9  z = some (r0, z0) → pj_P B A K z H lo → lv_has ls 2 [(0, .ref (B.2.1 0))] → pj_W K H lo 9 ls [])  (z : pj_S) (H : Heap) (lo : List Loc) (ls : Array Slot) (h : Md_sumUp_29 s9 z = some (r0, z0)) (P : pj_P B A K z H lo) (hl : lv_has ls 2 [(0, .ref (B.2.1 0))]) : pj_W K H lo 29 ls [] := by
  unfold Md_sumUp_29 at h
  refine pj_aload_n C dd_Md_sumUp_29 rfl hl 0 rfl ?_
  refine pj_getI C P 0 (LM0 hB) rfl fl_Md_134 dd_Md_sumUp_30 ?_
  refine pj_sipush (v := (nI 143)) C dd_Md_sumUp_33 rfl ?_
  refine pj_ic_ne C h dd_Md_sumUp_36 (fun h => ?_) (fun h => ?_)
  · refine pj_bipush (v := (nI 14)) C dd_Md_sumUp_44 rfl ?_
    exact bt_Md_sumUp_46 hB C Q s9 k9 _ _ _ _ _ h P (lv_sub hl [0] rfl)
  · refine pj_bipush (v := (nI 13)) C dd_Md_sumUp_39 rfl ?_
    refine pj_goto C dd_Md_sumUp_41 ?_
    exact bt_Md_sumUp_46 hB C Q s9 k9 _ _ _ _ _ h P (lv_sub hl [0] rfl)
set_option maxHeartbeats 4000000 in
set_option maxRecDepth 100000 in
theorem bt_Md_sumUp_9 {B : pj_B} {A : Nat → Prop} {K : pj_K} {r0 : Int32} {z0 : pj_S} (hB : B.2.2.2.1 = pj_LM) (C : pj_C B A K cX11_sumUp 2 RX11 13) (Q : pj_Qi B A K (some .boolean) r0 z0) (s9 : pj_S → Option (Int32 × pj_S)) (k9 : ∀  (z : pj_S) (H : Heap) (lo : List Loc) (ls : Array Slot), s9  z = some (r0, z0) → pj_P B A K z H lo → lv_has ls 2 [(0, .ref (B.2.1 0))] → pj_W K H lo 9 ls [])  (z : pj_S) (H : Heap) (lo : List Loc) (ls : Array Slot) (h : Md_sumUp_9 s9 z = some (r0, z0)) (P : pj_P B A K z H lo) (hl : lv_has ls 2 [(0, .ref (B.2.1 0))]) : pj_W K H lo 9 ls [] := by
  unfold Md_sumUp_9 at h
  refine pj_aload_n C dd_Md_sumUp_9 rfl hl 0 rfl ?_
  refine pj_getI C P 0 (LM0 hB) rfl fl_Md_134 dd_Md_sumUp_10 ?_
  refine pj_sipush (v := (nI 143)) C dd_Md_sumUp_13 rfl ?_
  refine pj_ic_eq C h dd_Md_sumUp_16 (fun h => ?_) (fun h => ?_)
  · exact bt_Md_sumUp_29 hB C Q s9 k9 _ _ _ _ h P (lv_sub hl [0] rfl)
  · refine pj_aload_n C dd_Md_sumUp_19 rfl hl 0 rfl ?_
    refine pj_getI C P 0 (LM0 hB) rfl fl_Md_134 dd_Md_sumUp_20 ?_
    refine pj_sipush (v := (nI 145)) C dd_Md_sumUp_23 rfl ?_
    refine pj_ic_ne C h dd_Md_sumUp_26 (fun h => ?_) (fun h => ?_)
    · refine pj_iconst (v := (nI 1)) C dd_Md_sumUp_69 rfl ?_
      exact pj_zret C Q P h dd_Md_sumUp_70
    · exact bt_Md_sumUp_29 hB C Q s9 k9 _ _ _ _ h P (lv_sub hl [0] rfl)
theorem lt_Md_sumUp_9 {B : pj_B} {A : Nat → Prop} {K : pj_K} {r0 : Int32} {z0 : pj_S} (hB : B.2.2.2.1 = pj_LM) (C : pj_C B A K cX11_sumUp 2 RX11 13) (Q : pj_Qi B A K (some .boolean) r0 z0)  : ∀ (n : Nat)  (z : pj_S) (H : Heap) (lo : List Loc) (ls : Array Slot), pj_lp0 Md_sumUp_9 n  z = some (r0, z0) → pj_P B A K z H lo → lv_has ls 2 [(0, .ref (B.2.1 0))] → pj_W K H lo 9 ls [] := by
  intro n
  induction n with
  | zero => intro  z H lo ls h; rw [pj_lp0_0] at h; cases h
  | succ n ih =>
    intro  z H lo ls h P hl
    rw [pj_lp0_s] at h
    exact bt_Md_sumUp_9 hB C Q   (pj_lp0 Md_sumUp_9 n) ih  z H lo ls h P hl
set_option maxHeartbeats 4000000 in
set_option maxRecDepth 100000 in
theorem ct_Md_sumUp {l : Launch} {B : pj_B} (hB : B.2.2.2.1 = pj_LM)  {z : pj_S} {r0 : Int32} {z0 : pj_S} (h : Md_sumUp z = some (r0, z0)) : pj_Mi l yX11_sumUp cX11_sumUp 2 (some .boolean) 13 [.ref (B.2.1 0)] B z r0 z0 := by
  refine pj_meti (own := RX11) (by decide +kernel) rfl (Nat.le_of_ble_eq_true rfl) ?_
  intro A K hK C Q H lo ls P hl
  have hl : lv_has ls 2 [(0, .ref (B.2.1 0))] := hl
  unfold Md_sumUp at h
  refine pj_aload_n C dd_Md_sumUp_0 rfl hl 0 rfl ?_
  obtain ⟨r3, z2, e1, h⟩ := pj_cE h
  refine pj_cVi (st := []) [] C P 0 (LM0 hB) rfl (ct_Md_product hB e1) cl_Md_167 rfl (by decide) (by decide) hl.1 (Nat.le_of_ble_eq_true rfl) dd_Md_sumUp_1 (fun H lo P => ?_)
  refine pj_if_ne C h dd_Md_sumUp_4 (fun h => ?_) (fun h => ?_)
  · exact lt_Md_sumUp_9 hB C Q 4000 _ _ _ _ h P (lv_sub hl [0] rfl)
  · refine pj_iconst (v := (nI 0)) C dd_Md_sumUp_7 rfl ?_
    exact pj_zret C Q P h dd_Md_sumUp_8
