theorem dd_Md_opens_0 : pj_d cX11_opens 0 (.aload_n 0) 1 1 := ⟨by decide +kernel, rfl⟩
theorem dd_Md_opens_1 : pj_d cX11_opens 1 (.getfield 164) 3 4 := ⟨by decide +kernel, rfl⟩
theorem dd_Md_opens_4 : pj_d cX11_opens 4 (.bipush 8) 2 6 := ⟨by decide +kernel, rfl⟩
theorem dd_Md_opens_6 : pj_dj cX11_opens 6 (.if_icmp .ne 9) 9 9 15 := ⟨by decide +kernel, rfl, by decide⟩
theorem dd_Md_opens_9 : pj_d cX11_opens 9 (.aload_n 0) 1 10 := ⟨by decide +kernel, rfl⟩
theorem dd_Md_opens_10 : pj_d cX11_opens 10 (.iconst 3) 1 11 := ⟨by decide +kernel, rfl⟩
theorem dd_Md_opens_11 : pj_d cX11_opens 11 (.invokevirtual 155) 3 14 := ⟨by decide +kernel, rfl⟩
theorem dd_Md_opens_14 : pj_d cX11_opens 14 (.ireturn) 1 15 := ⟨by decide +kernel, rfl⟩
theorem dd_Md_opens_15 : pj_d cX11_opens 15 (.aload_n 0) 1 16 := ⟨by decide +kernel, rfl⟩
theorem dd_Md_opens_16 : pj_d cX11_opens 16 (.dup) 1 17 := ⟨by decide +kernel, rfl⟩
theorem dd_Md_opens_17 : pj_d cX11_opens 17 (.getfield 164) 3 20 := ⟨by decide +kernel, rfl⟩
theorem dd_Md_opens_20 : pj_d cX11_opens 20 (.iconst 1) 1 21 := ⟨by decide +kernel, rfl⟩
theorem dd_Md_opens_21 : pj_d cX11_opens 21 (.iadd) 1 22 := ⟨by decide +kernel, rfl⟩
theorem dd_Md_opens_22 : pj_d cX11_opens 22 (.putfield 164) 3 25 := ⟨by decide +kernel, rfl⟩
theorem dd_Md_opens_25 : pj_d cX11_opens 25 (.aload_n 0) 1 26 := ⟨by decide +kernel, rfl⟩
theorem dd_Md_opens_26 : pj_d cX11_opens 26 (.invokevirtual 158) 3 29 := ⟨by decide +kernel, rfl⟩
theorem dd_Md_opens_29 : pj_d cX11_opens 29 (.iconst 1) 1 30 := ⟨by decide +kernel, rfl⟩
theorem dd_Md_opens_30 : pj_d cX11_opens 30 (.ireturn) 1 31 := ⟨by decide +kernel, rfl⟩
set_option maxHeartbeats 4000000 in
set_option maxRecDepth 100000 in
theorem ct_Md_opens {l : Launch} {B : pj_B} (hB : B.2.2.2.1 = pj_LM)  {z : pj_S} {r0 : Int32} {z0 : pj_S} (h : Md_opens z = some (r0, z0)) : pj_Mi l yX11_opens cX11_opens 1 (some .boolean) 11 [.ref (B.2.1 0)] B z r0 z0 := by
  refine pj_meti (own := RX11) (by decide +kernel) rfl (Nat.le_of_ble_eq_true rfl) ?_
  intro A K hK C Q H lo ls P hl
  have hl : lv_has ls 1 [(0, .ref (B.2.1 0))] := hl
  unfold Md_opens at h
  refine pj_aload_n C dd_Md_opens_0 rfl hl 0 rfl ?_
  refine pj_getI C P 0 (LM0 hB) rfl fl_Md_164 dd_Md_opens_1 ?_
  refine pj_bipush (v := (nI 8)) C dd_Md_opens_4 rfl ?_
  refine pj_ic_ne C h dd_Md_opens_6 (fun h => ?_) (fun h => ?_)
  · refine pj_aload_n C dd_Md_opens_15 rfl hl 0 rfl ?_
    refine pj_dup C dd_Md_opens_16 rfl ?_
    refine pj_getI C P 0 (LM0 hB) rfl fl_Md_164 dd_Md_opens_17 ?_
    refine pj_iconst (v := (nI 1)) C dd_Md_opens_20 rfl ?_
    refine pj_iadd C dd_Md_opens_21 ?_
    refine pj_putI C P 0 (LM0 hB) rfl fl_Md_164 rfl fy_11_20 h dd_Md_opens_22 (fun H lo z1 h P => ?_)
    refine pj_aload_n C dd_Md_opens_25 rfl hl 0 rfl ?_
    obtain ⟨r4, z3, e2, h⟩ := pj_cE h
    refine pj_cVv (st := []) [] C P 0 (LM0 hB) rfl (ct_Md_next0 hB e2) cl_Md_158 rfl (by decide) (by decide) hl.1 (Nat.le_of_ble_eq_true rfl) dd_Md_opens_26 (fun H lo P => ?_)
    refine pj_iconst (v := (nI 1)) C dd_Md_opens_29 rfl ?_
    exact pj_zret C Q P h dd_Md_opens_30
  · refine pj_aload_n C dd_Md_opens_9 rfl hl 0 rfl ?_
    refine pj_iconst (v := (nI 3)) C dd_Md_opens_10 rfl ?_
    obtain ⟨r7, z6, e5, h⟩ := pj_cE h
    refine pj_cVi (st := []) [.int (nI 3)] C P 0 (LM0 hB) rfl (ct_Md_bad hB e5) cl_Md_155 rfl (by decide) (by decide) hl.1 (Nat.le_of_ble_eq_true rfl) dd_Md_opens_11 (fun H lo P => ?_)
    exact pj_zret C Q P h dd_Md_opens_14
theorem dd_Md_every_0 : pj_d cX11_every 0 (.aload_n 0) 1 1 := ⟨by decide +kernel, rfl⟩
theorem dd_Md_every_1 : pj_d cX11_every 1 (.invokevirtual 180) 3 4 := ⟨by decide +kernel, rfl⟩
theorem dd_Md_every_4 : pj_dj cX11_every 4 (.ifCond .ne 5) 5 7 9 := ⟨by decide +kernel, rfl, by decide⟩
theorem dd_Md_every_7 : pj_d cX11_every 7 (.iconst 0) 1 8 := ⟨by decide +kernel, rfl⟩
theorem dd_Md_every_8 : pj_d cX11_every 8 (.ireturn) 1 9 := ⟨by decide +kernel, rfl⟩
theorem dd_Md_every_9 : pj_d cX11_every 9 (.aload_n 0) 1 10 := ⟨by decide +kernel, rfl⟩
theorem dd_Md_every_10 : pj_d cX11_every 10 (.getfield 134) 3 13 := ⟨by decide +kernel, rfl⟩
theorem dd_Md_every_13 : pj_d cX11_every 13 (.iconst 5) 1 14 := ⟨by decide +kernel, rfl⟩
theorem dd_Md_every_14 : pj_dj cX11_every 14 (.if_icmp .ne 26) 26 17 40 := ⟨by decide +kernel, rfl, by decide⟩
theorem dd_Md_every_17 : pj_d cX11_every 17 (.aload_n 0) 1 18 := ⟨by decide +kernel, rfl⟩
theorem dd_Md_every_18 : pj_d cX11_every 18 (.invokevirtual 158) 3 21 := ⟨by decide +kernel, rfl⟩
theorem dd_Md_every_21 : pj_d cX11_every 21 (.aload_n 0) 1 22 := ⟨by decide +kernel, rfl⟩
theorem dd_Md_every_22 : pj_d cX11_every 22 (.invokevirtual 180) 3 25 := ⟨by decide +kernel, rfl⟩
theorem dd_Md_every_25 : pj_dj cX11_every 25 (.ifCond .ne 5) 5 28 30 := ⟨by decide +kernel, rfl, by decide⟩
theorem dd_Md_every_28 : pj_d cX11_every 28 (.iconst 0) 1 29 := ⟨by decide +kernel, rfl⟩
theorem dd_Md_every_29 : pj_d cX11_every 29 (.ireturn) 1 30 := ⟨by decide +kernel, rfl⟩
theorem dd_Md_every_30 : pj_d cX11_every 30 (.aload_n 0) 1 31 := ⟨by decide +kernel, rfl⟩
theorem dd_Md_every_31 : pj_d cX11_every 31 (.bipush 21) 2 33 := ⟨by decide +kernel, rfl⟩
theorem dd_Md_every_33 : pj_d cX11_every 33 (.iconst 0) 1 34 := ⟨by decide +kernel, rfl⟩
theorem dd_Md_every_34 : pj_d cX11_every 34 (.invokevirtual 171) 3 37 := ⟨by decide +kernel, rfl⟩
theorem dd_Md_every_37 : pj_dj cX11_every 37 (.goto (-28)) (-28) 40 9 := ⟨by decide +kernel, rfl, by decide⟩
theorem dd_Md_every_40 : pj_d cX11_every 40 (.iconst 1) 1 41 := ⟨by decide +kernel, rfl⟩
theorem dd_Md_every_41 : pj_d cX11_every 41 (.ireturn) 1 42 := ⟨by decide +kernel, rfl⟩
set_option maxHeartbeats 4000000 in
set_option maxRecDepth 100000 in
theorem bt_Md_every_9 {lv0 : Nat} {B : pj_B} {A : Nat → Prop} {K : pj_K} {r0 : Int32} {z0 : pj_S} (hB : B.2.2.2.1 = pj_LM) (C : pj_C B A K cX11_every 1 RX11 (lv0 + 1)) (Q : pj_Qi B A K (some .boolean) r0 z0) (hlv : 13 ≤ lv0) {sR : pj_S → Option (Int32 × pj_S)} (hR : ∀  (z : pj_S) (r : Int32) (z2 : pj_S), sR  z = some (r, z2) → pj_Mi K.2.1 yX11_oneTest cX11_oneTest 2 (some .boolean) lv0 [.ref (B.2.1 0)] B z r z2) (s9 : pj_S → Option (Int32 × pj_S)) (k9 : ∀  (z : pj_S) (H : Heap) (lo : List Loc) (ls : Array Slot), s9  z = some (r0, z0) → pj_P B A K z H lo → lv_has ls 1 [(0, .ref (B.2.1 0))] → pj_W K H lo 9 ls [])  (z : pj_S) (H : Heap) (lo : List Loc) (ls : Array Slot) (h : Md_every_9 sR s9 z = some (r0, z0)) (P : pj_P B A K z H lo) (hl : lv_has ls 1 [(0, .ref (B.2.1 0))]) : pj_W K H lo 9 ls [] := by
  unfold Md_every_9 at h
  refine pj_aload_n C dd_Md_every_9 rfl hl 0 rfl ?_
  refine pj_getI C P 0 (LM0 hB) rfl fl_Md_134 dd_Md_every_10 ?_
  refine pj_iconst (v := (nI 5)) C dd_Md_every_13 rfl ?_
  refine pj_ic_ne C h dd_Md_every_14 (fun h => ?_) (fun h => ?_)
  · refine pj_iconst (v := (nI 1)) C dd_Md_every_40 rfl ?_
    exact pj_zret C Q P h dd_Md_every_41
  · refine pj_aload_n C dd_Md_every_17 rfl hl 0 rfl ?_
    obtain ⟨r3, z2, e1, h⟩ := pj_cE h
    refine pj_cVv (st := []) [] C P 0 (LM0 hB) rfl (ct_Md_next0 hB e1) cl_Md_158 rfl (by omega) (by decide) hl.1 (Nat.le_of_ble_eq_true rfl) dd_Md_every_18 (fun H lo P => ?_)
    refine pj_aload_n C dd_Md_every_21 rfl hl 0 rfl ?_
    obtain ⟨r6, z5, e4, h⟩ := pj_cE h
    refine pj_cVi (st := []) [] C P 0 (LM0 hB) rfl (hR _ _ _ e4) cl_Md_180 rfl (by omega) (by decide) hl.1 (Nat.le_of_ble_eq_true rfl) dd_Md_every_22 (fun H lo P => ?_)
    refine pj_if_ne C h dd_Md_every_25 (fun h => ?_) (fun h => ?_)
    · refine pj_aload_n C dd_Md_every_30 rfl hl 0 rfl ?_
      refine pj_bipush (v := (nI 21)) C dd_Md_every_31 rfl ?_
      refine pj_iconst (v := (nI 0)) C dd_Md_every_33 rfl ?_
      obtain ⟨r9, z8, e7, h⟩ := pj_cE h
      refine pj_cVv (st := []) [.int (nI 21), .int (nI 0)] C P 0 (LM0 hB) rfl (ct_Md_lay hB e7) cl_Md_171 rfl (by omega) (by decide) hl.1 (Nat.le_of_ble_eq_true rfl) dd_Md_every_34 (fun H lo P => ?_)
      refine pj_goto C dd_Md_every_37 ?_
      exact k9 _ _ _ _ h P (lv_sub hl [0] rfl)
    · refine pj_iconst (v := (nI 0)) C dd_Md_every_28 rfl ?_
      exact pj_zret C Q P h dd_Md_every_29
theorem lt_Md_every_9 {lv0 : Nat} {B : pj_B} {A : Nat → Prop} {K : pj_K} {r0 : Int32} {z0 : pj_S} (hB : B.2.2.2.1 = pj_LM) (C : pj_C B A K cX11_every 1 RX11 (lv0 + 1)) (Q : pj_Qi B A K (some .boolean) r0 z0) (hlv : 13 ≤ lv0) {sR : pj_S → Option (Int32 × pj_S)} (hR : ∀  (z : pj_S) (r : Int32) (z2 : pj_S), sR  z = some (r, z2) → pj_Mi K.2.1 yX11_oneTest cX11_oneTest 2 (some .boolean) lv0 [.ref (B.2.1 0)] B z r z2)  : ∀ (n : Nat)  (z : pj_S) (H : Heap) (lo : List Loc) (ls : Array Slot), pj_lp0 (Md_every_9 sR) n  z = some (r0, z0) → pj_P B A K z H lo → lv_has ls 1 [(0, .ref (B.2.1 0))] → pj_W K H lo 9 ls [] := by
  intro n
  induction n with
  | zero => intro  z H lo ls h; rw [pj_lp0_0] at h; cases h
  | succ n ih =>
    intro  z H lo ls h P hl
    rw [pj_lp0_s] at h
    exact bt_Md_every_9 hB C Q hlv hR  (pj_lp0 (Md_every_9 sR) n) ih  z H lo ls h P hl
set_option maxHeartbeats 4000000 in
set_option maxRecDepth 100000 in
theorem ct_Md_every {l : Launch} {B : pj_B} (hB : B.2.2.2.1 = pj_LM) {lv0 : Nat} (hlv : 13 ≤ lv0) {sR : pj_S → Option (Int32 × pj_S)} (hR : ∀  (z : pj_S) (r : Int32) (z2 : pj_S), sR  z = some (r, z2) → pj_Mi l yX11_oneTest cX11_oneTest 2 (some .boolean) lv0 [.ref (B.2.1 0)] B z r z2)  {z : pj_S} {r0 : Int32} {z0 : pj_S} (h : Md_every sR z = some (r0, z0)) : pj_Mi l yX11_every cX11_every 1 (some .boolean) (lv0 + 1) [.ref (B.2.1 0)] B z r0 z0 := by
  refine pj_meti (own := RX11) (by decide +kernel) rfl (Nat.le_of_ble_eq_true rfl) ?_
  intro A K hK C Q H lo ls P hl
  subst hK
  have hl : lv_has ls 1 [(0, .ref (B.2.1 0))] := hl
  unfold Md_every at h
  refine pj_aload_n C dd_Md_every_0 rfl hl 0 rfl ?_
  obtain ⟨r3, z2, e1, h⟩ := pj_cE h
  refine pj_cVi (st := []) [] C P 0 (LM0 hB) rfl (hR _ _ _ e1) cl_Md_180 rfl (by omega) (by decide) hl.1 (Nat.le_of_ble_eq_true rfl) dd_Md_every_1 (fun H lo P => ?_)
  refine pj_if_ne C h dd_Md_every_4 (fun h => ?_) (fun h => ?_)
  · exact lt_Md_every_9 hB C Q hlv hR 4000 _ _ _ _ h P (lv_sub hl [0] rfl)
  · refine pj_iconst (v := (nI 0)) C dd_Md_every_7 rfl ?_
    exact pj_zret C Q P h dd_Md_every_8
theorem dd_Md_any_0 : pj_d cX11_any 0 (.aload_n 0) 1 1 := ⟨by decide +kernel, rfl⟩
theorem dd_Md_any_1 : pj_d cX11_any 1 (.invokevirtual 177) 3 4 := ⟨by decide +kernel, rfl⟩
theorem dd_Md_any_4 : pj_dj cX11_any 4 (.ifCond .ne 5) 5 7 9 := ⟨by decide +kernel, rfl, by decide⟩
theorem dd_Md_any_7 : pj_d cX11_any 7 (.iconst 0) 1 8 := ⟨by decide +kernel, rfl⟩
theorem dd_Md_any_8 : pj_d cX11_any 8 (.ireturn) 1 9 := ⟨by decide +kernel, rfl⟩
theorem dd_Md_any_9 : pj_d cX11_any 9 (.aload_n 0) 1 10 := ⟨by decide +kernel, rfl⟩
theorem dd_Md_any_10 : pj_d cX11_any 10 (.getfield 134) 3 13 := ⟨by decide +kernel, rfl⟩
theorem dd_Md_any_13 : pj_d cX11_any 13 (.iconst 4) 1 14 := ⟨by decide +kernel, rfl⟩
theorem dd_Md_any_14 : pj_dj cX11_any 14 (.if_icmp .ne 26) 26 17 40 := ⟨by decide +kernel, rfl, by decide⟩
theorem dd_Md_any_17 : pj_d cX11_any 17 (.aload_n 0) 1 18 := ⟨by decide +kernel, rfl⟩
theorem dd_Md_any_18 : pj_d cX11_any 18 (.invokevirtual 158) 3 21 := ⟨by decide +kernel, rfl⟩
theorem dd_Md_any_21 : pj_d cX11_any 21 (.aload_n 0) 1 22 := ⟨by decide +kernel, rfl⟩
theorem dd_Md_any_22 : pj_d cX11_any 22 (.invokevirtual 177) 3 25 := ⟨by decide +kernel, rfl⟩
theorem dd_Md_any_25 : pj_dj cX11_any 25 (.ifCond .ne 5) 5 28 30 := ⟨by decide +kernel, rfl, by decide⟩
theorem dd_Md_any_28 : pj_d cX11_any 28 (.iconst 0) 1 29 := ⟨by decide +kernel, rfl⟩
theorem dd_Md_any_29 : pj_d cX11_any 29 (.ireturn) 1 30 := ⟨by decide +kernel, rfl⟩
theorem dd_Md_any_30 : pj_d cX11_any 30 (.aload_n 0) 1 31 := ⟨by decide +kernel, rfl⟩
theorem dd_Md_any_31 : pj_d cX11_any 31 (.bipush 22) 2 33 := ⟨by decide +kernel, rfl⟩
theorem dd_Md_any_33 : pj_d cX11_any 33 (.iconst 0) 1 34 := ⟨by decide +kernel, rfl⟩
theorem dd_Md_any_34 : pj_d cX11_any 34 (.invokevirtual 171) 3 37 := ⟨by decide +kernel, rfl⟩
theorem dd_Md_any_37 : pj_dj cX11_any 37 (.goto (-28)) (-28) 40 9 := ⟨by decide +kernel, rfl, by decide⟩
theorem dd_Md_any_40 : pj_d cX11_any 40 (.iconst 1) 1 41 := ⟨by decide +kernel, rfl⟩
theorem dd_Md_any_41 : pj_d cX11_any 41 (.ireturn) 1 42 := ⟨by decide +kernel, rfl⟩
set_option maxHeartbeats 4000000 in
set_option maxRecDepth 100000 in
theorem bt_Md_any_9 {lv0 : Nat} {B : pj_B} {A : Nat → Prop} {K : pj_K} {r0 : Int32} {z0 : pj_S} (hB : B.2.2.2.1 = pj_LM) (C : pj_C B A K cX11_any 1 RX11 (lv0 + 2)) (Q : pj_Qi B A K (some .boolean) r0 z0) (hlv : 13 ≤ lv0) {sR : pj_S → Option (Int32 × pj_S)} (hR : ∀  (z : pj_S) (r : Int32) (z2 : pj_S), sR  z = some (r, z2) → pj_Mi K.2.1 yX11_oneTest cX11_oneTest 2 (some .boolean) lv0 [.ref (B.2.1 0)] B z r z2) (s9 : pj_S → Option (Int32 × pj_S)) (k9 : ∀  (z : pj_S) (H : Heap) (lo : List Loc) (ls : Array Slot), s9  z = some (r0, z0) → pj_P B A K z H lo → lv_has ls 1 [(0, .ref (B.2.1 0))] → pj_W K H lo 9 ls [])  (z : pj_S) (H : Heap) (lo : List Loc) (ls : Array Slot) (h : Md_any_9 sR s9 z = some (r0, z0)) (P : pj_P B A K z H lo) (hl : lv_has ls 1 [(0, .ref (B.2.1 0))]) : pj_W K H lo 9 ls [] := by
  unfold Md_any_9 at h
  refine pj_aload_n C dd_Md_any_9 rfl hl 0 rfl ?_
  refine pj_getI C P 0 (LM0 hB) rfl fl_Md_134 dd_Md_any_10 ?_
  refine pj_iconst (v := (nI 4)) C dd_Md_any_13 rfl ?_
  refine pj_ic_ne C h dd_Md_any_14 (fun h => ?_) (fun h => ?_)
  · refine pj_iconst (v := (nI 1)) C dd_Md_any_40 rfl ?_
    exact pj_zret C Q P h dd_Md_any_41
  · refine pj_aload_n C dd_Md_any_17 rfl hl 0 rfl ?_
    obtain ⟨r3, z2, e1, h⟩ := pj_cE h
    refine pj_cVv (st := []) [] C P 0 (LM0 hB) rfl (ct_Md_next0 hB e1) cl_Md_158 rfl (by omega) (by decide) hl.1 (Nat.le_of_ble_eq_true rfl) dd_Md_any_18 (fun H lo P => ?_)
    refine pj_aload_n C dd_Md_any_21 rfl hl 0 rfl ?_
    obtain ⟨r6, z5, e4, h⟩ := pj_cE h
    refine pj_cVi (st := []) [] C P 0 (LM0 hB) rfl (ct_Md_every hB hlv hR e4) cl_Md_177 rfl (by omega) (by decide) hl.1 (Nat.le_of_ble_eq_true rfl) dd_Md_any_22 (fun H lo P => ?_)
    refine pj_if_ne C h dd_Md_any_25 (fun h => ?_) (fun h => ?_)
    · refine pj_aload_n C dd_Md_any_30 rfl hl 0 rfl ?_
      refine pj_bipush (v := (nI 22)) C dd_Md_any_31 rfl ?_
      refine pj_iconst (v := (nI 0)) C dd_Md_any_33 rfl ?_
      obtain ⟨r9, z8, e7, h⟩ := pj_cE h
      refine pj_cVv (st := []) [.int (nI 22), .int (nI 0)] C P 0 (LM0 hB) rfl (ct_Md_lay hB e7) cl_Md_171 rfl (by omega) (by decide) hl.1 (Nat.le_of_ble_eq_true rfl) dd_Md_any_34 (fun H lo P => ?_)
      refine pj_goto C dd_Md_any_37 ?_
      exact k9 _ _ _ _ h P (lv_sub hl [0] rfl)
    · refine pj_iconst (v := (nI 0)) C dd_Md_any_28 rfl ?_
      exact pj_zret C Q P h dd_Md_any_29
theorem lt_Md_any_9 {lv0 : Nat} {B : pj_B} {A : Nat → Prop} {K : pj_K} {r0 : Int32} {z0 : pj_S} (hB : B.2.2.2.1 = pj_LM) (C : pj_C B A K cX11_any 1 RX11 (lv0 + 2)) (Q : pj_Qi B A K (some .boolean) r0 z0) (hlv : 13 ≤ lv0) {sR : pj_S → Option (Int32 × pj_S)} (hR : ∀  (z : pj_S) (r : Int32) (z2 : pj_S), sR  z = some (r, z2) → pj_Mi K.2.1 yX11_oneTest cX11_oneTest 2 (some .boolean) lv0 [.ref (B.2.1 0)] B z r z2)  : ∀ (n : Nat)  (z : pj_S) (H : Heap) (lo : List Loc) (ls : Array Slot), pj_lp0 (Md_any_9 sR) n  z = some (r0, z0) → pj_P B A K z H lo → lv_has ls 1 [(0, .ref (B.2.1 0))] → pj_W K H lo 9 ls [] := by
  intro n
  induction n with
  | zero => intro  z H lo ls h; rw [pj_lp0_0] at h; cases h
  | succ n ih =>
    intro  z H lo ls h P hl
    rw [pj_lp0_s] at h
    exact bt_Md_any_9 hB C Q hlv hR  (pj_lp0 (Md_any_9 sR) n) ih  z H lo ls h P hl
set_option maxHeartbeats 4000000 in
set_option maxRecDepth 100000 in
theorem ct_Md_any {l : Launch} {B : pj_B} (hB : B.2.2.2.1 = pj_LM) {lv0 : Nat} (hlv : 13 ≤ lv0) {sR : pj_S → Option (Int32 × pj_S)} (hR : ∀  (z : pj_S) (r : Int32) (z2 : pj_S), sR  z = some (r, z2) → pj_Mi l yX11_oneTest cX11_oneTest 2 (some .boolean) lv0 [.ref (B.2.1 0)] B z r z2)  {z : pj_S} {r0 : Int32} {z0 : pj_S} (h : Md_any sR z = some (r0, z0)) : pj_Mi l yX11_any cX11_any 1 (some .boolean) (lv0 + 2) [.ref (B.2.1 0)] B z r0 z0 := by
  refine pj_meti (own := RX11) (by decide +kernel) rfl (Nat.le_of_ble_eq_true rfl) ?_
  intro A K hK C Q H lo ls P hl
  subst hK
  have hl : lv_has ls 1 [(0, .ref (B.2.1 0))] := hl
  unfold Md_any at h
  refine pj_aload_n C dd_Md_any_0 rfl hl 0 rfl ?_
  obtain ⟨r3, z2, e1, h⟩ := pj_cE h
  refine pj_cVi (st := []) [] C P 0 (LM0 hB) rfl (ct_Md_every hB hlv hR e1) cl_Md_177 rfl (by omega) (by decide) hl.1 (Nat.le_of_ble_eq_true rfl) dd_Md_any_1 (fun H lo P => ?_)
  refine pj_if_ne C h dd_Md_any_4 (fun h => ?_) (fun h => ?_)
  · exact lt_Md_any_9 hB C Q hlv hR 4000 _ _ _ _ h P (lv_sub hl [0] rfl)
  · refine pj_iconst (v := (nI 0)) C dd_Md_any_7 rfl ?_
    exact pj_zret C Q P h dd_Md_any_8
theorem dd_Md_oneTest_0 : pj_d cX11_oneTest 0 (.aload_n 0) 1 1 := ⟨by decide +kernel, rfl⟩
theorem dd_Md_oneTest_1 : pj_d cX11_oneTest 1 (.getfield 134) 3 4 := ⟨by decide +kernel, rfl⟩
theorem dd_Md_oneTest_4 : pj_d cX11_oneTest 4 (.bipush 6) 2 6 := ⟨by decide +kernel, rfl⟩
theorem dd_Md_oneTest_6 : pj_dj cX11_oneTest 6 (.if_icmp .ne 38) 38 9 44 := ⟨by decide +kernel, rfl, by decide⟩
theorem dd_Md_oneTest_9 : pj_d cX11_oneTest 9 (.aload_n 0) 1 10 := ⟨by decide +kernel, rfl⟩
theorem dd_Md_oneTest_10 : pj_d cX11_oneTest 10 (.invokevirtual 183) 3 13 := ⟨by decide +kernel, rfl⟩
theorem dd_Md_oneTest_13 : pj_dj cX11_oneTest 13 (.ifCond .eq 10) 10 16 23 := ⟨by decide +kernel, rfl, by decide⟩
theorem dd_Md_oneTest_16 : pj_d cX11_oneTest 16 (.aload_n 0) 1 17 := ⟨by decide +kernel, rfl⟩
theorem dd_Md_oneTest_17 : pj_d cX11_oneTest 17 (.invokevirtual 180) 3 20 := ⟨by decide +kernel, rfl⟩
theorem dd_Md_oneTest_20 : pj_dj cX11_oneTest 20 (.ifCond .ne 5) 5 23 25 := ⟨by decide +kernel, rfl, by decide⟩
theorem dd_Md_oneTest_23 : pj_d cX11_oneTest 23 (.iconst 0) 1 24 := ⟨by decide +kernel, rfl⟩
theorem dd_Md_oneTest_24 : pj_d cX11_oneTest 24 (.ireturn) 1 25 := ⟨by decide +kernel, rfl⟩
theorem dd_Md_oneTest_25 : pj_d cX11_oneTest 25 (.aload_n 0) 1 26 := ⟨by decide +kernel, rfl⟩
theorem dd_Md_oneTest_26 : pj_d cX11_oneTest 26 (.dup) 1 27 := ⟨by decide +kernel, rfl⟩
theorem dd_Md_oneTest_27 : pj_d cX11_oneTest 27 (.getfield 164) 3 30 := ⟨by decide +kernel, rfl⟩
theorem dd_Md_oneTest_30 : pj_d cX11_oneTest 30 (.iconst 1) 1 31 := ⟨by decide +kernel, rfl⟩
theorem dd_Md_oneTest_31 : pj_d cX11_oneTest 31 (.isub) 1 32 := ⟨by decide +kernel, rfl⟩
theorem dd_Md_oneTest_32 : pj_d cX11_oneTest 32 (.putfield 164) 3 35 := ⟨by decide +kernel, rfl⟩
theorem dd_Md_oneTest_35 : pj_d cX11_oneTest 35 (.aload_n 0) 1 36 := ⟨by decide +kernel, rfl⟩
theorem dd_Md_oneTest_36 : pj_d cX11_oneTest 36 (.bipush 20) 2 38 := ⟨by decide +kernel, rfl⟩
theorem dd_Md_oneTest_38 : pj_d cX11_oneTest 38 (.iconst 0) 1 39 := ⟨by decide +kernel, rfl⟩
theorem dd_Md_oneTest_39 : pj_d cX11_oneTest 39 (.invokevirtual 171) 3 42 := ⟨by decide +kernel, rfl⟩
theorem dd_Md_oneTest_42 : pj_d cX11_oneTest 42 (.iconst 1) 1 43 := ⟨by decide +kernel, rfl⟩
theorem dd_Md_oneTest_43 : pj_d cX11_oneTest 43 (.ireturn) 1 44 := ⟨by decide +kernel, rfl⟩
theorem dd_Md_oneTest_44 : pj_d cX11_oneTest 44 (.aload_n 0) 1 45 := ⟨by decide +kernel, rfl⟩
theorem dd_Md_oneTest_45 : pj_d cX11_oneTest 45 (.getfield 134) 3 48 := ⟨by decide +kernel, rfl⟩
theorem dd_Md_oneTest_48 : pj_d cX11_oneTest 48 (.sipush 140) 3 51 := ⟨by decide +kernel, rfl⟩
theorem dd_Md_oneTest_51 : pj_dj cX11_oneTest 51 (.if_icmp .ne 41) 41 54 92 := ⟨by decide +kernel, rfl, by decide⟩
theorem dd_Md_oneTest_54 : pj_d cX11_oneTest 54 (.aload_n 0) 1 55 := ⟨by decide +kernel, rfl⟩
theorem dd_Md_oneTest_55 : pj_d cX11_oneTest 55 (.invokevirtual 183) 3 58 := ⟨by decide +kernel, rfl⟩
theorem dd_Md_oneTest_58 : pj_dj cX11_oneTest 58 (.ifCond .eq 20) 20 61 78 := ⟨by decide +kernel, rfl, by decide⟩
theorem dd_Md_oneTest_61 : pj_d cX11_oneTest 61 (.aload_n 0) 1 62 := ⟨by decide +kernel, rfl⟩
theorem dd_Md_oneTest_62 : pj_d cX11_oneTest 62 (.invokevirtual 186) 3 65 := ⟨by decide +kernel, rfl⟩
theorem dd_Md_oneTest_65 : pj_dj cX11_oneTest 65 (.ifCond .eq 13) 13 68 78 := ⟨by decide +kernel, rfl, by decide⟩
theorem dd_Md_oneTest_68 : pj_d cX11_oneTest 68 (.aload_n 0) 1 69 := ⟨by decide +kernel, rfl⟩
theorem dd_Md_oneTest_69 : pj_d cX11_oneTest 69 (.sipush 141) 3 72 := ⟨by decide +kernel, rfl⟩
theorem dd_Md_oneTest_72 : pj_d cX11_oneTest 72 (.invokevirtual 189) 3 75 := ⟨by decide +kernel, rfl⟩
theorem dd_Md_oneTest_75 : pj_dj cX11_oneTest 75 (.ifCond .ne 5) 5 78 80 := ⟨by decide +kernel, rfl, by decide⟩
theorem dd_Md_oneTest_78 : pj_d cX11_oneTest 78 (.iconst 0) 1 79 := ⟨by decide +kernel, rfl⟩
theorem dd_Md_oneTest_79 : pj_d cX11_oneTest 79 (.ireturn) 1 80 := ⟨by decide +kernel, rfl⟩
theorem dd_Md_oneTest_80 : pj_d cX11_oneTest 80 (.aload_n 0) 1 81 := ⟨by decide +kernel, rfl⟩
theorem dd_Md_oneTest_81 : pj_d cX11_oneTest 81 (.dup) 1 82 := ⟨by decide +kernel, rfl⟩
theorem dd_Md_oneTest_82 : pj_d cX11_oneTest 82 (.getfield 164) 3 85 := ⟨by decide +kernel, rfl⟩
theorem dd_Md_oneTest_85 : pj_d cX11_oneTest 85 (.iconst 1) 1 86 := ⟨by decide +kernel, rfl⟩
theorem dd_Md_oneTest_86 : pj_d cX11_oneTest 86 (.isub) 1 87 := ⟨by decide +kernel, rfl⟩
theorem dd_Md_oneTest_87 : pj_d cX11_oneTest 87 (.putfield 164) 3 90 := ⟨by decide +kernel, rfl⟩
theorem dd_Md_oneTest_90 : pj_d cX11_oneTest 90 (.iconst 1) 1 91 := ⟨by decide +kernel, rfl⟩
theorem dd_Md_oneTest_91 : pj_d cX11_oneTest 91 (.ireturn) 1 92 := ⟨by decide +kernel, rfl⟩
theorem dd_Md_oneTest_92 : pj_d cX11_oneTest 92 (.aload_n 0) 1 93 := ⟨by decide +kernel, rfl⟩
theorem dd_Md_oneTest_93 : pj_d cX11_oneTest 93 (.invokevirtual 192) 3 96 := ⟨by decide +kernel, rfl⟩
theorem dd_Md_oneTest_96 : pj_dj cX11_oneTest 96 (.ifCond .ne 5) 5 99 101 := ⟨by decide +kernel, rfl, by decide⟩
theorem dd_Md_oneTest_99 : pj_d cX11_oneTest 99 (.iconst 0) 1 100 := ⟨by decide +kernel, rfl⟩
theorem dd_Md_oneTest_100 : pj_d cX11_oneTest 100 (.ireturn) 1 101 := ⟨by decide +kernel, rfl⟩
theorem dd_Md_oneTest_101 : pj_d cX11_oneTest 101 (.aload_n 0) 1 102 := ⟨by decide +kernel, rfl⟩
theorem dd_Md_oneTest_102 : pj_d cX11_oneTest 102 (.getfield 134) 3 105 := ⟨by decide +kernel, rfl⟩
theorem dd_Md_oneTest_105 : pj_d cX11_oneTest 105 (.sipush 160) 3 108 := ⟨by decide +kernel, rfl⟩
theorem dd_Md_oneTest_108 : pj_dj cX11_oneTest 108 (.if_icmp .ne 8) 8 111 116 := ⟨by decide +kernel, rfl, by decide⟩
theorem dd_Md_oneTest_111 : pj_d cX11_oneTest 111 (.bipush 17) 2 113 := ⟨by decide +kernel, rfl⟩
theorem dd_Md_oneTest_113 : pj_dj cX11_oneTest 113 (.goto 34) 34 116 147 := ⟨by decide +kernel, rfl, by decide⟩
theorem dd_Md_oneTest_116 : pj_d cX11_oneTest 116 (.aload_n 0) 1 117 := ⟨by decide +kernel, rfl⟩
theorem dd_Md_oneTest_117 : pj_d cX11_oneTest 117 (.getfield 134) 3 120 := ⟨by decide +kernel, rfl⟩
theorem dd_Md_oneTest_120 : pj_d cX11_oneTest 120 (.sipush 161) 3 123 := ⟨by decide +kernel, rfl⟩
theorem dd_Md_oneTest_123 : pj_dj cX11_oneTest 123 (.if_icmp .ne 8) 8 126 131 := ⟨by decide +kernel, rfl, by decide⟩
theorem dd_Md_oneTest_126 : pj_d cX11_oneTest 126 (.bipush 18) 2 128 := ⟨by decide +kernel, rfl⟩
theorem dd_Md_oneTest_128 : pj_dj cX11_oneTest 128 (.goto 19) 19 131 147 := ⟨by decide +kernel, rfl, by decide⟩
theorem dd_Md_oneTest_131 : pj_d cX11_oneTest 131 (.aload_n 0) 1 132 := ⟨by decide +kernel, rfl⟩
theorem dd_Md_oneTest_132 : pj_d cX11_oneTest 132 (.getfield 134) 3 135 := ⟨by decide +kernel, rfl⟩
theorem dd_Md_oneTest_135 : pj_d cX11_oneTest 135 (.sipush 162) 3 138 := ⟨by decide +kernel, rfl⟩
theorem dd_Md_oneTest_138 : pj_dj cX11_oneTest 138 (.if_icmp .ne 8) 8 141 146 := ⟨by decide +kernel, rfl, by decide⟩
theorem dd_Md_oneTest_141 : pj_d cX11_oneTest 141 (.bipush 19) 2 143 := ⟨by decide +kernel, rfl⟩
theorem dd_Md_oneTest_143 : pj_dj cX11_oneTest 143 (.goto 4) 4 146 147 := ⟨by decide +kernel, rfl, by decide⟩
theorem dd_Md_oneTest_146 : pj_d cX11_oneTest 146 (.iconst (-1)) 1 147 := ⟨by decide +kernel, rfl⟩
theorem dd_Md_oneTest_147 : pj_d cX11_oneTest 147 (.istore_n 1) 1 148 := ⟨by decide +kernel, rfl⟩
theorem dd_Md_oneTest_148 : pj_d cX11_oneTest 148 (.iload_n 1) 1 149 := ⟨by decide +kernel, rfl⟩
theorem dd_Md_oneTest_149 : pj_d cX11_oneTest 149 (.iconst (-1)) 1 150 := ⟨by decide +kernel, rfl⟩
theorem dd_Md_oneTest_150 : pj_dj cX11_oneTest 150 (.if_icmp .ne 9) 9 153 159 := ⟨by decide +kernel, rfl, by decide⟩
theorem dd_Md_oneTest_153 : pj_d cX11_oneTest 153 (.aload_n 0) 1 154 := ⟨by decide +kernel, rfl⟩
theorem dd_Md_oneTest_154 : pj_d cX11_oneTest 154 (.iconst 1) 1 155 := ⟨by decide +kernel, rfl⟩
theorem dd_Md_oneTest_155 : pj_d cX11_oneTest 155 (.invokevirtual 155) 3 158 := ⟨by decide +kernel, rfl⟩
theorem dd_Md_oneTest_158 : pj_d cX11_oneTest 158 (.ireturn) 1 159 := ⟨by decide +kernel, rfl⟩
theorem dd_Md_oneTest_159 : pj_d cX11_oneTest 159 (.aload_n 0) 1 160 := ⟨by decide +kernel, rfl⟩
theorem dd_Md_oneTest_160 : pj_d cX11_oneTest 160 (.invokevirtual 158) 3 163 := ⟨by decide +kernel, rfl⟩
theorem dd_Md_oneTest_163 : pj_d cX11_oneTest 163 (.aload_n 0) 1 164 := ⟨by decide +kernel, rfl⟩
theorem dd_Md_oneTest_164 : pj_d cX11_oneTest 164 (.invokevirtual 192) 3 167 := ⟨by decide +kernel, rfl⟩
theorem dd_Md_oneTest_167 : pj_dj cX11_oneTest 167 (.ifCond .ne 5) 5 170 172 := ⟨by decide +kernel, rfl, by decide⟩
theorem dd_Md_oneTest_170 : pj_d cX11_oneTest 170 (.iconst 0) 1 171 := ⟨by decide +kernel, rfl⟩
theorem dd_Md_oneTest_171 : pj_d cX11_oneTest 171 (.ireturn) 1 172 := ⟨by decide +kernel, rfl⟩
theorem dd_Md_oneTest_172 : pj_d cX11_oneTest 172 (.aload_n 0) 1 173 := ⟨by decide +kernel, rfl⟩
theorem dd_Md_oneTest_173 : pj_d cX11_oneTest 173 (.iload_n 1) 1 174 := ⟨by decide +kernel, rfl⟩
theorem dd_Md_oneTest_174 : pj_d cX11_oneTest 174 (.iconst 0) 1 175 := ⟨by decide +kernel, rfl⟩
theorem dd_Md_oneTest_175 : pj_d cX11_oneTest 175 (.invokevirtual 171) 3 178 := ⟨by decide +kernel, rfl⟩
theorem dd_Md_oneTest_178 : pj_d cX11_oneTest 178 (.iconst 1) 1 179 := ⟨by decide +kernel, rfl⟩
theorem dd_Md_oneTest_179 : pj_d cX11_oneTest 179 (.ireturn) 1 180 := ⟨by decide +kernel, rfl⟩
set_option maxHeartbeats 4000000 in
set_option maxRecDepth 100000 in
theorem bt_Md_oneTest_147 {lv0 : Nat} {B : pj_B} {A : Nat → Prop} {K : pj_K} {r0 : Int32} {z0 : pj_S} (hB : B.2.2.2.1 = pj_LM) (C : pj_C B A K cX11_oneTest 2 RX11 (lv0 + 3)) (Q : pj_Qi B A K (some .boolean) r0 z0) (hlv : 13 ≤ lv0) {sR : pj_S → Option (Int32 × pj_S)} (hR : ∀  (z : pj_S) (r : Int32) (z2 : pj_S), sR  z = some (r, z2) → pj_Mi K.2.1 yX11_oneTest cX11_oneTest 2 (some .boolean) lv0 [.ref (B.2.1 0)] B z r z2)  (t0 : Int32) (z : pj_S) (H : Heap) (lo : List Loc) (ls : Array Slot) (h : Md_oneTest_147 sR t0 z = some (r0, z0)) (P : pj_P B A K z H lo) (hl : lv_has ls 2 [(0, .ref (B.2.1 0))]) : pj_W K H lo 147 ls [.int t0] := by
  unfold Md_oneTest_147 at h
  refine pj_istore_n [(1, .int t0), (0, .ref (B.2.1 0))] C dd_Md_oneTest_147 rfl hl (by decide) rfl (fun ls hl => ?_)
  refine pj_iload_n C dd_Md_oneTest_148 rfl hl 0 rfl ?_
  refine pj_iconst (v := (-1 : Int32)) C dd_Md_oneTest_149 rfl ?_
  refine pj_ic_ne C h dd_Md_oneTest_150 (fun h => ?_) (fun h => ?_)
  · refine pj_aload_n C dd_Md_oneTest_159 rfl hl 1 rfl ?_
    obtain ⟨r3, z2, e1, h⟩ := pj_cE h
    refine pj_cVv (st := []) [] C P 0 (LM0 hB) rfl (ct_Md_next0 hB e1) cl_Md_158 rfl (by omega) (by decide) hl.1 (Nat.le_of_ble_eq_true rfl) dd_Md_oneTest_160 (fun H lo P => ?_)
    refine pj_aload_n C dd_Md_oneTest_163 rfl hl 1 rfl ?_
    obtain ⟨r6, z5, e4, h⟩ := pj_cE h
    refine pj_cVi (st := []) [] C P 0 (LM0 hB) rfl (ct_Md_sumUp hB e4) cl_Md_192 rfl (by omega) (by decide) hl.1 (Nat.le_of_ble_eq_true rfl) dd_Md_oneTest_164 (fun H lo P => ?_)
    refine pj_if_ne C h dd_Md_oneTest_167 (fun h => ?_) (fun h => ?_)
    · refine pj_aload_n C dd_Md_oneTest_172 rfl hl 1 rfl ?_
      refine pj_iload_n C dd_Md_oneTest_173 rfl hl 0 rfl ?_
      refine pj_iconst (v := (nI 0)) C dd_Md_oneTest_174 rfl ?_
      obtain ⟨r9, z8, e7, h⟩ := pj_cE h
      refine pj_cVv (st := []) [.int t0, .int (nI 0)] C P 0 (LM0 hB) rfl (ct_Md_lay hB e7) cl_Md_171 rfl (by omega) (by decide) hl.1 (Nat.le_of_ble_eq_true rfl) dd_Md_oneTest_175 (fun H lo P => ?_)
      refine pj_iconst (v := (nI 1)) C dd_Md_oneTest_178 rfl ?_
      exact pj_zret C Q P h dd_Md_oneTest_179
    · refine pj_iconst (v := (nI 0)) C dd_Md_oneTest_170 rfl ?_
      exact pj_zret C Q P h dd_Md_oneTest_171
  · refine pj_aload_n C dd_Md_oneTest_153 rfl hl 1 rfl ?_
    refine pj_iconst (v := (nI 1)) C dd_Md_oneTest_154 rfl ?_
    obtain ⟨r12, z11, e10, h⟩ := pj_cE h
    refine pj_cVi (st := []) [.int (nI 1)] C P 0 (LM0 hB) rfl (ct_Md_bad hB e10) cl_Md_155 rfl (by omega) (by decide) hl.1 (Nat.le_of_ble_eq_true rfl) dd_Md_oneTest_155 (fun H lo P => ?_)
    exact pj_zret C Q P h dd_Md_oneTest_158
set_option maxHeartbeats 4000000 in
set_option maxRecDepth 100000 in
theorem ct_Md_oneTest_B {l : Launch} {B : pj_B} (hB : B.2.2.2.1 = pj_LM) {lv0 : Nat} (hlv : 13 ≤ lv0) {sR : pj_S → Option (Int32 × pj_S)} (hR : ∀  (z : pj_S) (r : Int32) (z2 : pj_S), sR  z = some (r, z2) → pj_Mi l yX11_oneTest cX11_oneTest 2 (some .boolean) lv0 [.ref (B.2.1 0)] B z r z2)  {z : pj_S} {r0 : Int32} {z0 : pj_S} (h : Md_oneTest_B sR z = some (r0, z0)) : pj_Mi l yX11_oneTest cX11_oneTest 2 (some .boolean) (lv0 + 3) [.ref (B.2.1 0)] B z r0 z0 := by
  refine pj_meti (own := RX11) (by decide +kernel) rfl (Nat.le_of_ble_eq_true rfl) ?_
  intro A K hK C Q H lo ls P hl
  subst hK
  have hl : lv_has ls 2 [(0, .ref (B.2.1 0))] := hl
  unfold Md_oneTest_B at h
  refine pj_aload_n C dd_Md_oneTest_0 rfl hl 0 rfl ?_
  refine pj_getI C P 0 (LM0 hB) rfl fl_Md_134 dd_Md_oneTest_1 ?_
  refine pj_bipush (v := (nI 6)) C dd_Md_oneTest_4 rfl ?_
  refine pj_ic_ne C h dd_Md_oneTest_6 (fun h => ?_) (fun h => ?_)
  · refine pj_aload_n C dd_Md_oneTest_44 rfl hl 0 rfl ?_
    refine pj_getI C P 0 (LM0 hB) rfl fl_Md_134 dd_Md_oneTest_45 ?_
    refine pj_sipush (v := (nI 140)) C dd_Md_oneTest_48 rfl ?_
    refine pj_ic_ne C h dd_Md_oneTest_51 (fun h => ?_) (fun h => ?_)
    · refine pj_aload_n C dd_Md_oneTest_92 rfl hl 0 rfl ?_
      obtain ⟨r3, z2, e1, h⟩ := pj_cE h
      refine pj_cVi (st := []) [] C P 0 (LM0 hB) rfl (ct_Md_sumUp hB e1) cl_Md_192 rfl (by omega) (by decide) hl.1 (Nat.le_of_ble_eq_true rfl) dd_Md_oneTest_93 (fun H lo P => ?_)
      refine pj_if_ne C h dd_Md_oneTest_96 (fun h => ?_) (fun h => ?_)
      · refine pj_aload_n C dd_Md_oneTest_101 rfl hl 0 rfl ?_
        refine pj_getI C P 0 (LM0 hB) rfl fl_Md_134 dd_Md_oneTest_102 ?_
        refine pj_sipush (v := (nI 160)) C dd_Md_oneTest_105 rfl ?_
        refine pj_ic_ne C h dd_Md_oneTest_108 (fun h => ?_) (fun h => ?_)
        · refine pj_aload_n C dd_Md_oneTest_116 rfl hl 0 rfl ?_
          refine pj_getI C P 0 (LM0 hB) rfl fl_Md_134 dd_Md_oneTest_117 ?_
          refine pj_sipush (v := (nI 161)) C dd_Md_oneTest_120 rfl ?_
          refine pj_ic_ne C h dd_Md_oneTest_123 (fun h => ?_) (fun h => ?_)
          · refine pj_aload_n C dd_Md_oneTest_131 rfl hl 0 rfl ?_
            refine pj_getI C P 0 (LM0 hB) rfl fl_Md_134 dd_Md_oneTest_132 ?_
            refine pj_sipush (v := (nI 162)) C dd_Md_oneTest_135 rfl ?_
            refine pj_ic_ne C h dd_Md_oneTest_138 (fun h => ?_) (fun h => ?_)
            · refine pj_iconst (v := (-1 : Int32)) C dd_Md_oneTest_146 rfl ?_
              exact bt_Md_oneTest_147 hB C Q hlv hR _ _ _ _ _ h P (lv_sub hl [0] rfl)
            · refine pj_bipush (v := (nI 19)) C dd_Md_oneTest_141 rfl ?_
              refine pj_goto C dd_Md_oneTest_143 ?_
              exact bt_Md_oneTest_147 hB C Q hlv hR _ _ _ _ _ h P (lv_sub hl [0] rfl)
          · refine pj_bipush (v := (nI 18)) C dd_Md_oneTest_126 rfl ?_
            refine pj_goto C dd_Md_oneTest_128 ?_
            exact bt_Md_oneTest_147 hB C Q hlv hR _ _ _ _ _ h P (lv_sub hl [0] rfl)
        · refine pj_bipush (v := (nI 17)) C dd_Md_oneTest_111 rfl ?_
          refine pj_goto C dd_Md_oneTest_113 ?_
          exact bt_Md_oneTest_147 hB C Q hlv hR _ _ _ _ _ h P (lv_sub hl [0] rfl)
      · refine pj_iconst (v := (nI 0)) C dd_Md_oneTest_99 rfl ?_
        exact pj_zret C Q P h dd_Md_oneTest_100
    · refine pj_aload_n C dd_Md_oneTest_54 rfl hl 0 rfl ?_
      obtain ⟨r6, z5, e4, h⟩ := pj_cE h
      refine pj_cVi (st := []) [] C P 0 (LM0 hB) rfl (ct_Md_opens hB e4) cl_Md_183 rfl (by omega) (by decide) hl.1 (Nat.le_of_ble_eq_true rfl) dd_Md_oneTest_55 (fun H lo P => ?_)
      refine pj_if_eq C h dd_Md_oneTest_58 (fun h => ?_) (fun h => ?_)
      · refine pj_iconst (v := (nI 0)) C dd_Md_oneTest_78 rfl ?_
        exact pj_zret C Q P h dd_Md_oneTest_79
      · refine pj_aload_n C dd_Md_oneTest_61 rfl hl 0 rfl ?_
        obtain ⟨r9, z8, e7, h⟩ := pj_cE h
        refine pj_cVi (st := []) [] C P 0 (LM0 hB) rfl (ct_Md_any hB hlv hR e7) cl_Md_186 rfl (by omega) (by decide) hl.1 (Nat.le_of_ble_eq_true rfl) dd_Md_oneTest_62 (fun H lo P => ?_)
        refine pj_if_eq C h dd_Md_oneTest_65 (fun h => ?_) (fun h => ?_)
        · refine pj_iconst (v := (nI 0)) C dd_Md_oneTest_78 rfl ?_
          exact pj_zret C Q P h dd_Md_oneTest_79
        · refine pj_aload_n C dd_Md_oneTest_68 rfl hl 0 rfl ?_
          refine pj_sipush (v := (nI 141)) C dd_Md_oneTest_69 rfl ?_
          obtain ⟨r12, z11, e10, h⟩ := pj_cE h
          refine pj_cVi (st := []) [.int (nI 141)] C P 0 (LM0 hB) rfl (ct_Md_need hB e10) cl_Md_189 rfl (by omega) (by decide) hl.1 (Nat.le_of_ble_eq_true rfl) dd_Md_oneTest_72 (fun H lo P => ?_)
          refine pj_if_ne C h dd_Md_oneTest_75 (fun h => ?_) (fun h => ?_)
          · refine pj_aload_n C dd_Md_oneTest_80 rfl hl 0 rfl ?_
            refine pj_dup C dd_Md_oneTest_81 rfl ?_
            refine pj_getI C P 0 (LM0 hB) rfl fl_Md_164 dd_Md_oneTest_82 ?_
            refine pj_iconst (v := (nI 1)) C dd_Md_oneTest_85 rfl ?_
            refine pj_isub C dd_Md_oneTest_86 ?_
            refine pj_putI C P 0 (LM0 hB) rfl fl_Md_164 rfl fy_11_20 h dd_Md_oneTest_87 (fun H lo z13 h P => ?_)
            refine pj_iconst (v := (nI 1)) C dd_Md_oneTest_90 rfl ?_
            exact pj_zret C Q P h dd_Md_oneTest_91
          · refine pj_iconst (v := (nI 0)) C dd_Md_oneTest_78 rfl ?_
            exact pj_zret C Q P h dd_Md_oneTest_79
  · refine pj_aload_n C dd_Md_oneTest_9 rfl hl 0 rfl ?_
    obtain ⟨r16, z15, e14, h⟩ := pj_cE h
    refine pj_cVi (st := []) [] C P 0 (LM0 hB) rfl (ct_Md_opens hB e14) cl_Md_183 rfl (by omega) (by decide) hl.1 (Nat.le_of_ble_eq_true rfl) dd_Md_oneTest_10 (fun H lo P => ?_)
    refine pj_if_eq C h dd_Md_oneTest_13 (fun h => ?_) (fun h => ?_)
    · refine pj_iconst (v := (nI 0)) C dd_Md_oneTest_23 rfl ?_
      exact pj_zret C Q P h dd_Md_oneTest_24
    · refine pj_aload_n C dd_Md_oneTest_16 rfl hl 0 rfl ?_
      obtain ⟨r19, z18, e17, h⟩ := pj_cE h
      refine pj_cVi (st := []) [] C P 0 (LM0 hB) rfl (hR _ _ _ e17) cl_Md_180 rfl (by omega) (by decide) hl.1 (Nat.le_of_ble_eq_true rfl) dd_Md_oneTest_17 (fun H lo P => ?_)
      refine pj_if_ne C h dd_Md_oneTest_20 (fun h => ?_) (fun h => ?_)
      · refine pj_aload_n C dd_Md_oneTest_25 rfl hl 0 rfl ?_
        refine pj_dup C dd_Md_oneTest_26 rfl ?_
        refine pj_getI C P 0 (LM0 hB) rfl fl_Md_164 dd_Md_oneTest_27 ?_
        refine pj_iconst (v := (nI 1)) C dd_Md_oneTest_30 rfl ?_
        refine pj_isub C dd_Md_oneTest_31 ?_
        refine pj_putI C P 0 (LM0 hB) rfl fl_Md_164 rfl fy_11_20 h dd_Md_oneTest_32 (fun H lo z20 h P => ?_)
        refine pj_aload_n C dd_Md_oneTest_35 rfl hl 0 rfl ?_
        refine pj_bipush (v := (nI 20)) C dd_Md_oneTest_36 rfl ?_
        refine pj_iconst (v := (nI 0)) C dd_Md_oneTest_38 rfl ?_
        obtain ⟨r23, z22, e21, h⟩ := pj_cE h
        refine pj_cVv (st := []) [.int (nI 20), .int (nI 0)] C P 0 (LM0 hB) rfl (ct_Md_lay hB e21) cl_Md_171 rfl (by omega) (by decide) hl.1 (Nat.le_of_ble_eq_true rfl) dd_Md_oneTest_39 (fun H lo P => ?_)
        refine pj_iconst (v := (nI 1)) C dd_Md_oneTest_42 rfl ?_
        exact pj_zret C Q P h dd_Md_oneTest_43
      · refine pj_iconst (v := (nI 0)) C dd_Md_oneTest_23 rfl ?_
        exact pj_zret C Q P h dd_Md_oneTest_24
theorem ct_Md_oneTest_d {l : Launch} {B : pj_B} (hB : B.2.2.2.1 = pj_LM) : ∀ (d : Nat)  (z : pj_S) (r0 : Int32) (z0 : pj_S), pj_lp0 Md_oneTest_B d  z = some (r0, z0) → pj_Mi l yX11_oneTest cX11_oneTest 2 (some .boolean) (13 + 3 * d) [.ref (B.2.1 0)] B z r0 z0 := by
  intro d
  induction d with
  | zero => intro  z r0 z0 h; rw [pj_lp0_0] at h; cases h
  | succ d ih =>
    intro  z r0 z0 h
    rw [pj_lp0_s] at h
    exact ct_Md_oneTest_B hB (lv0 := 13 + 3 * d) (Nat.le_add_right _ _) ih h
theorem ct_Md_oneTest_o {l : Launch} {B : pj_B} (hB : B.2.2.2.1 = pj_LM)  {z : pj_S} {r0 : Int32} {z0 : pj_S} (h : Md_oneTest_o  z = some (r0, z0)) : pj_Mi l yX11_oneTest cX11_oneTest 2 (some .boolean) 49 [.ref (B.2.1 0)] B z r0 z0 := ct_Md_oneTest_d hB 12 _ _ _ h
theorem ct_Md_any_o {l : Launch} {B : pj_B} (hB : B.2.2.2.1 = pj_LM)  {z : pj_S} {r0 : Int32} {z0 : pj_S} (h : Md_any_o  z = some (r0, z0)) : pj_Mi l yX11_any cX11_any 1 (some .boolean) 51 [.ref (B.2.1 0)] B z r0 z0 := ct_Md_any hB (lv0 := 49) (by decide) (ct_Md_oneTest_d hB 12) h
theorem ct_Md_every_o {l : Launch} {B : pj_B} (hB : B.2.2.2.1 = pj_LM)  {z : pj_S} {r0 : Int32} {z0 : pj_S} (h : Md_every_o  z = some (r0, z0)) : pj_Mi l yX11_every cX11_every 1 (some .boolean) 50 [.ref (B.2.1 0)] B z r0 z0 := ct_Md_every hB (lv0 := 49) (by decide) (ct_Md_oneTest_d hB 12) h
theorem dd_Md_aLine_0 : pj_d cX11_aLine 0 (.aload_n 0) 1 1 := ⟨by decide +kernel, rfl⟩
theorem dd_Md_aLine_1 : pj_d cX11_aLine 1 (.getfield 134) 3 4 := ⟨by decide +kernel, rfl⟩
theorem dd_Md_aLine_4 : pj_d cX11_aLine 4 (.bipush 20) 2 6 := ⟨by decide +kernel, rfl⟩
theorem dd_Md_aLine_6 : pj_dj cX11_aLine 6 (.if_icmp .eq 9) 9 9 15 := ⟨by decide +kernel, rfl, by decide⟩
theorem dd_Md_aLine_9 : pj_d cX11_aLine 9 (.aload_n 0) 1 10 := ⟨by decide +kernel, rfl⟩
theorem dd_Md_aLine_10 : pj_d cX11_aLine 10 (.iconst 1) 1 11 := ⟨by decide +kernel, rfl⟩
theorem dd_Md_aLine_11 : pj_d cX11_aLine 11 (.invokevirtual 155) 3 14 := ⟨by decide +kernel, rfl⟩
theorem dd_Md_aLine_14 : pj_d cX11_aLine 14 (.ireturn) 1 15 := ⟨by decide +kernel, rfl⟩
theorem dd_Md_aLine_15 : pj_d cX11_aLine 15 (.aload_n 0) 1 16 := ⟨by decide +kernel, rfl⟩
theorem dd_Md_aLine_16 : pj_d cX11_aLine 16 (.getfield 195) 3 19 := ⟨by decide +kernel, rfl⟩
theorem dd_Md_aLine_19 : pj_d cX11_aLine 19 (.bipush 16) 2 21 := ⟨by decide +kernel, rfl⟩
theorem dd_Md_aLine_21 : pj_dj cX11_aLine 21 (.if_icmp .ne 9) 9 24 30 := ⟨by decide +kernel, rfl, by decide⟩
theorem dd_Md_aLine_24 : pj_d cX11_aLine 24 (.aload_n 0) 1 25 := ⟨by decide +kernel, rfl⟩
theorem dd_Md_aLine_25 : pj_d cX11_aLine 25 (.iconst 3) 1 26 := ⟨by decide +kernel, rfl⟩
theorem dd_Md_aLine_26 : pj_d cX11_aLine 26 (.invokevirtual 155) 3 29 := ⟨by decide +kernel, rfl⟩
theorem dd_Md_aLine_29 : pj_d cX11_aLine 29 (.ireturn) 1 30 := ⟨by decide +kernel, rfl⟩
theorem dd_Md_aLine_30 : pj_d cX11_aLine 30 (.aload_n 0) 1 31 := ⟨by decide +kernel, rfl⟩
theorem dd_Md_aLine_31 : pj_d cX11_aLine 31 (.iconst 0) 1 32 := ⟨by decide +kernel, rfl⟩
theorem dd_Md_aLine_32 : pj_d cX11_aLine 32 (.putfield 164) 3 35 := ⟨by decide +kernel, rfl⟩
theorem dd_Md_aLine_35 : pj_d cX11_aLine 35 (.aload_n 0) 1 36 := ⟨by decide +kernel, rfl⟩
theorem dd_Md_aLine_36 : pj_d cX11_aLine 36 (.invokevirtual 158) 3 39 := ⟨by decide +kernel, rfl⟩
theorem dd_Md_aLine_39 : pj_d cX11_aLine 39 (.aload_n 0) 1 40 := ⟨by decide +kernel, rfl⟩
theorem dd_Md_aLine_40 : pj_d cX11_aLine 40 (.getfield 19) 3 43 := ⟨by decide +kernel, rfl⟩
theorem dd_Md_aLine_43 : pj_d cX11_aLine 43 (.iconst 3) 1 44 := ⟨by decide +kernel, rfl⟩
theorem dd_Md_aLine_44 : pj_d cX11_aLine 44 (.aload_n 0) 1 45 := ⟨by decide +kernel, rfl⟩
theorem dd_Md_aLine_45 : pj_d cX11_aLine 45 (.getfield 195) 3 48 := ⟨by decide +kernel, rfl⟩
theorem dd_Md_aLine_48 : pj_d cX11_aLine 48 (.imul) 1 49 := ⟨by decide +kernel, rfl⟩
theorem dd_Md_aLine_49 : pj_d cX11_aLine 49 (.aload_n 0) 1 50 := ⟨by decide +kernel, rfl⟩
theorem dd_Md_aLine_50 : pj_d cX11_aLine 50 (.getfield 161) 3 53 := ⟨by decide +kernel, rfl⟩
theorem dd_Md_aLine_53 : pj_d cX11_aLine 53 (.iastore) 1 54 := ⟨by decide +kernel, rfl⟩
theorem dd_Md_aLine_54 : pj_d cX11_aLine 54 (.aload_n 0) 1 55 := ⟨by decide +kernel, rfl⟩
theorem dd_Md_aLine_55 : pj_d cX11_aLine 55 (.invokevirtual 192) 3 58 := ⟨by decide +kernel, rfl⟩
theorem dd_Md_aLine_58 : pj_dj cX11_aLine 58 (.ifCond .ne 5) 5 61 63 := ⟨by decide +kernel, rfl, by decide⟩
theorem dd_Md_aLine_61 : pj_d cX11_aLine 61 (.iconst 0) 1 62 := ⟨by decide +kernel, rfl⟩
theorem dd_Md_aLine_62 : pj_d cX11_aLine 62 (.ireturn) 1 63 := ⟨by decide +kernel, rfl⟩
theorem dd_Md_aLine_63 : pj_d cX11_aLine 63 (.aload_n 0) 1 64 := ⟨by decide +kernel, rfl⟩
theorem dd_Md_aLine_64 : pj_d cX11_aLine 64 (.getfield 19) 3 67 := ⟨by decide +kernel, rfl⟩
theorem dd_Md_aLine_67 : pj_d cX11_aLine 67 (.iconst 3) 1 68 := ⟨by decide +kernel, rfl⟩
theorem dd_Md_aLine_68 : pj_d cX11_aLine 68 (.aload_n 0) 1 69 := ⟨by decide +kernel, rfl⟩
theorem dd_Md_aLine_69 : pj_d cX11_aLine 69 (.getfield 195) 3 72 := ⟨by decide +kernel, rfl⟩
theorem dd_Md_aLine_72 : pj_d cX11_aLine 72 (.imul) 1 73 := ⟨by decide +kernel, rfl⟩
theorem dd_Md_aLine_73 : pj_d cX11_aLine 73 (.iconst 1) 1 74 := ⟨by decide +kernel, rfl⟩
theorem dd_Md_aLine_74 : pj_d cX11_aLine 74 (.iadd) 1 75 := ⟨by decide +kernel, rfl⟩
theorem dd_Md_aLine_75 : pj_d cX11_aLine 75 (.aload_n 0) 1 76 := ⟨by decide +kernel, rfl⟩
theorem dd_Md_aLine_76 : pj_d cX11_aLine 76 (.getfield 161) 3 79 := ⟨by decide +kernel, rfl⟩
theorem dd_Md_aLine_79 : pj_d cX11_aLine 79 (.iastore) 1 80 := ⟨by decide +kernel, rfl⟩
theorem dd_Md_aLine_80 : pj_d cX11_aLine 80 (.aload_n 0) 1 81 := ⟨by decide +kernel, rfl⟩
theorem dd_Md_aLine_81 : pj_d cX11_aLine 81 (.getfield 134) 3 84 := ⟨by decide +kernel, rfl⟩
theorem dd_Md_aLine_84 : pj_d cX11_aLine 84 (.iconst 3) 1 85 := ⟨by decide +kernel, rfl⟩
theorem dd_Md_aLine_85 : pj_dj cX11_aLine 85 (.if_icmp .ne 16) 16 88 101 := ⟨by decide +kernel, rfl, by decide⟩
theorem dd_Md_aLine_88 : pj_d cX11_aLine 88 (.aload_n 0) 1 89 := ⟨by decide +kernel, rfl⟩
theorem dd_Md_aLine_89 : pj_d cX11_aLine 89 (.invokevirtual 158) 3 92 := ⟨by decide +kernel, rfl⟩
theorem dd_Md_aLine_92 : pj_d cX11_aLine 92 (.aload_n 0) 1 93 := ⟨by decide +kernel, rfl⟩
theorem dd_Md_aLine_93 : pj_d cX11_aLine 93 (.invokevirtual 186) 3 96 := ⟨by decide +kernel, rfl⟩
theorem dd_Md_aLine_96 : pj_dj cX11_aLine 96 (.ifCond .ne 5) 5 99 101 := ⟨by decide +kernel, rfl, by decide⟩
theorem dd_Md_aLine_99 : pj_d cX11_aLine 99 (.iconst 0) 1 100 := ⟨by decide +kernel, rfl⟩
theorem dd_Md_aLine_100 : pj_d cX11_aLine 100 (.ireturn) 1 101 := ⟨by decide +kernel, rfl⟩
theorem dd_Md_aLine_101 : pj_d cX11_aLine 101 (.aload_n 0) 1 102 := ⟨by decide +kernel, rfl⟩
theorem dd_Md_aLine_102 : pj_d cX11_aLine 102 (.getfield 19) 3 105 := ⟨by decide +kernel, rfl⟩
theorem dd_Md_aLine_105 : pj_d cX11_aLine 105 (.iconst 3) 1 106 := ⟨by decide +kernel, rfl⟩
theorem dd_Md_aLine_106 : pj_d cX11_aLine 106 (.aload_n 0) 1 107 := ⟨by decide +kernel, rfl⟩
theorem dd_Md_aLine_107 : pj_d cX11_aLine 107 (.getfield 195) 3 110 := ⟨by decide +kernel, rfl⟩
theorem dd_Md_aLine_110 : pj_d cX11_aLine 110 (.imul) 1 111 := ⟨by decide +kernel, rfl⟩
theorem dd_Md_aLine_111 : pj_d cX11_aLine 111 (.iconst 2) 1 112 := ⟨by decide +kernel, rfl⟩
theorem dd_Md_aLine_112 : pj_d cX11_aLine 112 (.iadd) 1 113 := ⟨by decide +kernel, rfl⟩
theorem dd_Md_aLine_113 : pj_d cX11_aLine 113 (.aload_n 0) 1 114 := ⟨by decide +kernel, rfl⟩
theorem dd_Md_aLine_114 : pj_d cX11_aLine 114 (.getfield 161) 3 117 := ⟨by decide +kernel, rfl⟩
theorem dd_Md_aLine_117 : pj_d cX11_aLine 117 (.iastore) 1 118 := ⟨by decide +kernel, rfl⟩
theorem dd_Md_aLine_118 : pj_d cX11_aLine 118 (.aload_n 0) 1 119 := ⟨by decide +kernel, rfl⟩
theorem dd_Md_aLine_119 : pj_d cX11_aLine 119 (.sipush 159) 3 122 := ⟨by decide +kernel, rfl⟩
theorem dd_Md_aLine_122 : pj_d cX11_aLine 122 (.invokevirtual 189) 3 125 := ⟨by decide +kernel, rfl⟩
theorem dd_Md_aLine_125 : pj_d cX11_aLine 125 (.ireturn) 1 126 := ⟨by decide +kernel, rfl⟩
set_option maxHeartbeats 4000000 in
set_option maxRecDepth 100000 in
theorem bt_Md_aLine_101 {B : pj_B} {A : Nat → Prop} {K : pj_K} {r0 : Int32} {z0 : pj_S} (hB : B.2.2.2.1 = pj_LM) (C : pj_C B A K cX11_aLine 1 RX11 52) (Q : pj_Qi B A K (some .boolean) r0 z0)   (z : pj_S) (H : Heap) (lo : List Loc) (ls : Array Slot) (h : Md_aLine_101 z = some (r0, z0)) (P : pj_P B A K z H lo) (hl : lv_has ls 1 [(0, .ref (B.2.1 0))]) : pj_W K H lo 101 ls [] := by
  unfold Md_aLine_101 at h
  refine pj_aload_n C dd_Md_aLine_101 rfl hl 0 rfl ?_
  refine pj_getR C P 0 (LM0 hB) rfl fl_Md_19 dd_Md_aLine_102 ?_
  refine pj_iconst (v := (nI 3)) C dd_Md_aLine_105 rfl ?_
  refine pj_aload_n C dd_Md_aLine_106 rfl hl 0 rfl ?_
  refine pj_getI C P 0 (LM0 hB) rfl fl_Md_195 dd_Md_aLine_107 ?_
  refine pj_imul C dd_Md_aLine_110 ?_
  refine pj_iconst (v := (nI 2)) C dd_Md_aLine_111 rfl ?_
  refine pj_iadd C dd_Md_aLine_112 ?_
  refine pj_aload_n C dd_Md_aLine_113 rfl hl 0 rfl ?_
  refine pj_getI C P 0 (LM0 hB) rfl fl_Md_161 dd_Md_aLine_114 ?_
  refine pj_iast C P 4 (LM4 hB) h dd_Md_aLine_117 (fun H lo z1 h P => ?_)
  refine pj_aload_n C dd_Md_aLine_118 rfl hl 0 rfl ?_
  refine pj_sipush (v := (nI 159)) C dd_Md_aLine_119 rfl ?_
  obtain ⟨r4, z3, e2, h⟩ := pj_cE h
  refine pj_cVi (st := []) [.int (nI 159)] C P 0 (LM0 hB) rfl (ct_Md_need hB e2) cl_Md_189 rfl (by decide) (by decide) hl.1 (Nat.le_of_ble_eq_true rfl) dd_Md_aLine_122 (fun H lo P => ?_)
  exact pj_zret C Q P h dd_Md_aLine_125
set_option maxHeartbeats 4000000 in
set_option maxRecDepth 100000 in
theorem ct_Md_aLine {l : Launch} {B : pj_B} (hB : B.2.2.2.1 = pj_LM)  {z : pj_S} {r0 : Int32} {z0 : pj_S} (h : Md_aLine z = some (r0, z0)) : pj_Mi l yX11_aLine cX11_aLine 1 (some .boolean) 52 [.ref (B.2.1 0)] B z r0 z0 := by
  refine pj_meti (own := RX11) (by decide +kernel) rfl (Nat.le_of_ble_eq_true rfl) ?_
  intro A K hK C Q H lo ls P hl
  have hl : lv_has ls 1 [(0, .ref (B.2.1 0))] := hl
  unfold Md_aLine at h
  refine pj_aload_n C dd_Md_aLine_0 rfl hl 0 rfl ?_
  refine pj_getI C P 0 (LM0 hB) rfl fl_Md_134 dd_Md_aLine_1 ?_
  refine pj_bipush (v := (nI 20)) C dd_Md_aLine_4 rfl ?_
  refine pj_ic_eq C h dd_Md_aLine_6 (fun h => ?_) (fun h => ?_)
  · refine pj_aload_n C dd_Md_aLine_15 rfl hl 0 rfl ?_
    refine pj_getI C P 0 (LM0 hB) rfl fl_Md_195 dd_Md_aLine_16 ?_
    refine pj_bipush (v := (nI 16)) C dd_Md_aLine_19 rfl ?_
    refine pj_ic_ne C h dd_Md_aLine_21 (fun h => ?_) (fun h => ?_)
    · refine pj_aload_n C dd_Md_aLine_30 rfl hl 0 rfl ?_
      refine pj_iconst (v := (nI 0)) C dd_Md_aLine_31 rfl ?_
      refine pj_putI C P 0 (LM0 hB) rfl fl_Md_164 rfl fy_11_20 h dd_Md_aLine_32 (fun H lo z1 h P => ?_)
      refine pj_aload_n C dd_Md_aLine_35 rfl hl 0 rfl ?_
      obtain ⟨r4, z3, e2, h⟩ := pj_cE h
      refine pj_cVv (st := []) [] C P 0 (LM0 hB) rfl (ct_Md_next0 hB e2) cl_Md_158 rfl (by decide) (by decide) hl.1 (Nat.le_of_ble_eq_true rfl) dd_Md_aLine_36 (fun H lo P => ?_)
      refine pj_aload_n C dd_Md_aLine_39 rfl hl 0 rfl ?_
      refine pj_getR C P 0 (LM0 hB) rfl fl_Md_19 dd_Md_aLine_40 ?_
      refine pj_iconst (v := (nI 3)) C dd_Md_aLine_43 rfl ?_
      refine pj_aload_n C dd_Md_aLine_44 rfl hl 0 rfl ?_
      refine pj_getI C P 0 (LM0 hB) rfl fl_Md_195 dd_Md_aLine_45 ?_
      refine pj_imul C dd_Md_aLine_48 ?_
      refine pj_aload_n C dd_Md_aLine_49 rfl hl 0 rfl ?_
      refine pj_getI C P 0 (LM0 hB) rfl fl_Md_161 dd_Md_aLine_50 ?_
      refine pj_iast C P 4 (LM4 hB) h dd_Md_aLine_53 (fun H lo z5 h P => ?_)
      refine pj_aload_n C dd_Md_aLine_54 rfl hl 0 rfl ?_
      obtain ⟨r8, z7, e6, h⟩ := pj_cE h
      refine pj_cVi (st := []) [] C P 0 (LM0 hB) rfl (ct_Md_sumUp hB e6) cl_Md_192 rfl (by decide) (by decide) hl.1 (Nat.le_of_ble_eq_true rfl) dd_Md_aLine_55 (fun H lo P => ?_)
      refine pj_if_ne C h dd_Md_aLine_58 (fun h => ?_) (fun h => ?_)
      · refine pj_aload_n C dd_Md_aLine_63 rfl hl 0 rfl ?_
        refine pj_getR C P 0 (LM0 hB) rfl fl_Md_19 dd_Md_aLine_64 ?_
        refine pj_iconst (v := (nI 3)) C dd_Md_aLine_67 rfl ?_
        refine pj_aload_n C dd_Md_aLine_68 rfl hl 0 rfl ?_
        refine pj_getI C P 0 (LM0 hB) rfl fl_Md_195 dd_Md_aLine_69 ?_
        refine pj_imul C dd_Md_aLine_72 ?_
        refine pj_iconst (v := (nI 1)) C dd_Md_aLine_73 rfl ?_
        refine pj_iadd C dd_Md_aLine_74 ?_
        refine pj_aload_n C dd_Md_aLine_75 rfl hl 0 rfl ?_
        refine pj_getI C P 0 (LM0 hB) rfl fl_Md_161 dd_Md_aLine_76 ?_
        refine pj_iast C P 4 (LM4 hB) h dd_Md_aLine_79 (fun H lo z9 h P => ?_)
        refine pj_aload_n C dd_Md_aLine_80 rfl hl 0 rfl ?_
        refine pj_getI C P 0 (LM0 hB) rfl fl_Md_134 dd_Md_aLine_81 ?_
        refine pj_iconst (v := (nI 3)) C dd_Md_aLine_84 rfl ?_
        refine pj_ic_ne C h dd_Md_aLine_85 (fun h => ?_) (fun h => ?_)
        · exact bt_Md_aLine_101 hB C Q _ _ _ _ h P (lv_sub hl [0] rfl)
        · refine pj_aload_n C dd_Md_aLine_88 rfl hl 0 rfl ?_
          obtain ⟨r12, z11, e10, h⟩ := pj_cE h
          refine pj_cVv (st := []) [] C P 0 (LM0 hB) rfl (ct_Md_next0 hB e10) cl_Md_158 rfl (by decide) (by decide) hl.1 (Nat.le_of_ble_eq_true rfl) dd_Md_aLine_89 (fun H lo P => ?_)
          refine pj_aload_n C dd_Md_aLine_92 rfl hl 0 rfl ?_
          obtain ⟨r15, z14, e13, h⟩ := pj_cE h
          refine pj_cVi (st := []) [] C P 0 (LM0 hB) rfl (ct_Md_any_o hB e13) cl_Md_186 rfl (by decide) (by decide) hl.1 (Nat.le_of_ble_eq_true rfl) dd_Md_aLine_93 (fun H lo P => ?_)
          refine pj_if_ne C h dd_Md_aLine_96 (fun h => ?_) (fun h => ?_)
          · exact bt_Md_aLine_101 hB C Q _ _ _ _ h P (lv_sub hl [0] rfl)
          · refine pj_iconst (v := (nI 0)) C dd_Md_aLine_99 rfl ?_
            exact pj_zret C Q P h dd_Md_aLine_100
      · refine pj_iconst (v := (nI 0)) C dd_Md_aLine_61 rfl ?_
        exact pj_zret C Q P h dd_Md_aLine_62
    · refine pj_aload_n C dd_Md_aLine_24 rfl hl 0 rfl ?_
      refine pj_iconst (v := (nI 3)) C dd_Md_aLine_25 rfl ?_
      obtain ⟨r18, z17, e16, h⟩ := pj_cE h
      refine pj_cVi (st := []) [.int (nI 3)] C P 0 (LM0 hB) rfl (ct_Md_bad hB e16) cl_Md_155 rfl (by decide) (by decide) hl.1 (Nat.le_of_ble_eq_true rfl) dd_Md_aLine_26 (fun H lo P => ?_)
      exact pj_zret C Q P h dd_Md_aLine_29
  · refine pj_aload_n C dd_Md_aLine_9 rfl hl 0 rfl ?_
    refine pj_iconst (v := (nI 1)) C dd_Md_aLine_10 rfl ?_
    obtain ⟨r21, z20, e19, h⟩ := pj_cE h
    refine pj_cVi (st := []) [.int (nI 1)] C P 0 (LM0 hB) rfl (ct_Md_bad hB e19) cl_Md_155 rfl (by decide) (by decide) hl.1 (Nat.le_of_ble_eq_true rfl) dd_Md_aLine_11 (fun H lo P => ?_)
    exact pj_zret C Q P h dd_Md_aLine_14
theorem dd_Md_text_0 : pj_d cX11_text 0 (.aload_n 0) 1 1 := ⟨by decide +kernel, rfl⟩
theorem dd_Md_text_1 : pj_d cX11_text 1 (.iconst 0) 1 2 := ⟨by decide +kernel, rfl⟩
theorem dd_Md_text_2 : pj_d cX11_text 2 (.putfield 149) 3 5 := ⟨by decide +kernel, rfl⟩
theorem dd_Md_text_5 : pj_d cX11_text 5 (.aload_n 0) 1 6 := ⟨by decide +kernel, rfl⟩
theorem dd_Md_text_6 : pj_d cX11_text 6 (.iconst 0) 1 7 := ⟨by decide +kernel, rfl⟩
theorem dd_Md_text_7 : pj_d cX11_text 7 (.putfield 83) 3 10 := ⟨by decide +kernel, rfl⟩
theorem dd_Md_text_10 : pj_d cX11_text 10 (.aload_n 0) 1 11 := ⟨by decide +kernel, rfl⟩
theorem dd_Md_text_11 : pj_d cX11_text 11 (.iconst 0) 1 12 := ⟨by decide +kernel, rfl⟩
theorem dd_Md_text_12 : pj_d cX11_text 12 (.putfield 195) 3 15 := ⟨by decide +kernel, rfl⟩
theorem dd_Md_text_15 : pj_d cX11_text 15 (.aload_n 0) 1 16 := ⟨by decide +kernel, rfl⟩
theorem dd_Md_text_16 : pj_d cX11_text 16 (.iconst 0) 1 17 := ⟨by decide +kernel, rfl⟩
theorem dd_Md_text_17 : pj_d cX11_text 17 (.putfield 161) 3 20 := ⟨by decide +kernel, rfl⟩
theorem dd_Md_text_20 : pj_d cX11_text 20 (.aload_n 0) 1 21 := ⟨by decide +kernel, rfl⟩
theorem dd_Md_text_21 : pj_d cX11_text 21 (.invokevirtual 158) 3 24 := ⟨by decide +kernel, rfl⟩
theorem dd_Md_text_24 : pj_d cX11_text 24 (.iconst 1) 1 25 := ⟨by decide +kernel, rfl⟩
theorem dd_Md_text_25 : pj_d cX11_text 25 (.istore_n 1) 1 26 := ⟨by decide +kernel, rfl⟩
theorem dd_Md_text_26 : pj_d cX11_text 26 (.iload_n 1) 1 27 := ⟨by decide +kernel, rfl⟩
theorem dd_Md_text_27 : pj_dj cX11_text 27 (.ifCond .eq 36) 36 30 63 := ⟨by decide +kernel, rfl, by decide⟩
theorem dd_Md_text_30 : pj_d cX11_text 30 (.aload_n 0) 1 31 := ⟨by decide +kernel, rfl⟩
theorem dd_Md_text_31 : pj_d cX11_text 31 (.getfield 134) 3 34 := ⟨by decide +kernel, rfl⟩
theorem dd_Md_text_34 : pj_dj cX11_text 34 (.ifCond .eq 29) 29 37 63 := ⟨by decide +kernel, rfl, by decide⟩
theorem dd_Md_text_37 : pj_d cX11_text 37 (.aload_n 0) 1 38 := ⟨by decide +kernel, rfl⟩
theorem dd_Md_text_38 : pj_d cX11_text 38 (.invokevirtual 198) 3 41 := ⟨by decide +kernel, rfl⟩
theorem dd_Md_text_41 : pj_d cX11_text 41 (.istore_n 1) 1 42 := ⟨by decide +kernel, rfl⟩
theorem dd_Md_text_42 : pj_d cX11_text 42 (.aload_n 0) 1 43 := ⟨by decide +kernel, rfl⟩
theorem dd_Md_text_43 : pj_d cX11_text 43 (.dup) 1 44 := ⟨by decide +kernel, rfl⟩
theorem dd_Md_text_44 : pj_d cX11_text 44 (.getfield 195) 3 47 := ⟨by decide +kernel, rfl⟩
theorem dd_Md_text_47 : pj_d cX11_text 47 (.iload_n 1) 1 48 := ⟨by decide +kernel, rfl⟩
theorem dd_Md_text_48 : pj_dj cX11_text 48 (.ifCond .eq 7) 7 51 55 := ⟨by decide +kernel, rfl, by decide⟩
theorem dd_Md_text_51 : pj_d cX11_text 51 (.iconst 1) 1 52 := ⟨by decide +kernel, rfl⟩
theorem dd_Md_text_52 : pj_dj cX11_text 52 (.goto 4) 4 55 56 := ⟨by decide +kernel, rfl, by decide⟩
theorem dd_Md_text_55 : pj_d cX11_text 55 (.iconst 0) 1 56 := ⟨by decide +kernel, rfl⟩
theorem dd_Md_text_56 : pj_d cX11_text 56 (.iadd) 1 57 := ⟨by decide +kernel, rfl⟩
theorem dd_Md_text_57 : pj_d cX11_text 57 (.putfield 195) 3 60 := ⟨by decide +kernel, rfl⟩
theorem dd_Md_text_60 : pj_dj cX11_text 60 (.goto (-34)) (-34) 63 26 := ⟨by decide +kernel, rfl, by decide⟩
theorem dd_Md_text_63 : pj_d cX11_text 63 (.aload_n 0) 1 64 := ⟨by decide +kernel, rfl⟩
theorem dd_Md_text_64 : pj_d cX11_text 64 (.iconst 0) 1 65 := ⟨by decide +kernel, rfl⟩
theorem dd_Md_text_65 : pj_d cX11_text 65 (.putfield 80) 3 68 := ⟨by decide +kernel, rfl⟩
theorem dd_Md_text_68 : pj_d cX11_text 68 (.aload_n 0) 1 69 := ⟨by decide +kernel, rfl⟩
theorem dd_Md_text_69 : pj_d cX11_text 69 (.aload_n 0) 1 70 := ⟨by decide +kernel, rfl⟩
theorem dd_Md_text_70 : pj_d cX11_text 70 (.getfield 149) 3 73 := ⟨by decide +kernel, rfl⟩
theorem dd_Md_text_73 : pj_d cX11_text 73 (.putfield 201) 3 76 := ⟨by decide +kernel, rfl⟩
theorem dd_Md_text_76 : pj_d cX11_text 76 (.aload_n 0) 1 77 := ⟨by decide +kernel, rfl⟩
theorem dd_Md_text_77 : pj_d cX11_text 77 (.iload_n 1) 1 78 := ⟨by decide +kernel, rfl⟩
theorem dd_Md_text_78 : pj_dj cX11_text 78 (.ifCond .eq 7) 7 81 85 := ⟨by decide +kernel, rfl, by decide⟩
theorem dd_Md_text_81 : pj_d cX11_text 81 (.iconst (-1)) 1 82 := ⟨by decide +kernel, rfl⟩
theorem dd_Md_text_82 : pj_dj cX11_text 82 (.goto 7) 7 85 89 := ⟨by decide +kernel, rfl, by decide⟩
theorem dd_Md_text_85 : pj_d cX11_text 85 (.aload_n 0) 1 86 := ⟨by decide +kernel, rfl⟩
theorem dd_Md_text_86 : pj_d cX11_text 86 (.getfield 152) 3 89 := ⟨by decide +kernel, rfl⟩
theorem dd_Md_text_89 : pj_d cX11_text 89 (.putfield 34) 3 92 := ⟨by decide +kernel, rfl⟩
theorem dd_Md_text_92 : pj_d cX11_text 92 (.iload_n 1) 1 93 := ⟨by decide +kernel, rfl⟩
theorem dd_Md_text_93 : pj_dj cX11_text 93 (.ifCond .ne 5) 5 96 98 := ⟨by decide +kernel, rfl, by decide⟩
theorem dd_Md_text_96 : pj_d cX11_text 96 (.iconst (-1)) 1 97 := ⟨by decide +kernel, rfl⟩
theorem dd_Md_text_97 : pj_d cX11_text 97 (.ireturn) 1 98 := ⟨by decide +kernel, rfl⟩
theorem dd_Md_text_98 : pj_d cX11_text 98 (.aload_n 0) 1 99 := ⟨by decide +kernel, rfl⟩
theorem dd_Md_text_99 : pj_d cX11_text 99 (.getfield 7) 3 102 := ⟨by decide +kernel, rfl⟩
theorem dd_Md_text_102 : pj_d cX11_text 102 (.sipush 605) 3 105 := ⟨by decide +kernel, rfl⟩
theorem dd_Md_text_105 : pj_d cX11_text 105 (.aload_n 0) 1 106 := ⟨by decide +kernel, rfl⟩
theorem dd_Md_text_106 : pj_d cX11_text 106 (.getfield 195) 3 109 := ⟨by decide +kernel, rfl⟩
theorem dd_Md_text_109 : pj_d cX11_text 109 (.iastore) 1 110 := ⟨by decide +kernel, rfl⟩
theorem dd_Md_text_110 : pj_d cX11_text 110 (.iconst 0) 1 111 := ⟨by decide +kernel, rfl⟩
theorem dd_Md_text_111 : pj_d cX11_text 111 (.istore_n 2) 1 112 := ⟨by decide +kernel, rfl⟩
theorem dd_Md_text_112 : pj_d cX11_text 112 (.iload_n 2) 1 113 := ⟨by decide +kernel, rfl⟩
theorem dd_Md_text_113 : pj_d cX11_text 113 (.aload_n 0) 1 114 := ⟨by decide +kernel, rfl⟩
theorem dd_Md_text_114 : pj_d cX11_text 114 (.getfield 195) 3 117 := ⟨by decide +kernel, rfl⟩
theorem dd_Md_text_117 : pj_dj cX11_text 117 (.if_icmp .ge 67) 67 120 184 := ⟨by decide +kernel, rfl, by decide⟩
theorem dd_Md_text_120 : pj_d cX11_text 120 (.aload_n 0) 1 121 := ⟨by decide +kernel, rfl⟩
theorem dd_Md_text_121 : pj_d cX11_text 121 (.getfield 7) 3 124 := ⟨by decide +kernel, rfl⟩
theorem dd_Md_text_124 : pj_d cX11_text 124 (.sipush 610) 3 127 := ⟨by decide +kernel, rfl⟩
theorem dd_Md_text_127 : pj_d cX11_text 127 (.iload_n 2) 1 128 := ⟨by decide +kernel, rfl⟩
theorem dd_Md_text_128 : pj_d cX11_text 128 (.iadd) 1 129 := ⟨by decide +kernel, rfl⟩
theorem dd_Md_text_129 : pj_d cX11_text 129 (.aload_n 0) 1 130 := ⟨by decide +kernel, rfl⟩
theorem dd_Md_text_130 : pj_d cX11_text 130 (.getfield 19) 3 133 := ⟨by decide +kernel, rfl⟩
theorem dd_Md_text_133 : pj_d cX11_text 133 (.iconst 3) 1 134 := ⟨by decide +kernel, rfl⟩
theorem dd_Md_text_134 : pj_d cX11_text 134 (.iload_n 2) 1 135 := ⟨by decide +kernel, rfl⟩
theorem dd_Md_text_135 : pj_d cX11_text 135 (.imul) 1 136 := ⟨by decide +kernel, rfl⟩
theorem dd_Md_text_136 : pj_d cX11_text 136 (.iaload) 1 137 := ⟨by decide +kernel, rfl⟩
theorem dd_Md_text_137 : pj_d cX11_text 137 (.iastore) 1 138 := ⟨by decide +kernel, rfl⟩
theorem dd_Md_text_138 : pj_d cX11_text 138 (.aload_n 0) 1 139 := ⟨by decide +kernel, rfl⟩
theorem dd_Md_text_139 : pj_d cX11_text 139 (.getfield 7) 3 142 := ⟨by decide +kernel, rfl⟩
theorem dd_Md_text_142 : pj_d cX11_text 142 (.sipush 630) 3 145 := ⟨by decide +kernel, rfl⟩
theorem dd_Md_text_145 : pj_d cX11_text 145 (.iload_n 2) 1 146 := ⟨by decide +kernel, rfl⟩
theorem dd_Md_text_146 : pj_d cX11_text 146 (.iadd) 1 147 := ⟨by decide +kernel, rfl⟩
theorem dd_Md_text_147 : pj_d cX11_text 147 (.aload_n 0) 1 148 := ⟨by decide +kernel, rfl⟩
theorem dd_Md_text_148 : pj_d cX11_text 148 (.getfield 19) 3 151 := ⟨by decide +kernel, rfl⟩
theorem dd_Md_text_151 : pj_d cX11_text 151 (.iconst 3) 1 152 := ⟨by decide +kernel, rfl⟩
theorem dd_Md_text_152 : pj_d cX11_text 152 (.iload_n 2) 1 153 := ⟨by decide +kernel, rfl⟩
theorem dd_Md_text_153 : pj_d cX11_text 153 (.imul) 1 154 := ⟨by decide +kernel, rfl⟩
theorem dd_Md_text_154 : pj_d cX11_text 154 (.iconst 1) 1 155 := ⟨by decide +kernel, rfl⟩
theorem dd_Md_text_155 : pj_d cX11_text 155 (.iadd) 1 156 := ⟨by decide +kernel, rfl⟩
theorem dd_Md_text_156 : pj_d cX11_text 156 (.iaload) 1 157 := ⟨by decide +kernel, rfl⟩
theorem dd_Md_text_157 : pj_d cX11_text 157 (.iastore) 1 158 := ⟨by decide +kernel, rfl⟩
theorem dd_Md_text_158 : pj_d cX11_text 158 (.aload_n 0) 1 159 := ⟨by decide +kernel, rfl⟩
theorem dd_Md_text_159 : pj_d cX11_text 159 (.getfield 7) 3 162 := ⟨by decide +kernel, rfl⟩
theorem dd_Md_text_162 : pj_d cX11_text 162 (.sipush 650) 3 165 := ⟨by decide +kernel, rfl⟩
theorem dd_Md_text_165 : pj_d cX11_text 165 (.iload_n 2) 1 166 := ⟨by decide +kernel, rfl⟩
theorem dd_Md_text_166 : pj_d cX11_text 166 (.iadd) 1 167 := ⟨by decide +kernel, rfl⟩
theorem dd_Md_text_167 : pj_d cX11_text 167 (.aload_n 0) 1 168 := ⟨by decide +kernel, rfl⟩
theorem dd_Md_text_168 : pj_d cX11_text 168 (.getfield 19) 3 171 := ⟨by decide +kernel, rfl⟩
theorem dd_Md_text_171 : pj_d cX11_text 171 (.iconst 3) 1 172 := ⟨by decide +kernel, rfl⟩
theorem dd_Md_text_172 : pj_d cX11_text 172 (.iload_n 2) 1 173 := ⟨by decide +kernel, rfl⟩
theorem dd_Md_text_173 : pj_d cX11_text 173 (.imul) 1 174 := ⟨by decide +kernel, rfl⟩
theorem dd_Md_text_174 : pj_d cX11_text 174 (.iconst 2) 1 175 := ⟨by decide +kernel, rfl⟩
theorem dd_Md_text_175 : pj_d cX11_text 175 (.iadd) 1 176 := ⟨by decide +kernel, rfl⟩
theorem dd_Md_text_176 : pj_d cX11_text 176 (.iaload) 1 177 := ⟨by decide +kernel, rfl⟩
theorem dd_Md_text_177 : pj_d cX11_text 177 (.iastore) 1 178 := ⟨by decide +kernel, rfl⟩
theorem dd_Md_text_178 : pj_d cX11_text 178 (.iinc 2 1) 3 181 := ⟨by decide +kernel, rfl⟩
theorem dd_Md_text_181 : pj_dj cX11_text 181 (.goto (-69)) (-69) 184 112 := ⟨by decide +kernel, rfl, by decide⟩
theorem dd_Md_text_184 : pj_d cX11_text 184 (.iconst 0) 1 185 := ⟨by decide +kernel, rfl⟩
theorem dd_Md_text_185 : pj_d cX11_text 185 (.istore_n 2) 1 186 := ⟨by decide +kernel, rfl⟩
theorem dd_Md_text_186 : pj_d cX11_text 186 (.iload_n 2) 1 187 := ⟨by decide +kernel, rfl⟩
theorem dd_Md_text_187 : pj_d cX11_text 187 (.iconst 2) 1 188 := ⟨by decide +kernel, rfl⟩
theorem dd_Md_text_188 : pj_d cX11_text 188 (.aload_n 0) 1 189 := ⟨by decide +kernel, rfl⟩
theorem dd_Md_text_189 : pj_d cX11_text 189 (.getfield 161) 3 192 := ⟨by decide +kernel, rfl⟩
theorem dd_Md_text_192 : pj_d cX11_text 192 (.imul) 1 193 := ⟨by decide +kernel, rfl⟩
theorem dd_Md_text_193 : pj_dj cX11_text 193 (.if_icmp .ge 25) 25 196 218 := ⟨by decide +kernel, rfl, by decide⟩
theorem dd_Md_text_196 : pj_d cX11_text 196 (.aload_n 0) 1 197 := ⟨by decide +kernel, rfl⟩
theorem dd_Md_text_197 : pj_d cX11_text 197 (.getfield 7) 3 200 := ⟨by decide +kernel, rfl⟩
theorem dd_Md_text_200 : pj_d cX11_text 200 (.sipush 670) 3 203 := ⟨by decide +kernel, rfl⟩
theorem dd_Md_text_203 : pj_d cX11_text 203 (.iload_n 2) 1 204 := ⟨by decide +kernel, rfl⟩
theorem dd_Md_text_204 : pj_d cX11_text 204 (.iadd) 1 205 := ⟨by decide +kernel, rfl⟩
theorem dd_Md_text_205 : pj_d cX11_text 205 (.aload_n 0) 1 206 := ⟨by decide +kernel, rfl⟩
theorem dd_Md_text_206 : pj_d cX11_text 206 (.getfield 22) 3 209 := ⟨by decide +kernel, rfl⟩
theorem dd_Md_text_209 : pj_d cX11_text 209 (.iload_n 2) 1 210 := ⟨by decide +kernel, rfl⟩
theorem dd_Md_text_210 : pj_d cX11_text 210 (.iaload) 1 211 := ⟨by decide +kernel, rfl⟩
theorem dd_Md_text_211 : pj_d cX11_text 211 (.iastore) 1 212 := ⟨by decide +kernel, rfl⟩
theorem dd_Md_text_212 : pj_d cX11_text 212 (.iinc 2 1) 3 215 := ⟨by decide +kernel, rfl⟩
theorem dd_Md_text_215 : pj_dj cX11_text 215 (.goto (-29)) (-29) 218 186 := ⟨by decide +kernel, rfl, by decide⟩
theorem dd_Md_text_218 : pj_d cX11_text 218 (.aload_n 0) 1 219 := ⟨by decide +kernel, rfl⟩
theorem dd_Md_text_219 : pj_d cX11_text 219 (.getfield 195) 3 222 := ⟨by decide +kernel, rfl⟩
theorem dd_Md_text_222 : pj_d cX11_text 222 (.ireturn) 1 223 := ⟨by decide +kernel, rfl⟩
set_option maxHeartbeats 4000000 in
set_option maxRecDepth 100000 in
theorem bt_Md_text_56 {B : pj_B} {A : Nat → Prop} {K : pj_K} {r0 : Int32} {z0 : pj_S} (hB : B.2.2.2.1 = pj_LM) (C : pj_C B A K cX11_text 3 RX11 53) (Q : pj_Qi B A K (some .int) r0 z0) (s26 : Int32 → pj_S → Option (Int32 × pj_S)) (k26 : ∀ (v1 : Int32) (z : pj_S) (H : Heap) (lo : List Loc) (ls : Array Slot), s26 v1 z = some (r0, z0) → pj_P B A K z H lo → lv_has ls 3 [(0, .ref (B.2.1 0)), (1, .int v1)] → pj_W K H lo 26 ls []) (v1 : Int32) (t0 : Int32) (t1 : Int32) (z : pj_S) (H : Heap) (lo : List Loc) (ls : Array Slot) (h : Md_text_56 s26 v1 t0 t1 z = some (r0, z0)) (P : pj_P B A K z H lo) (hl : lv_has ls 3 [(0, .ref (B.2.1 0)), (1, .int v1)]) : pj_W K H lo 56 ls [.int t0, .int t1, .ref (B.2.1 0)] := by
  unfold Md_text_56 at h
  refine pj_iadd C dd_Md_text_56 ?_
  refine pj_putI C P 0 (LM0 hB) rfl fl_Md_195 rfl fy_11_10 h dd_Md_text_57 (fun H lo z1 h P => ?_)
  refine pj_goto C dd_Md_text_60 ?_
  exact k26 _ _ _ _ _ h P (lv_sub hl [0, 1] rfl)
set_option maxHeartbeats 4000000 in
set_option maxRecDepth 100000 in
theorem bt_Md_text_218 {B : pj_B} {A : Nat → Prop} {K : pj_K} {r0 : Int32} {z0 : pj_S} (hB : B.2.2.2.1 = pj_LM) (C : pj_C B A K cX11_text 3 RX11 53) (Q : pj_Qi B A K (some .int) r0 z0)   (z : pj_S) (H : Heap) (lo : List Loc) (ls : Array Slot) (h : Md_text_218 z = some (r0, z0)) (P : pj_P B A K z H lo) (hl : lv_has ls 3 [(0, .ref (B.2.1 0))]) : pj_W K H lo 218 ls [] := by
  unfold Md_text_218 at h
  refine pj_aload_n C dd_Md_text_218 rfl hl 0 rfl ?_
  refine pj_getI C P 0 (LM0 hB) rfl fl_Md_195 dd_Md_text_219 ?_
  exact pj_iret C Q P h dd_Md_text_222
set_option maxHeartbeats 4000000 in
set_option maxRecDepth 100000 in
theorem bt_Md_text_186 {B : pj_B} {A : Nat → Prop} {K : pj_K} {r0 : Int32} {z0 : pj_S} (hB : B.2.2.2.1 = pj_LM) (C : pj_C B A K cX11_text 3 RX11 53) (Q : pj_Qi B A K (some .int) r0 z0) (s186 : Int32 → pj_S → Option (Int32 × pj_S)) (k186 : ∀ (v2 : Int32) (z : pj_S) (H : Heap) (lo : List Loc) (ls : Array Slot), s186 v2 z = some (r0, z0) → pj_P B A K z H lo → lv_has ls 3 [(0, .ref (B.2.1 0)), (2, .int v2)] → pj_W K H lo 186 ls []) (v2 : Int32) (z : pj_S) (H : Heap) (lo : List Loc) (ls : Array Slot) (h : Md_text_186 s186 v2 z = some (r0, z0)) (P : pj_P B A K z H lo) (hl : lv_has ls 3 [(0, .ref (B.2.1 0)), (2, .int v2)]) : pj_W K H lo 186 ls [] := by
  unfold Md_text_186 at h
  refine pj_iload_n C dd_Md_text_186 rfl hl 1 rfl ?_
  refine pj_iconst (v := (nI 2)) C dd_Md_text_187 rfl ?_
  refine pj_aload_n C dd_Md_text_188 rfl hl 0 rfl ?_
  refine pj_getI C P 0 (LM0 hB) rfl fl_Md_161 dd_Md_text_189 ?_
  refine pj_imul C dd_Md_text_192 ?_
  refine pj_ic_ge C h dd_Md_text_193 (fun h => ?_) (fun h => ?_)
  · exact bt_Md_text_218 hB C Q _ _ _ _ h P (lv_sub hl [0] rfl)
  · refine pj_aload_n C dd_Md_text_196 rfl hl 0 rfl ?_
    refine pj_getR C P 0 (LM0 hB) rfl fl_Md_7 dd_Md_text_197 ?_
    refine pj_sipush (v := (nI 670)) C dd_Md_text_200 rfl ?_
    refine pj_iload_n C dd_Md_text_203 rfl hl 1 rfl ?_
    refine pj_iadd C dd_Md_text_204 ?_
    refine pj_aload_n C dd_Md_text_205 rfl hl 0 rfl ?_
    refine pj_getR C P 0 (LM0 hB) rfl fl_Md_22 dd_Md_text_206 ?_
    refine pj_iload_n C dd_Md_text_209 rfl hl 1 rfl ?_
    refine pj_iald C P 5 (LM5 hB) h dd_Md_text_210 (fun h => ?_)
    refine pj_iast C P 1 (LM1 hB) h dd_Md_text_211 (fun H lo z1 h P => ?_)
    refine pj_iinc (v := (nI 1)) [(0, .ref (B.2.1 0))] C h rfl dd_Md_text_212 hl 1 rfl (by decide) rfl (fun x2 ls h hl => ?_)
    refine pj_goto C dd_Md_text_215 ?_
    exact k186 _ _ _ _ _ h P (lv_sub hl [1, 0] rfl)
theorem lt_Md_text_186 {B : pj_B} {A : Nat → Prop} {K : pj_K} {r0 : Int32} {z0 : pj_S} (hB : B.2.2.2.1 = pj_LM) (C : pj_C B A K cX11_text 3 RX11 53) (Q : pj_Qi B A K (some .int) r0 z0)  : ∀ (n : Nat) (v2 : Int32) (z : pj_S) (H : Heap) (lo : List Loc) (ls : Array Slot), pj_lp1 Md_text_186 n v2 z = some (r0, z0) → pj_P B A K z H lo → lv_has ls 3 [(0, .ref (B.2.1 0)), (2, .int v2)] → pj_W K H lo 186 ls [] := by
  intro n
  induction n with
  | zero => intro v2 z H lo ls h; rw [pj_lp1_0] at h; cases h
  | succ n ih =>
    intro v2 z H lo ls h P hl
    rw [pj_lp1_s] at h
    exact bt_Md_text_186 hB C Q   (pj_lp1 Md_text_186 n) ih v2 z H lo ls h P hl
set_option maxHeartbeats 4000000 in
set_option maxRecDepth 100000 in
theorem bt_Md_text_184 {B : pj_B} {A : Nat → Prop} {K : pj_K} {r0 : Int32} {z0 : pj_S} (hB : B.2.2.2.1 = pj_LM) (C : pj_C B A K cX11_text 3 RX11 53) (Q : pj_Qi B A K (some .int) r0 z0)   (z : pj_S) (H : Heap) (lo : List Loc) (ls : Array Slot) (h : Md_text_184 z = some (r0, z0)) (P : pj_P B A K z H lo) (hl : lv_has ls 3 [(0, .ref (B.2.1 0))]) : pj_W K H lo 184 ls [] := by
  unfold Md_text_184 at h
  refine pj_iconst (v := (nI 0)) C dd_Md_text_184 rfl ?_
  refine pj_istore_n [(2, .int (nI 0)), (0, .ref (B.2.1 0))] C dd_Md_text_185 rfl hl (by decide) rfl (fun ls hl => ?_)
  exact lt_Md_text_186 hB C Q 4000 _ _ _ _ _ h P (lv_sub hl [1, 0] rfl)
set_option maxHeartbeats 4000000 in
set_option maxRecDepth 100000 in
theorem bt_Md_text_112 {B : pj_B} {A : Nat → Prop} {K : pj_K} {r0 : Int32} {z0 : pj_S} (hB : B.2.2.2.1 = pj_LM) (C : pj_C B A K cX11_text 3 RX11 53) (Q : pj_Qi B A K (some .int) r0 z0) (s112 : Int32 → pj_S → Option (Int32 × pj_S)) (k112 : ∀ (v2 : Int32) (z : pj_S) (H : Heap) (lo : List Loc) (ls : Array Slot), s112 v2 z = some (r0, z0) → pj_P B A K z H lo → lv_has ls 3 [(0, .ref (B.2.1 0)), (2, .int v2)] → pj_W K H lo 112 ls []) (v2 : Int32) (z : pj_S) (H : Heap) (lo : List Loc) (ls : Array Slot) (h : Md_text_112 s112 v2 z = some (r0, z0)) (P : pj_P B A K z H lo) (hl : lv_has ls 3 [(0, .ref (B.2.1 0)), (2, .int v2)]) : pj_W K H lo 112 ls [] := by
  unfold Md_text_112 at h
  refine pj_iload_n C dd_Md_text_112 rfl hl 1 rfl ?_
  refine pj_aload_n C dd_Md_text_113 rfl hl 0 rfl ?_
  refine pj_getI C P 0 (LM0 hB) rfl fl_Md_195 dd_Md_text_114 ?_
  refine pj_ic_ge C h dd_Md_text_117 (fun h => ?_) (fun h => ?_)
  · exact bt_Md_text_184 hB C Q _ _ _ _ h P (lv_sub hl [0] rfl)
  · refine pj_aload_n C dd_Md_text_120 rfl hl 0 rfl ?_
    refine pj_getR C P 0 (LM0 hB) rfl fl_Md_7 dd_Md_text_121 ?_
    refine pj_sipush (v := (nI 610)) C dd_Md_text_124 rfl ?_
    refine pj_iload_n C dd_Md_text_127 rfl hl 1 rfl ?_
    refine pj_iadd C dd_Md_text_128 ?_
    refine pj_aload_n C dd_Md_text_129 rfl hl 0 rfl ?_
    refine pj_getR C P 0 (LM0 hB) rfl fl_Md_19 dd_Md_text_130 ?_
    refine pj_iconst (v := (nI 3)) C dd_Md_text_133 rfl ?_
    refine pj_iload_n C dd_Md_text_134 rfl hl 1 rfl ?_
    refine pj_imul C dd_Md_text_135 ?_
    refine pj_iald C P 4 (LM4 hB) h dd_Md_text_136 (fun h => ?_)
    refine pj_iast C P 1 (LM1 hB) h dd_Md_text_137 (fun H lo z1 h P => ?_)
    refine pj_aload_n C dd_Md_text_138 rfl hl 0 rfl ?_
    refine pj_getR C P 0 (LM0 hB) rfl fl_Md_7 dd_Md_text_139 ?_
    refine pj_sipush (v := (nI 630)) C dd_Md_text_142 rfl ?_
    refine pj_iload_n C dd_Md_text_145 rfl hl 1 rfl ?_
    refine pj_iadd C dd_Md_text_146 ?_
    refine pj_aload_n C dd_Md_text_147 rfl hl 0 rfl ?_
    refine pj_getR C P 0 (LM0 hB) rfl fl_Md_19 dd_Md_text_148 ?_
    refine pj_iconst (v := (nI 3)) C dd_Md_text_151 rfl ?_
    refine pj_iload_n C dd_Md_text_152 rfl hl 1 rfl ?_
    refine pj_imul C dd_Md_text_153 ?_
    refine pj_iconst (v := (nI 1)) C dd_Md_text_154 rfl ?_
    refine pj_iadd C dd_Md_text_155 ?_
    refine pj_iald C P 4 (LM4 hB) h dd_Md_text_156 (fun h => ?_)
    refine pj_iast C P 1 (LM1 hB) h dd_Md_text_157 (fun H lo z2 h P => ?_)
    refine pj_aload_n C dd_Md_text_158 rfl hl 0 rfl ?_
    refine pj_getR C P 0 (LM0 hB) rfl fl_Md_7 dd_Md_text_159 ?_
    refine pj_sipush (v := (nI 650)) C dd_Md_text_162 rfl ?_
    refine pj_iload_n C dd_Md_text_165 rfl hl 1 rfl ?_
    refine pj_iadd C dd_Md_text_166 ?_
    refine pj_aload_n C dd_Md_text_167 rfl hl 0 rfl ?_
    refine pj_getR C P 0 (LM0 hB) rfl fl_Md_19 dd_Md_text_168 ?_
    refine pj_iconst (v := (nI 3)) C dd_Md_text_171 rfl ?_
    refine pj_iload_n C dd_Md_text_172 rfl hl 1 rfl ?_
    refine pj_imul C dd_Md_text_173 ?_
    refine pj_iconst (v := (nI 2)) C dd_Md_text_174 rfl ?_
    refine pj_iadd C dd_Md_text_175 ?_
    refine pj_iald C P 4 (LM4 hB) h dd_Md_text_176 (fun h => ?_)
    refine pj_iast C P 1 (LM1 hB) h dd_Md_text_177 (fun H lo z3 h P => ?_)
    refine pj_iinc (v := (nI 1)) [(0, .ref (B.2.1 0))] C h rfl dd_Md_text_178 hl 1 rfl (by decide) rfl (fun x4 ls h hl => ?_)
    refine pj_goto C dd_Md_text_181 ?_
    exact k112 _ _ _ _ _ h P (lv_sub hl [1, 0] rfl)
theorem lt_Md_text_112 {B : pj_B} {A : Nat → Prop} {K : pj_K} {r0 : Int32} {z0 : pj_S} (hB : B.2.2.2.1 = pj_LM) (C : pj_C B A K cX11_text 3 RX11 53) (Q : pj_Qi B A K (some .int) r0 z0)  : ∀ (n : Nat) (v2 : Int32) (z : pj_S) (H : Heap) (lo : List Loc) (ls : Array Slot), pj_lp1 Md_text_112 n v2 z = some (r0, z0) → pj_P B A K z H lo → lv_has ls 3 [(0, .ref (B.2.1 0)), (2, .int v2)] → pj_W K H lo 112 ls [] := by
  intro n
  induction n with
  | zero => intro v2 z H lo ls h; rw [pj_lp1_0] at h; cases h
  | succ n ih =>
    intro v2 z H lo ls h P hl
    rw [pj_lp1_s] at h
    exact bt_Md_text_112 hB C Q   (pj_lp1 Md_text_112 n) ih v2 z H lo ls h P hl
set_option maxHeartbeats 4000000 in
set_option maxRecDepth 100000 in
theorem bt_Md_text_89 {B : pj_B} {A : Nat → Prop} {K : pj_K} {r0 : Int32} {z0 : pj_S} (hB : B.2.2.2.1 = pj_LM) (C : pj_C B A K cX11_text 3 RX11 53) (Q : pj_Qi B A K (some .int) r0 z0)  (v1 : Int32) (t0 : Int32) (z : pj_S) (H : Heap) (lo : List Loc) (ls : Array Slot) (h : Md_text_89 v1 t0 z = some (r0, z0)) (P : pj_P B A K z H lo) (hl : lv_has ls 3 [(0, .ref (B.2.1 0)), (1, .int v1)]) : pj_W K H lo 89 ls [.int t0, .ref (B.2.1 0)] := by
  unfold Md_text_89 at h
  refine pj_putI C P 0 (LM0 hB) rfl fl_Md_34 rfl fy_11_21 h dd_Md_text_89 (fun H lo z1 h P => ?_)
  refine pj_iload_n C dd_Md_text_92 rfl hl 1 rfl ?_
  refine pj_if_ne C h dd_Md_text_93 (fun h => ?_) (fun h => ?_)
  · refine pj_aload_n C dd_Md_text_98 rfl hl 0 rfl ?_
    refine pj_getR C P 0 (LM0 hB) rfl fl_Md_7 dd_Md_text_99 ?_
    refine pj_sipush (v := (nI 605)) C dd_Md_text_102 rfl ?_
    refine pj_aload_n C dd_Md_text_105 rfl hl 0 rfl ?_
    refine pj_getI C P 0 (LM0 hB) rfl fl_Md_195 dd_Md_text_106 ?_
    refine pj_iast C P 1 (LM1 hB) h dd_Md_text_109 (fun H lo z2 h P => ?_)
    refine pj_iconst (v := (nI 0)) C dd_Md_text_110 rfl ?_
    refine pj_istore_n [(2, .int (nI 0)), (0, .ref (B.2.1 0)), (1, .int v1)] C dd_Md_text_111 rfl hl (by decide) rfl (fun ls hl => ?_)
    exact lt_Md_text_112 hB C Q 4000 _ _ _ _ _ h P (lv_sub hl [1, 0] rfl)
  · refine pj_iconst (v := (-1 : Int32)) C dd_Md_text_96 rfl ?_
    exact pj_iret C Q P h dd_Md_text_97
set_option maxHeartbeats 4000000 in
set_option maxRecDepth 100000 in
theorem bt_Md_text_63 {B : pj_B} {A : Nat → Prop} {K : pj_K} {r0 : Int32} {z0 : pj_S} (hB : B.2.2.2.1 = pj_LM) (C : pj_C B A K cX11_text 3 RX11 53) (Q : pj_Qi B A K (some .int) r0 z0)  (v1 : Int32) (z : pj_S) (H : Heap) (lo : List Loc) (ls : Array Slot) (h : Md_text_63 v1 z = some (r0, z0)) (P : pj_P B A K z H lo) (hl : lv_has ls 3 [(0, .ref (B.2.1 0)), (1, .int v1)]) : pj_W K H lo 63 ls [] := by
  unfold Md_text_63 at h
  refine pj_aload_n C dd_Md_text_63 rfl hl 0 rfl ?_
  refine pj_iconst (v := (nI 0)) C dd_Md_text_64 rfl ?_
  refine pj_putI C P 0 (LM0 hB) rfl fl_Md_80 rfl fy_11_12 h dd_Md_text_65 (fun H lo z1 h P => ?_)
  refine pj_aload_n C dd_Md_text_68 rfl hl 0 rfl ?_
  refine pj_aload_n C dd_Md_text_69 rfl hl 0 rfl ?_
  refine pj_getI C P 0 (LM0 hB) rfl fl_Md_149 dd_Md_text_70 ?_
  refine pj_putI C P 0 (LM0 hB) rfl fl_Md_201 rfl fy_11_19 h dd_Md_text_73 (fun H lo z2 h P => ?_)
  refine pj_aload_n C dd_Md_text_76 rfl hl 0 rfl ?_
  refine pj_iload_n C dd_Md_text_77 rfl hl 1 rfl ?_
  refine pj_if_eq C h dd_Md_text_78 (fun h => ?_) (fun h => ?_)
  · refine pj_aload_n C dd_Md_text_85 rfl hl 0 rfl ?_
    refine pj_getI C P 0 (LM0 hB) rfl fl_Md_152 dd_Md_text_86 ?_
    exact bt_Md_text_89 hB C Q _ _ _ _ _ _ h P (lv_sub hl [0, 1] rfl)
  · refine pj_iconst (v := (-1 : Int32)) C dd_Md_text_81 rfl ?_
    refine pj_goto C dd_Md_text_82 ?_
    exact bt_Md_text_89 hB C Q _ _ _ _ _ _ h P (lv_sub hl [0, 1] rfl)
set_option maxHeartbeats 4000000 in
set_option maxRecDepth 100000 in
theorem bt_Md_text_26 {B : pj_B} {A : Nat → Prop} {K : pj_K} {r0 : Int32} {z0 : pj_S} (hB : B.2.2.2.1 = pj_LM) (C : pj_C B A K cX11_text 3 RX11 53) (Q : pj_Qi B A K (some .int) r0 z0) (s26 : Int32 → pj_S → Option (Int32 × pj_S)) (k26 : ∀ (v1 : Int32) (z : pj_S) (H : Heap) (lo : List Loc) (ls : Array Slot), s26 v1 z = some (r0, z0) → pj_P B A K z H lo → lv_has ls 3 [(0, .ref (B.2.1 0)), (1, .int v1)] → pj_W K H lo 26 ls []) (v1 : Int32) (z : pj_S) (H : Heap) (lo : List Loc) (ls : Array Slot) (h : Md_text_26 s26 v1 z = some (r0, z0)) (P : pj_P B A K z H lo) (hl : lv_has ls 3 [(0, .ref (B.2.1 0)), (1, .int v1)]) : pj_W K H lo 26 ls [] := by
  unfold Md_text_26 at h
  refine pj_iload_n C dd_Md_text_26 rfl hl 1 rfl ?_
  refine pj_if_eq C h dd_Md_text_27 (fun h => ?_) (fun h => ?_)
  · exact bt_Md_text_63 hB C Q _ _ _ _ _ h P (lv_sub hl [0, 1] rfl)
  · refine pj_aload_n C dd_Md_text_30 rfl hl 0 rfl ?_
    refine pj_getI C P 0 (LM0 hB) rfl fl_Md_134 dd_Md_text_31 ?_
    refine pj_if_eq C h dd_Md_text_34 (fun h => ?_) (fun h => ?_)
    · exact bt_Md_text_63 hB C Q _ _ _ _ _ h P (lv_sub hl [0, 1] rfl)
    · refine pj_aload_n C dd_Md_text_37 rfl hl 0 rfl ?_
      obtain ⟨r3, z2, e1, h⟩ := pj_cE h
      refine pj_cVi (st := []) [] C P 0 (LM0 hB) rfl (ct_Md_aLine hB e1) cl_Md_198 rfl (by decide) (by decide) hl.1 (Nat.le_of_ble_eq_true rfl) dd_Md_text_38 (fun H lo P => ?_)
      refine pj_istore_n [(1, .int r3), (0, .ref (B.2.1 0))] C dd_Md_text_41 rfl hl (by decide) rfl (fun ls hl => ?_)
      refine pj_aload_n C dd_Md_text_42 rfl hl 1 rfl ?_
      refine pj_dup C dd_Md_text_43 rfl ?_
      refine pj_getI C P 0 (LM0 hB) rfl fl_Md_195 dd_Md_text_44 ?_
      refine pj_iload_n C dd_Md_text_47 rfl hl 0 rfl ?_
      refine pj_if_eq C h dd_Md_text_48 (fun h => ?_) (fun h => ?_)
      · refine pj_iconst (v := (nI 0)) C dd_Md_text_55 rfl ?_
        exact bt_Md_text_56 hB C Q s26 k26 _ _ _ _ _ _ _ h P (lv_sub hl [1, 0] rfl)
      · refine pj_iconst (v := (nI 1)) C dd_Md_text_51 rfl ?_
        refine pj_goto C dd_Md_text_52 ?_
        exact bt_Md_text_56 hB C Q s26 k26 _ _ _ _ _ _ _ h P (lv_sub hl [1, 0] rfl)
theorem lt_Md_text_26 {B : pj_B} {A : Nat → Prop} {K : pj_K} {r0 : Int32} {z0 : pj_S} (hB : B.2.2.2.1 = pj_LM) (C : pj_C B A K cX11_text 3 RX11 53) (Q : pj_Qi B A K (some .int) r0 z0)  : ∀ (n : Nat) (v1 : Int32) (z : pj_S) (H : Heap) (lo : List Loc) (ls : Array Slot), pj_lp1 Md_text_26 n v1 z = some (r0, z0) → pj_P B A K z H lo → lv_has ls 3 [(0, .ref (B.2.1 0)), (1, .int v1)] → pj_W K H lo 26 ls [] := by
  intro n
  induction n with
  | zero => intro v1 z H lo ls h; rw [pj_lp1_0] at h; cases h
  | succ n ih =>
    intro v1 z H lo ls h P hl
    rw [pj_lp1_s] at h
    exact bt_Md_text_26 hB C Q   (pj_lp1 Md_text_26 n) ih v1 z H lo ls h P hl
set_option maxHeartbeats 4000000 in
set_option maxRecDepth 100000 in
theorem ct_Md_text {l : Launch} {B : pj_B} (hB : B.2.2.2.1 = pj_LM)  {z : pj_S} {r0 : Int32} {z0 : pj_S} (h : Md_text z = some (r0, z0)) : pj_Mi l yX11_text cX11_text 3 (some .int) 53 [.ref (B.2.1 0)] B z r0 z0 := by
  refine pj_meti (own := RX11) (by decide +kernel) rfl (Nat.le_of_ble_eq_true rfl) ?_
  intro A K hK C Q H lo ls P hl
  have hl : lv_has ls 3 [(0, .ref (B.2.1 0))] := hl
  unfold Md_text at h
  refine pj_aload_n C dd_Md_text_0 rfl hl 0 rfl ?_
  refine pj_iconst (v := (nI 0)) C dd_Md_text_1 rfl ?_
  refine pj_putI C P 0 (LM0 hB) rfl fl_Md_149 rfl fy_11_17 h dd_Md_text_2 (fun H lo z1 h P => ?_)
  refine pj_aload_n C dd_Md_text_5 rfl hl 0 rfl ?_
  refine pj_iconst (v := (nI 0)) C dd_Md_text_6 rfl ?_
  refine pj_putI C P 0 (LM0 hB) rfl fl_Md_83 rfl fy_11_13 h dd_Md_text_7 (fun H lo z2 h P => ?_)
  refine pj_aload_n C dd_Md_text_10 rfl hl 0 rfl ?_
  refine pj_iconst (v := (nI 0)) C dd_Md_text_11 rfl ?_
  refine pj_putI C P 0 (LM0 hB) rfl fl_Md_195 rfl fy_11_10 h dd_Md_text_12 (fun H lo z3 h P => ?_)
  refine pj_aload_n C dd_Md_text_15 rfl hl 0 rfl ?_
  refine pj_iconst (v := (nI 0)) C dd_Md_text_16 rfl ?_
  refine pj_putI C P 0 (LM0 hB) rfl fl_Md_161 rfl fy_11_11 h dd_Md_text_17 (fun H lo z4 h P => ?_)
  refine pj_aload_n C dd_Md_text_20 rfl hl 0 rfl ?_
  obtain ⟨r7, z6, e5, h⟩ := pj_cE h
  refine pj_cVv (st := []) [] C P 0 (LM0 hB) rfl (ct_Md_next0 hB e5) cl_Md_158 rfl (by decide) (by decide) hl.1 (Nat.le_of_ble_eq_true rfl) dd_Md_text_21 (fun H lo P => ?_)
  refine pj_iconst (v := (nI 1)) C dd_Md_text_24 rfl ?_
  refine pj_istore_n [(1, .int (nI 1)), (0, .ref (B.2.1 0))] C dd_Md_text_25 rfl hl (by decide) rfl (fun ls hl => ?_)
  exact lt_Md_text_26 hB C Q 4000 _ _ _ _ _ h P (lv_sub hl [1, 0] rfl)
theorem dd_Md_fault_0 : pj_d cX11_fault 0 (.iload_n 1) 1 1 := ⟨by decide +kernel, rfl⟩
theorem dd_Md_fault_1 : pj_dj cX11_fault 1 (.ifCond .ne 10) 10 4 11 := ⟨by decide +kernel, rfl, by decide⟩
theorem dd_Md_fault_4 : pj_d cX11_fault 4 (.aload_n 0) 1 5 := ⟨by decide +kernel, rfl⟩
theorem dd_Md_fault_5 : pj_d cX11_fault 5 (.getfield 201) 3 8 := ⟨by decide +kernel, rfl⟩
theorem dd_Md_fault_8 : pj_dj cX11_fault 8 (.goto 16) 16 11 24 := ⟨by decide +kernel, rfl, by decide⟩
theorem dd_Md_fault_11 : pj_d cX11_fault 11 (.iload_n 1) 1 12 := ⟨by decide +kernel, rfl⟩
theorem dd_Md_fault_12 : pj_d cX11_fault 12 (.iconst 1) 1 13 := ⟨by decide +kernel, rfl⟩
theorem dd_Md_fault_13 : pj_dj cX11_fault 13 (.if_icmp .ne 10) 10 16 23 := ⟨by decide +kernel, rfl, by decide⟩
theorem dd_Md_fault_16 : pj_d cX11_fault 16 (.aload_n 0) 1 17 := ⟨by decide +kernel, rfl⟩
theorem dd_Md_fault_17 : pj_d cX11_fault 17 (.getfield 34) 3 20 := ⟨by decide +kernel, rfl⟩
theorem dd_Md_fault_20 : pj_dj cX11_fault 20 (.goto 4) 4 23 24 := ⟨by decide +kernel, rfl, by decide⟩
theorem dd_Md_fault_23 : pj_d cX11_fault 23 (.iconst (-1)) 1 24 := ⟨by decide +kernel, rfl⟩
theorem dd_Md_fault_24 : pj_d cX11_fault 24 (.ireturn) 1 25 := ⟨by decide +kernel, rfl⟩
set_option maxHeartbeats 4000000 in
set_option maxRecDepth 100000 in
theorem ct_Md_fault {l : Launch} {B : pj_B} (hB : B.2.2.2.1 = pj_LM) {v1 : Int32} {z : pj_S} {r0 : Int32} {z0 : pj_S} (h : Md_fault v1 z = some (r0, z0)) : pj_Mi l yX11_fault cX11_fault 2 (some .int) 1 [.ref (B.2.1 0), .int v1] B z r0 z0 := by
  refine pj_meti (own := RX11) (by decide +kernel) rfl (Nat.le_of_ble_eq_true rfl) ?_
  intro A K hK C Q H lo ls P hl
  have hl : lv_has ls 2 [(0, .ref (B.2.1 0)), (1, .int v1)] := hl
  unfold Md_fault at h
  refine pj_iload_n C dd_Md_fault_0 rfl hl 1 rfl ?_
  refine pj_if_ne C h dd_Md_fault_1 (fun h => ?_) (fun h => ?_)
  · refine pj_iload_n C dd_Md_fault_11 rfl hl 1 rfl ?_
    refine pj_iconst (v := (nI 1)) C dd_Md_fault_12 rfl ?_
    refine pj_ic_ne C h dd_Md_fault_13 (fun h => ?_) (fun h => ?_)
    · refine pj_iconst (v := (-1 : Int32)) C dd_Md_fault_23 rfl ?_
      exact pj_iret C Q P h dd_Md_fault_24
    · refine pj_aload_n C dd_Md_fault_16 rfl hl 0 rfl ?_
      refine pj_getI C P 0 (LM0 hB) rfl fl_Md_34 dd_Md_fault_17 ?_
      refine pj_goto C dd_Md_fault_20 ?_
      exact pj_iret C Q P h dd_Md_fault_24
  · refine pj_aload_n C dd_Md_fault_4 rfl hl 0 rfl ?_
    refine pj_getI C P 0 (LM0 hB) rfl fl_Md_201 dd_Md_fault_5 ?_
    refine pj_goto C dd_Md_fault_8 ?_
    exact pj_iret C Q P h dd_Md_fault_24
theorem dd_Md_placeOf_0 : pj_d cX11_placeOf 0 (.iload_n 1) 1 1 := ⟨by decide +kernel, rfl⟩
theorem dd_Md_placeOf_1 : pj_d cX11_placeOf 1 (.bipush 8) 2 3 := ⟨by decide +kernel, rfl⟩
theorem dd_Md_placeOf_3 : pj_d cX11_placeOf 3 (.idiv) 1 4 := ⟨by decide +kernel, rfl⟩
theorem dd_Md_placeOf_4 : pj_d cX11_placeOf 4 (.istore_n 2) 1 5 := ⟨by decide +kernel, rfl⟩
theorem dd_Md_placeOf_5 : pj_d cX11_placeOf 5 (.iload_n 1) 1 6 := ⟨by decide +kernel, rfl⟩
theorem dd_Md_placeOf_6 : pj_d cX11_placeOf 6 (.bipush 8) 2 8 := ⟨by decide +kernel, rfl⟩
theorem dd_Md_placeOf_8 : pj_d cX11_placeOf 8 (.irem) 1 9 := ⟨by decide +kernel, rfl⟩
theorem dd_Md_placeOf_9 : pj_d cX11_placeOf 9 (.istore_n 3) 1 10 := ⟨by decide +kernel, rfl⟩
theorem dd_Md_placeOf_10 : pj_d cX11_placeOf 10 (.iload_n 2) 1 11 := ⟨by decide +kernel, rfl⟩
theorem dd_Md_placeOf_11 : pj_d cX11_placeOf 11 (.aload_n 0) 1 12 := ⟨by decide +kernel, rfl⟩
theorem dd_Md_placeOf_12 : pj_d cX11_placeOf 12 (.getfield 7) 3 15 := ⟨by decide +kernel, rfl⟩
theorem dd_Md_placeOf_15 : pj_d cX11_placeOf 15 (.iconst 0) 1 16 := ⟨by decide +kernel, rfl⟩
theorem dd_Md_placeOf_16 : pj_d cX11_placeOf 16 (.iaload) 1 17 := ⟨by decide +kernel, rfl⟩
theorem dd_Md_placeOf_17 : pj_d cX11_placeOf 17 (.imul) 1 18 := ⟨by decide +kernel, rfl⟩
theorem dd_Md_placeOf_18 : pj_d cX11_placeOf 18 (.iload_n 2) 1 19 := ⟨by decide +kernel, rfl⟩
theorem dd_Md_placeOf_19 : pj_d cX11_placeOf 19 (.iconst 2) 1 20 := ⟨by decide +kernel, rfl⟩
theorem dd_Md_placeOf_20 : pj_d cX11_placeOf 20 (.irem) 1 21 := ⟨by decide +kernel, rfl⟩
theorem dd_Md_placeOf_21 : pj_dj cX11_placeOf 21 (.ifCond .ne 7) 7 24 28 := ⟨by decide +kernel, rfl, by decide⟩
theorem dd_Md_placeOf_24 : pj_d cX11_placeOf 24 (.iload_n 3) 1 25 := ⟨by decide +kernel, rfl⟩
theorem dd_Md_placeOf_25 : pj_dj cX11_placeOf 25 (.goto 13) 13 28 38 := ⟨by decide +kernel, rfl, by decide⟩
theorem dd_Md_placeOf_28 : pj_d cX11_placeOf 28 (.aload_n 0) 1 29 := ⟨by decide +kernel, rfl⟩
theorem dd_Md_placeOf_29 : pj_d cX11_placeOf 29 (.getfield 7) 3 32 := ⟨by decide +kernel, rfl⟩
theorem dd_Md_placeOf_32 : pj_d cX11_placeOf 32 (.iconst 0) 1 33 := ⟨by decide +kernel, rfl⟩
theorem dd_Md_placeOf_33 : pj_d cX11_placeOf 33 (.iaload) 1 34 := ⟨by decide +kernel, rfl⟩
theorem dd_Md_placeOf_34 : pj_d cX11_placeOf 34 (.iconst 1) 1 35 := ⟨by decide +kernel, rfl⟩
theorem dd_Md_placeOf_35 : pj_d cX11_placeOf 35 (.isub) 1 36 := ⟨by decide +kernel, rfl⟩
theorem dd_Md_placeOf_36 : pj_d cX11_placeOf 36 (.iload_n 3) 1 37 := ⟨by decide +kernel, rfl⟩
theorem dd_Md_placeOf_37 : pj_d cX11_placeOf 37 (.isub) 1 38 := ⟨by decide +kernel, rfl⟩
theorem dd_Md_placeOf_38 : pj_d cX11_placeOf 38 (.iadd) 1 39 := ⟨by decide +kernel, rfl⟩
theorem dd_Md_placeOf_39 : pj_d cX11_placeOf 39 (.ireturn) 1 40 := ⟨by decide +kernel, rfl⟩
set_option maxHeartbeats 4000000 in
set_option maxRecDepth 100000 in
theorem bt_Md_placeOf_38 {B : pj_B} {A : Nat → Prop} {K : pj_K} {r0 : Int32} {z0 : pj_S} (hB : B.2.2.2.1 = pj_LM) (C : pj_C B A K cX11_placeOf 4 RX11 1) (Q : pj_Qi B A K (some .int) r0 z0)  (t0 : Int32) (t1 : Int32) (z : pj_S) (H : Heap) (lo : List Loc) (ls : Array Slot) (h : Md_placeOf_38 t0 t1 z = some (r0, z0)) (P : pj_P B A K z H lo) (hl : lv_has ls 4 []) : pj_W K H lo 38 ls [.int t0, .int t1] := by
  unfold Md_placeOf_38 at h
  refine pj_iadd C dd_Md_placeOf_38 ?_
  exact pj_iret C Q P h dd_Md_placeOf_39
set_option maxHeartbeats 4000000 in
set_option maxRecDepth 100000 in
theorem ct_Md_placeOf {l : Launch} {B : pj_B} (hB : B.2.2.2.1 = pj_LM) {v1 : Int32} {z : pj_S} {r0 : Int32} {z0 : pj_S} (h : Md_placeOf v1 z = some (r0, z0)) : pj_Mi l yX11_placeOf cX11_placeOf 4 (some .int) 1 [.ref (B.2.1 0), .int v1] B z r0 z0 := by
  refine pj_meti (own := RX11) (by decide +kernel) rfl (Nat.le_of_ble_eq_true rfl) ?_
  intro A K hK C Q H lo ls P hl
  have hl : lv_has ls 4 [(0, .ref (B.2.1 0)), (1, .int v1)] := hl
  unfold Md_placeOf at h
  refine pj_iload_n C dd_Md_placeOf_0 rfl hl 1 rfl ?_
  refine pj_bipush (v := (nI 8)) C dd_Md_placeOf_1 rfl ?_
  refine pj_idiv C h dd_Md_placeOf_3 (fun h => ?_)
  refine pj_istb_n [(0, .ref (B.2.1 0)), (1, .int v1)] C h dd_Md_placeOf_4 rfl hl (by decide) rfl (fun x1 ls h hl => ?_)
  refine pj_iload_n C dd_Md_placeOf_5 rfl hl 2 rfl ?_
  refine pj_bipush (v := (nI 8)) C dd_Md_placeOf_6 rfl ?_
  refine pj_irem C h dd_Md_placeOf_8 (fun h => ?_)
  refine pj_istb_n [(2, .int x1), (0, .ref (B.2.1 0)), (1, .int v1)] C h dd_Md_placeOf_9 rfl hl (by decide) rfl (fun x2 ls h hl => ?_)
  refine pj_iload_n C dd_Md_placeOf_10 rfl hl 1 rfl ?_
  refine pj_aload_n C dd_Md_placeOf_11 rfl hl 2 rfl ?_
  refine pj_getR C P 0 (LM0 hB) rfl fl_Md_7 dd_Md_placeOf_12 ?_
  refine pj_iconst (v := (nI 0)) C dd_Md_placeOf_15 rfl ?_
  refine pj_iald C P 1 (LM1 hB) h dd_Md_placeOf_16 (fun h => ?_)
  refine pj_imul C dd_Md_placeOf_17 ?_
  refine pj_iload_n C dd_Md_placeOf_18 rfl hl 1 rfl ?_
  refine pj_iconst (v := (nI 2)) C dd_Md_placeOf_19 rfl ?_
  refine pj_irem C h dd_Md_placeOf_20 (fun h => ?_)
  refine pj_if_ne C h dd_Md_placeOf_21 (fun h => ?_) (fun h => ?_)
  · refine pj_aload_n C dd_Md_placeOf_28 rfl hl 2 rfl ?_
    refine pj_getR C P 0 (LM0 hB) rfl fl_Md_7 dd_Md_placeOf_29 ?_
    refine pj_iconst (v := (nI 0)) C dd_Md_placeOf_32 rfl ?_
    refine pj_iald C P 1 (LM1 hB) h dd_Md_placeOf_33 (fun h => ?_)
    refine pj_iconst (v := (nI 1)) C dd_Md_placeOf_34 rfl ?_
    refine pj_isub C dd_Md_placeOf_35 ?_
    refine pj_iload_n C dd_Md_placeOf_36 rfl hl 0 rfl ?_
    refine pj_isub C dd_Md_placeOf_37 ?_
    exact bt_Md_placeOf_38 hB C Q _ _ _ _ _ _ h P (lv_sub hl [] rfl)
  · refine pj_iload_n C dd_Md_placeOf_24 rfl hl 0 rfl ?_
    refine pj_goto C dd_Md_placeOf_25 ?_
    exact bt_Md_placeOf_38 hB C Q _ _ _ _ _ _ h P (lv_sub hl [] rfl)
theorem dd_Md_of_0 : pj_d cX11_of 0 (.aload_n 0) 1 1 := ⟨by decide +kernel, rfl⟩
theorem dd_Md_of_1 : pj_d cX11_of 1 (.iload_n 1) 1 2 := ⟨by decide +kernel, rfl⟩
theorem dd_Md_of_2 : pj_d cX11_of 2 (.invokevirtual 63) 3 5 := ⟨by decide +kernel, rfl⟩
theorem dd_Md_of_5 : pj_dj cX11_of 5 (.ifCond .eq 13) 13 8 18 := ⟨by decide +kernel, rfl, by decide⟩
theorem dd_Md_of_8 : pj_d cX11_of 8 (.iload_n 2) 1 9 := ⟨by decide +kernel, rfl⟩
theorem dd_Md_of_9 : pj_d cX11_of 9 (.iconst 0) 1 10 := ⟨by decide +kernel, rfl⟩
theorem dd_Md_of_10 : pj_d cX11_of 10 (.bipush 6) 2 12 := ⟨by decide +kernel, rfl⟩
theorem dd_Md_of_12 : pj_d cX11_of 12 (.invokestatic 70) 3 15 := ⟨by decide +kernel, rfl⟩
theorem dd_Md_of_15 : pj_dj cX11_of 15 (.ifCond .ne 5) 5 18 20 := ⟨by decide +kernel, rfl, by decide⟩
theorem dd_Md_of_18 : pj_d cX11_of 18 (.iconst (-1)) 1 19 := ⟨by decide +kernel, rfl⟩
theorem dd_Md_of_19 : pj_d cX11_of 19 (.ireturn) 1 20 := ⟨by decide +kernel, rfl⟩
theorem dd_Md_of_20 : pj_d cX11_of 20 (.aload_n 0) 1 21 := ⟨by decide +kernel, rfl⟩
theorem dd_Md_of_21 : pj_d cX11_of 21 (.invokevirtual 267) 3 24 := ⟨by decide +kernel, rfl⟩
theorem dd_Md_of_24 : pj_d cX11_of 24 (.aload_n 0) 1 25 := ⟨by decide +kernel, rfl⟩
theorem dd_Md_of_25 : pj_d cX11_of 25 (.invokevirtual 270) 3 28 := ⟨by decide +kernel, rfl⟩
theorem dd_Md_of_28 : pj_d cX11_of 28 (.iload_n 2) 1 29 := ⟨by decide +kernel, rfl⟩
theorem dd_Md_of_29 : pj_d cX11_of 29 (.tableswitch 105 0 6 #[43, 53, 63, 74, 88, 105, 94]) 43 72 := ⟨by decide +kernel, rfl⟩
theorem dd_Md_of_72 : pj_d cX11_of 72 (.aload_n 0) 1 73 := ⟨by decide +kernel, rfl⟩
theorem dd_Md_of_73 : pj_d cX11_of 73 (.getfield 7) 3 76 := ⟨by decide +kernel, rfl⟩
theorem dd_Md_of_76 : pj_d cX11_of 76 (.bipush 10) 2 78 := ⟨by decide +kernel, rfl⟩
theorem dd_Md_of_78 : pj_d cX11_of 78 (.iload_n 1) 1 79 := ⟨by decide +kernel, rfl⟩
theorem dd_Md_of_79 : pj_d cX11_of 79 (.iadd) 1 80 := ⟨by decide +kernel, rfl⟩
theorem dd_Md_of_80 : pj_d cX11_of 80 (.iaload) 1 81 := ⟨by decide +kernel, rfl⟩
theorem dd_Md_of_81 : pj_d cX11_of 81 (.ireturn) 1 82 := ⟨by decide +kernel, rfl⟩
theorem dd_Md_of_82 : pj_d cX11_of 82 (.aload_n 0) 1 83 := ⟨by decide +kernel, rfl⟩
theorem dd_Md_of_83 : pj_d cX11_of 83 (.getfield 7) 3 86 := ⟨by decide +kernel, rfl⟩
theorem dd_Md_of_86 : pj_d cX11_of 86 (.bipush 74) 2 88 := ⟨by decide +kernel, rfl⟩
theorem dd_Md_of_88 : pj_d cX11_of 88 (.iload_n 1) 1 89 := ⟨by decide +kernel, rfl⟩
theorem dd_Md_of_89 : pj_d cX11_of 89 (.iadd) 1 90 := ⟨by decide +kernel, rfl⟩
theorem dd_Md_of_90 : pj_d cX11_of 90 (.iaload) 1 91 := ⟨by decide +kernel, rfl⟩
theorem dd_Md_of_91 : pj_d cX11_of 91 (.ireturn) 1 92 := ⟨by decide +kernel, rfl⟩
theorem dd_Md_of_92 : pj_d cX11_of 92 (.aload_n 0) 1 93 := ⟨by decide +kernel, rfl⟩
theorem dd_Md_of_93 : pj_d cX11_of 93 (.getfield 7) 3 96 := ⟨by decide +kernel, rfl⟩
theorem dd_Md_of_96 : pj_d cX11_of 96 (.sipush 138) 3 99 := ⟨by decide +kernel, rfl⟩
theorem dd_Md_of_99 : pj_d cX11_of 99 (.iload_n 1) 1 100 := ⟨by decide +kernel, rfl⟩
theorem dd_Md_of_100 : pj_d cX11_of 100 (.iadd) 1 101 := ⟨by decide +kernel, rfl⟩
theorem dd_Md_of_101 : pj_d cX11_of 101 (.iaload) 1 102 := ⟨by decide +kernel, rfl⟩
theorem dd_Md_of_102 : pj_d cX11_of 102 (.ireturn) 1 103 := ⟨by decide +kernel, rfl⟩
theorem dd_Md_of_103 : pj_d cX11_of 103 (.aload_n 0) 1 104 := ⟨by decide +kernel, rfl⟩
theorem dd_Md_of_104 : pj_d cX11_of 104 (.iload_n 1) 1 105 := ⟨by decide +kernel, rfl⟩
theorem dd_Md_of_105 : pj_d cX11_of 105 (.invokevirtual 217) 3 108 := ⟨by decide +kernel, rfl⟩
theorem dd_Md_of_108 : pj_dj cX11_of 108 (.ifCond .eq 7) 7 111 115 := ⟨by decide +kernel, rfl, by decide⟩
theorem dd_Md_of_111 : pj_d cX11_of 111 (.iconst 1) 1 112 := ⟨by decide +kernel, rfl⟩
theorem dd_Md_of_112 : pj_dj cX11_of 112 (.goto 4) 4 115 116 := ⟨by decide +kernel, rfl, by decide⟩
theorem dd_Md_of_115 : pj_d cX11_of 115 (.iconst 0) 1 116 := ⟨by decide +kernel, rfl⟩
theorem dd_Md_of_116 : pj_d cX11_of 116 (.ireturn) 1 117 := ⟨by decide +kernel, rfl⟩
theorem dd_Md_of_117 : pj_d cX11_of 117 (.aload_n 0) 1 118 := ⟨by decide +kernel, rfl⟩
theorem dd_Md_of_118 : pj_d cX11_of 118 (.iload_n 1) 1 119 := ⟨by decide +kernel, rfl⟩
theorem dd_Md_of_119 : pj_d cX11_of 119 (.invokevirtual 289) 3 122 := ⟨by decide +kernel, rfl⟩
theorem dd_Md_of_122 : pj_d cX11_of 122 (.ireturn) 1 123 := ⟨by decide +kernel, rfl⟩
theorem dd_Md_of_123 : pj_d cX11_of 123 (.aload_n 0) 1 124 := ⟨by decide +kernel, rfl⟩
theorem dd_Md_of_124 : pj_d cX11_of 124 (.getfield 7) 3 127 := ⟨by decide +kernel, rfl⟩
theorem dd_Md_of_127 : pj_d cX11_of 127 (.sipush 1490) 3 130 := ⟨by decide +kernel, rfl⟩
theorem dd_Md_of_130 : pj_d cX11_of 130 (.iload_n 1) 1 131 := ⟨by decide +kernel, rfl⟩
theorem dd_Md_of_131 : pj_d cX11_of 131 (.iadd) 1 132 := ⟨by decide +kernel, rfl⟩
theorem dd_Md_of_132 : pj_d cX11_of 132 (.iaload) 1 133 := ⟨by decide +kernel, rfl⟩
theorem dd_Md_of_133 : pj_d cX11_of 133 (.ireturn) 1 134 := ⟨by decide +kernel, rfl⟩
theorem dd_Md_of_134 : pj_d cX11_of 134 (.aload_n 0) 1 135 := ⟨by decide +kernel, rfl⟩
theorem dd_Md_of_135 : pj_d cX11_of 135 (.iload_n 1) 1 136 := ⟨by decide +kernel, rfl⟩
theorem dd_Md_of_136 : pj_d cX11_of 136 (.invokevirtual 220) 3 139 := ⟨by decide +kernel, rfl⟩
theorem dd_Md_of_139 : pj_dj cX11_of 139 (.ifCond .eq 11) 11 142 150 := ⟨by decide +kernel, rfl, by decide⟩
theorem dd_Md_of_142 : pj_d cX11_of 142 (.aload_n 0) 1 143 := ⟨by decide +kernel, rfl⟩
theorem dd_Md_of_143 : pj_d cX11_of 143 (.iload_n 1) 1 144 := ⟨by decide +kernel, rfl⟩
theorem dd_Md_of_144 : pj_d cX11_of 144 (.invokevirtual 280) 3 147 := ⟨by decide +kernel, rfl⟩
theorem dd_Md_of_147 : pj_dj cX11_of 147 (.goto 4) 4 150 151 := ⟨by decide +kernel, rfl, by decide⟩
theorem dd_Md_of_150 : pj_d cX11_of 150 (.iconst 0) 1 151 := ⟨by decide +kernel, rfl⟩
theorem dd_Md_of_151 : pj_d cX11_of 151 (.ireturn) 1 152 := ⟨by decide +kernel, rfl⟩
set_option maxHeartbeats 4000000 in
set_option maxRecDepth 100000 in
theorem ct_Md_of {l : Launch} {B : pj_B} (hB : B.2.2.2.1 = pj_LM) {v1 : Int32} {v2 : Int32} {z : pj_S} {r0 : Int32} {z0 : pj_S} (h : Md_of v1 v2 z = some (r0, z0)) : pj_Mi l yX11_of cX11_of 3 (some .int) 4 [.ref (B.2.1 0), .int v1, .int v2] B z r0 z0 := by
  refine pj_meti (own := RX11) (by decide +kernel) rfl (Nat.le_of_ble_eq_true rfl) ?_
  intro A K hK C Q H lo ls P hl
  have hl : lv_has ls 3 [(0, .ref (B.2.1 0)), (1, .int v1), (2, .int v2)] := hl
  unfold Md_of at h
  refine pj_aload_n C dd_Md_of_0 rfl hl 0 rfl ?_
  refine pj_iload_n C dd_Md_of_1 rfl hl 1 rfl ?_
  obtain ⟨r3, z2, e1, h⟩ := pj_cE h
  refine pj_cVi (st := []) [.int v1] C P 0 (LM0 hB) rfl (ct_Md_isStitch hB e1) cl_Md_63 rfl (by decide) (by decide) hl.1 (Nat.le_of_ble_eq_true rfl) dd_Md_of_2 (fun H lo P => ?_)
  refine pj_if_eq C h dd_Md_of_5 (fun h => ?_) (fun h => ?_)
  · refine pj_iconst (v := (-1 : Int32)) C dd_Md_of_18 rfl ?_
    exact pj_iret C Q P h dd_Md_of_19
  · refine pj_iload_n C dd_Md_of_8 rfl hl 2 rfl ?_
    refine pj_iconst (v := (nI 0)) C dd_Md_of_9 rfl ?_
    refine pj_bipush (v := (nI 6)) C dd_Md_of_10 rfl ?_
    obtain ⟨r6, z5, e4, h⟩ := pj_cE h
    refine pj_cSi (st := []) [.int v2, .int (nI 0), .int (nI 6)] C P (ct_Md_isInM hB e4) cl_Md_70 rfl (by decide) (by decide) hl.1 (Nat.le_of_ble_eq_true rfl) dd_Md_of_12 (fun H lo P => ?_)
    refine pj_if_ne C h dd_Md_of_15 (fun h => ?_) (fun h => ?_)
    · refine pj_aload_n C dd_Md_of_20 rfl hl 0 rfl ?_
      obtain ⟨r9, z8, e7, h⟩ := pj_cE h
      refine pj_cVv (st := []) [] C P 0 (LM0 hB) rfl (ct_Md_laysNow hB e7) cl_Md_267 rfl (by decide) (by decide) hl.1 (Nat.le_of_ble_eq_true rfl) dd_Md_of_21 (fun H lo P => ?_)
      refine pj_aload_n C dd_Md_of_24 rfl hl 0 rfl ?_
      obtain ⟨r12, z11, e10, h⟩ := pj_cE h
      refine pj_cVv (st := []) [] C P 0 (LM0 hB) rfl (ct_Md_laysHolders hB e10) cl_Md_270 rfl (by decide) (by decide) hl.1 (Nat.le_of_ble_eq_true rfl) dd_Md_of_25 (fun H lo P => ?_)
      refine pj_iload_n C dd_Md_of_28 rfl hl 2 rfl ?_
      refine pj_sw h (fun c0 h => ?_) (fun c0 h => ?_)
      · refine pj_swI (nI 0) (43) 72 C dd_Md_of_29 c0 (by decide) ?_
        refine pj_aload_n C dd_Md_of_72 rfl hl 0 rfl ?_
        refine pj_getR C P 0 (LM0 hB) rfl fl_Md_7 dd_Md_of_73 ?_
        refine pj_bipush (v := (nI 10)) C dd_Md_of_76 rfl ?_
        refine pj_iload_n C dd_Md_of_78 rfl hl 1 rfl ?_
        refine pj_iadd C dd_Md_of_79 ?_
        refine pj_iald C P 1 (LM1 hB) h dd_Md_of_80 (fun h => ?_)
        exact pj_iret C Q P h dd_Md_of_81
      refine pj_sw h (fun c1 h => ?_) (fun c1 h => ?_)
      · refine pj_swI (nI 1) (53) 82 C dd_Md_of_29 c1 (by decide) ?_
        refine pj_aload_n C dd_Md_of_82 rfl hl 0 rfl ?_
        refine pj_getR C P 0 (LM0 hB) rfl fl_Md_7 dd_Md_of_83 ?_
        refine pj_bipush (v := (nI 74)) C dd_Md_of_86 rfl ?_
        refine pj_iload_n C dd_Md_of_88 rfl hl 1 rfl ?_
        refine pj_iadd C dd_Md_of_89 ?_
        refine pj_iald C P 1 (LM1 hB) h dd_Md_of_90 (fun h => ?_)
        exact pj_iret C Q P h dd_Md_of_91
      refine pj_sw h (fun c2 h => ?_) (fun c2 h => ?_)
      · refine pj_swI (nI 2) (63) 92 C dd_Md_of_29 c2 (by decide) ?_
        refine pj_aload_n C dd_Md_of_92 rfl hl 0 rfl ?_
        refine pj_getR C P 0 (LM0 hB) rfl fl_Md_7 dd_Md_of_93 ?_
        refine pj_sipush (v := (nI 138)) C dd_Md_of_96 rfl ?_
        refine pj_iload_n C dd_Md_of_99 rfl hl 1 rfl ?_
        refine pj_iadd C dd_Md_of_100 ?_
        refine pj_iald C P 1 (LM1 hB) h dd_Md_of_101 (fun h => ?_)
        exact pj_iret C Q P h dd_Md_of_102
      refine pj_sw h (fun c3 h => ?_) (fun c3 h => ?_)
      · refine pj_swI (nI 3) (74) 103 C dd_Md_of_29 c3 (by decide) ?_
        refine pj_aload_n C dd_Md_of_103 rfl hl 0 rfl ?_
        refine pj_iload_n C dd_Md_of_104 rfl hl 1 rfl ?_
        obtain ⟨r15, z14, e13, h⟩ := pj_cE h
        refine pj_cVi (st := []) [.int v1] C P 0 (LM0 hB) rfl (ct_Md_isHeld hB e13) cl_Md_217 rfl (by decide) (by decide) hl.1 (Nat.le_of_ble_eq_true rfl) dd_Md_of_105 (fun H lo P => ?_)
        refine pj_if_eq C h dd_Md_of_108 (fun h => ?_) (fun h => ?_)
        · refine pj_iconst (v := (nI 0)) C dd_Md_of_115 rfl ?_
          exact pj_iret C Q P h dd_Md_of_116
        · refine pj_iconst (v := (nI 1)) C dd_Md_of_111 rfl ?_
          refine pj_goto C dd_Md_of_112 ?_
          exact pj_iret C Q P h dd_Md_of_116
      refine pj_sw h (fun c4 h => ?_) (fun c4 h => ?_)
      · refine pj_swI (nI 4) (88) 117 C dd_Md_of_29 c4 (by decide) ?_
        refine pj_aload_n C dd_Md_of_117 rfl hl 0 rfl ?_
        refine pj_iload_n C dd_Md_of_118 rfl hl 1 rfl ?_
        obtain ⟨r18, z17, e16, h⟩ := pj_cE h
        refine pj_cVi (st := []) [.int v1] C P 0 (LM0 hB) rfl (ct_Md_placeOf hB e16) cl_Md_289 rfl (by decide) (by decide) hl.1 (Nat.le_of_ble_eq_true rfl) dd_Md_of_119 (fun H lo P => ?_)
        exact pj_iret C Q P h dd_Md_of_122
      refine pj_sw h (fun c5 h => ?_) (fun c5 h => ?_)
      · refine pj_swI (nI 5) (105) 134 C dd_Md_of_29 c5 (by decide) ?_
        refine pj_aload_n C dd_Md_of_134 rfl hl 0 rfl ?_
        refine pj_iload_n C dd_Md_of_135 rfl hl 1 rfl ?_
        obtain ⟨r21, z20, e19, h⟩ := pj_cE h
        refine pj_cVi (st := []) [.int v1] C P 0 (LM0 hB) rfl (ct_Md_isLoose hB e19) cl_Md_220 rfl (by decide) (by decide) hl.1 (Nat.le_of_ble_eq_true rfl) dd_Md_of_136 (fun H lo P => ?_)
        refine pj_if_eq C h dd_Md_of_139 (fun h => ?_) (fun h => ?_)
        · refine pj_iconst (v := (nI 0)) C dd_Md_of_150 rfl ?_
          exact pj_iret C Q P h dd_Md_of_151
        · refine pj_aload_n C dd_Md_of_142 rfl hl 0 rfl ?_
          refine pj_iload_n C dd_Md_of_143 rfl hl 1 rfl ?_
          obtain ⟨r24, z23, e22, h⟩ := pj_cE h
          refine pj_cVi (st := []) [.int v1] C P 0 (LM0 hB) rfl (ct_Md_oddsOf hB e22) cl_Md_280 rfl (by decide) (by decide) hl.1 (Nat.le_of_ble_eq_true rfl) dd_Md_of_144 (fun H lo P => ?_)
          refine pj_goto C dd_Md_of_147 ?_
          exact pj_iret C Q P h dd_Md_of_151
      refine pj_sw h (fun c6 h => ?_) (fun c6 h => ?_)
      · refine pj_swI (nI 6) (94) 123 C dd_Md_of_29 c6 (by decide) ?_
        refine pj_aload_n C dd_Md_of_123 rfl hl 0 rfl ?_
        refine pj_getR C P 0 (LM0 hB) rfl fl_Md_7 dd_Md_of_124 ?_
        refine pj_sipush (v := (nI 1490)) C dd_Md_of_127 rfl ?_
        refine pj_iload_n C dd_Md_of_130 rfl hl 1 rfl ?_
        refine pj_iadd C dd_Md_of_131 ?_
        refine pj_iald C P 1 (LM1 hB) h dd_Md_of_132 (fun h => ?_)
        exact pj_iret C Q P h dd_Md_of_133
      have u0 := pj_nI c0 (n := 0) (by decide)
      have u1 := pj_nI c1 (n := 1) (by decide)
      have u2 := pj_nI c2 (n := 2) (by decide)
      have u3 := pj_nI c3 (n := 3) (by decide)
      have u4 := pj_nI c4 (n := 4) (by decide)
      have u5 := pj_nI c5 (n := 5) (by decide)
      have u6 := pj_nI c6 (n := 6) (by decide)
      refine pj_swO 134 C dd_Md_of_29 (by omega) (by decide) ?_
      refine pj_aload_n C dd_Md_of_134 rfl hl 0 rfl ?_
      refine pj_iload_n C dd_Md_of_135 rfl hl 1 rfl ?_
      obtain ⟨r27, z26, e25, h⟩ := pj_cE h
      refine pj_cVi (st := []) [.int v1] C P 0 (LM0 hB) rfl (ct_Md_isLoose hB e25) cl_Md_220 rfl (by decide) (by decide) hl.1 (Nat.le_of_ble_eq_true rfl) dd_Md_of_136 (fun H lo P => ?_)
      refine pj_if_eq C h dd_Md_of_139 (fun h => ?_) (fun h => ?_)
      · refine pj_iconst (v := (nI 0)) C dd_Md_of_150 rfl ?_
        exact pj_iret C Q P h dd_Md_of_151
      · refine pj_aload_n C dd_Md_of_142 rfl hl 0 rfl ?_
        refine pj_iload_n C dd_Md_of_143 rfl hl 1 rfl ?_
        obtain ⟨r30, z29, e28, h⟩ := pj_cE h
        refine pj_cVi (st := []) [.int v1] C P 0 (LM0 hB) rfl (ct_Md_oddsOf hB e28) cl_Md_280 rfl (by decide) (by decide) hl.1 (Nat.le_of_ble_eq_true rfl) dd_Md_of_144 (fun H lo P => ?_)
        refine pj_goto C dd_Md_of_147 ?_
        exact pj_iret C Q P h dd_Md_of_151
    · refine pj_iconst (v := (-1 : Int32)) C dd_Md_of_18 rfl ?_
      exact pj_iret C Q P h dd_Md_of_19
theorem dd_Md_at_0 : pj_d cX11_at 0 (.aload_n 0) 1 1 := ⟨by decide +kernel, rfl⟩
theorem dd_Md_at_1 : pj_d cX11_at 1 (.iload_n 1) 1 2 := ⟨by decide +kernel, rfl⟩
theorem dd_Md_at_2 : pj_d cX11_at 2 (.invokevirtual 246) 3 5 := ⟨by decide +kernel, rfl⟩
theorem dd_Md_at_5 : pj_dj cX11_at 5 (.ifCond .eq 12) 12 8 17 := ⟨by decide +kernel, rfl, by decide⟩
theorem dd_Md_at_8 : pj_d cX11_at 8 (.iload_n 2) 1 9 := ⟨by decide +kernel, rfl⟩
theorem dd_Md_at_9 : pj_d cX11_at 9 (.iconst 0) 1 10 := ⟨by decide +kernel, rfl⟩
theorem dd_Md_at_10 : pj_d cX11_at 10 (.iconst 3) 1 11 := ⟨by decide +kernel, rfl⟩
theorem dd_Md_at_11 : pj_d cX11_at 11 (.invokestatic 70) 3 14 := ⟨by decide +kernel, rfl⟩
theorem dd_Md_at_14 : pj_dj cX11_at 14 (.ifCond .ne 5) 5 17 19 := ⟨by decide +kernel, rfl, by decide⟩
theorem dd_Md_at_17 : pj_d cX11_at 17 (.iconst (-1)) 1 18 := ⟨by decide +kernel, rfl⟩
theorem dd_Md_at_18 : pj_d cX11_at 18 (.ireturn) 1 19 := ⟨by decide +kernel, rfl⟩
theorem dd_Md_at_19 : pj_d cX11_at 19 (.iload_n 2) 1 20 := ⟨by decide +kernel, rfl⟩
theorem dd_Md_at_20 : pj_dj cX11_at 20 (.ifCond .ne 9) 9 23 29 := ⟨by decide +kernel, rfl, by decide⟩
theorem dd_Md_at_23 : pj_d cX11_at 23 (.aload_n 0) 1 24 := ⟨by decide +kernel, rfl⟩
theorem dd_Md_at_24 : pj_d cX11_at 24 (.iload_n 1) 1 25 := ⟨by decide +kernel, rfl⟩
theorem dd_Md_at_25 : pj_d cX11_at 25 (.invokevirtual 258) 3 28 := ⟨by decide +kernel, rfl⟩
theorem dd_Md_at_28 : pj_d cX11_at 28 (.ireturn) 1 29 := ⟨by decide +kernel, rfl⟩
theorem dd_Md_at_29 : pj_d cX11_at 29 (.iload_n 2) 1 30 := ⟨by decide +kernel, rfl⟩
theorem dd_Md_at_30 : pj_d cX11_at 30 (.iconst 1) 1 31 := ⟨by decide +kernel, rfl⟩
theorem dd_Md_at_31 : pj_dj cX11_at 31 (.if_icmp .ne 16) 16 34 47 := ⟨by decide +kernel, rfl, by decide⟩
theorem dd_Md_at_34 : pj_d cX11_at 34 (.aload_n 0) 1 35 := ⟨by decide +kernel, rfl⟩
theorem dd_Md_at_35 : pj_d cX11_at 35 (.getfield 7) 3 38 := ⟨by decide +kernel, rfl⟩
theorem dd_Md_at_38 : pj_d cX11_at 38 (.sipush 202) 3 41 := ⟨by decide +kernel, rfl⟩
theorem dd_Md_at_41 : pj_d cX11_at 41 (.iload_n 1) 1 42 := ⟨by decide +kernel, rfl⟩
theorem dd_Md_at_42 : pj_d cX11_at 42 (.iadd) 1 43 := ⟨by decide +kernel, rfl⟩
theorem dd_Md_at_43 : pj_d cX11_at 43 (.iaload) 1 44 := ⟨by decide +kernel, rfl⟩
theorem dd_Md_at_44 : pj_dj cX11_at 44 (.goto 19) 19 47 63 := ⟨by decide +kernel, rfl, by decide⟩
theorem dd_Md_at_47 : pj_d cX11_at 47 (.aload_n 0) 1 48 := ⟨by decide +kernel, rfl⟩
theorem dd_Md_at_48 : pj_d cX11_at 48 (.iload_n 1) 1 49 := ⟨by decide +kernel, rfl⟩
theorem dd_Md_at_49 : pj_d cX11_at 49 (.iload_n 2) 1 50 := ⟨by decide +kernel, rfl⟩
theorem dd_Md_at_50 : pj_d cX11_at 50 (.iconst 2) 1 51 := ⟨by decide +kernel, rfl⟩
theorem dd_Md_at_51 : pj_d cX11_at 51 (.isub) 1 52 := ⟨by decide +kernel, rfl⟩
theorem dd_Md_at_52 : pj_d cX11_at 52 (.invokevirtual 261) 3 55 := ⟨by decide +kernel, rfl⟩
theorem dd_Md_at_55 : pj_dj cX11_at 55 (.ifCond .eq 7) 7 58 62 := ⟨by decide +kernel, rfl, by decide⟩
theorem dd_Md_at_58 : pj_d cX11_at 58 (.iconst 1) 1 59 := ⟨by decide +kernel, rfl⟩
theorem dd_Md_at_59 : pj_dj cX11_at 59 (.goto 4) 4 62 63 := ⟨by decide +kernel, rfl, by decide⟩
theorem dd_Md_at_62 : pj_d cX11_at 62 (.iconst 0) 1 63 := ⟨by decide +kernel, rfl⟩
theorem dd_Md_at_63 : pj_d cX11_at 63 (.ireturn) 1 64 := ⟨by decide +kernel, rfl⟩
set_option maxHeartbeats 4000000 in
set_option maxRecDepth 100000 in
theorem ct_Md_at {l : Launch} {B : pj_B} (hB : B.2.2.2.1 = pj_LM) {v1 : Int32} {v2 : Int32} {z : pj_S} {r0 : Int32} {z0 : pj_S} (h : Md_at v1 v2 z = some (r0, z0)) : pj_Mi l yX11_at cX11_at 3 (some .int) 4 [.ref (B.2.1 0), .int v1, .int v2] B z r0 z0 := by
  refine pj_meti (own := RX11) (by decide +kernel) rfl (Nat.le_of_ble_eq_true rfl) ?_
  intro A K hK C Q H lo ls P hl
  have hl : lv_has ls 3 [(0, .ref (B.2.1 0)), (1, .int v1), (2, .int v2)] := hl
  unfold Md_at at h
  refine pj_aload_n C dd_Md_at_0 rfl hl 0 rfl ?_
  refine pj_iload_n C dd_Md_at_1 rfl hl 1 rfl ?_
  obtain ⟨r3, z2, e1, h⟩ := pj_cE h
  refine pj_cVi (st := []) [.int v1] C P 0 (LM0 hB) rfl (ct_Md_isPlace hB e1) cl_Md_246 rfl (by decide) (by decide) hl.1 (Nat.le_of_ble_eq_true rfl) dd_Md_at_2 (fun H lo P => ?_)
  refine pj_if_eq C h dd_Md_at_5 (fun h => ?_) (fun h => ?_)
  · refine pj_iconst (v := (-1 : Int32)) C dd_Md_at_17 rfl ?_
    exact pj_iret C Q P h dd_Md_at_18
  · refine pj_iload_n C dd_Md_at_8 rfl hl 2 rfl ?_
    refine pj_iconst (v := (nI 0)) C dd_Md_at_9 rfl ?_
    refine pj_iconst (v := (nI 3)) C dd_Md_at_10 rfl ?_
    obtain ⟨r6, z5, e4, h⟩ := pj_cE h
    refine pj_cSi (st := []) [.int v2, .int (nI 0), .int (nI 3)] C P (ct_Md_isInM hB e4) cl_Md_70 rfl (by decide) (by decide) hl.1 (Nat.le_of_ble_eq_true rfl) dd_Md_at_11 (fun H lo P => ?_)
    refine pj_if_ne C h dd_Md_at_14 (fun h => ?_) (fun h => ?_)
    · refine pj_iload_n C dd_Md_at_19 rfl hl 2 rfl ?_
      refine pj_if_ne C h dd_Md_at_20 (fun h => ?_) (fun h => ?_)
      · refine pj_iload_n C dd_Md_at_29 rfl hl 2 rfl ?_
        refine pj_iconst (v := (nI 1)) C dd_Md_at_30 rfl ?_
        refine pj_ic_ne C h dd_Md_at_31 (fun h => ?_) (fun h => ?_)
        · refine pj_aload_n C dd_Md_at_47 rfl hl 0 rfl ?_
          refine pj_iload_n C dd_Md_at_48 rfl hl 1 rfl ?_
          refine pj_iload_n C dd_Md_at_49 rfl hl 2 rfl ?_
          refine pj_iconst (v := (nI 2)) C dd_Md_at_50 rfl ?_
          refine pj_isub C dd_Md_at_51 ?_
          obtain ⟨r9, z8, e7, h⟩ := pj_cE h
          refine pj_cVi (st := []) [.int v1, .int (v2 - (nI 2))] C P 0 (LM0 hB) rfl (ct_Md_isEnd hB e7) cl_Md_261 rfl (by decide) (by decide) hl.1 (Nat.le_of_ble_eq_true rfl) dd_Md_at_52 (fun H lo P => ?_)
          refine pj_if_eq C h dd_Md_at_55 (fun h => ?_) (fun h => ?_)
          · refine pj_iconst (v := (nI 0)) C dd_Md_at_62 rfl ?_
            exact pj_iret C Q P h dd_Md_at_63
          · refine pj_iconst (v := (nI 1)) C dd_Md_at_58 rfl ?_
            refine pj_goto C dd_Md_at_59 ?_
            exact pj_iret C Q P h dd_Md_at_63
        · refine pj_aload_n C dd_Md_at_34 rfl hl 0 rfl ?_
          refine pj_getR C P 0 (LM0 hB) rfl fl_Md_7 dd_Md_at_35 ?_
          refine pj_sipush (v := (nI 202)) C dd_Md_at_38 rfl ?_
          refine pj_iload_n C dd_Md_at_41 rfl hl 1 rfl ?_
          refine pj_iadd C dd_Md_at_42 ?_
          refine pj_iald C P 1 (LM1 hB) h dd_Md_at_43 (fun h => ?_)
          refine pj_goto C dd_Md_at_44 ?_
          exact pj_iret C Q P h dd_Md_at_63
      · refine pj_aload_n C dd_Md_at_23 rfl hl 0 rfl ?_
        refine pj_iload_n C dd_Md_at_24 rfl hl 1 rfl ?_
        obtain ⟨r12, z11, e10, h⟩ := pj_cE h
        refine pj_cVi (st := []) [.int v1] C P 0 (LM0 hB) rfl (ct_Md_stitchAt hB e10) cl_Md_258 rfl (by decide) (by decide) hl.1 (Nat.le_of_ble_eq_true rfl) dd_Md_at_25 (fun H lo P => ?_)
        exact pj_iret C Q P h dd_Md_at_28
    · refine pj_iconst (v := (-1 : Int32)) C dd_Md_at_17 rfl ?_
      exact pj_iret C Q P h dd_Md_at_18
theorem dd_Md_wound_0 : pj_d cX11_wound 0 (.iload_n 1) 1 1 := ⟨by decide +kernel, rfl⟩
theorem dd_Md_wound_1 : pj_d cX11_wound 1 (.iconst 0) 1 2 := ⟨by decide +kernel, rfl⟩
theorem dd_Md_wound_2 : pj_d cX11_wound 2 (.aload_n 0) 1 3 := ⟨by decide +kernel, rfl⟩
theorem dd_Md_wound_3 : pj_d cX11_wound 3 (.getfield 7) 3 6 := ⟨by decide +kernel, rfl⟩
theorem dd_Md_wound_6 : pj_d cX11_wound 6 (.iconst 3) 1 7 := ⟨by decide +kernel, rfl⟩
theorem dd_Md_wound_7 : pj_d cX11_wound 7 (.iaload) 1 8 := ⟨by decide +kernel, rfl⟩
theorem dd_Md_wound_8 : pj_d cX11_wound 8 (.iconst 1) 1 9 := ⟨by decide +kernel, rfl⟩
theorem dd_Md_wound_9 : pj_d cX11_wound 9 (.isub) 1 10 := ⟨by decide +kernel, rfl⟩
theorem dd_Md_wound_10 : pj_d cX11_wound 10 (.invokestatic 70) 3 13 := ⟨by decide +kernel, rfl⟩
theorem dd_Md_wound_13 : pj_dj cX11_wound 13 (.ifCond .eq 16) 16 16 29 := ⟨by decide +kernel, rfl, by decide⟩
theorem dd_Md_wound_16 : pj_d cX11_wound 16 (.aload_n 0) 1 17 := ⟨by decide +kernel, rfl⟩
theorem dd_Md_wound_17 : pj_d cX11_wound 17 (.getfield 7) 3 20 := ⟨by decide +kernel, rfl⟩
theorem dd_Md_wound_20 : pj_d cX11_wound 20 (.sipush 270) 3 23 := ⟨by decide +kernel, rfl⟩
theorem dd_Md_wound_23 : pj_d cX11_wound 23 (.iload_n 1) 1 24 := ⟨by decide +kernel, rfl⟩
theorem dd_Md_wound_24 : pj_d cX11_wound 24 (.iadd) 1 25 := ⟨by decide +kernel, rfl⟩
theorem dd_Md_wound_25 : pj_d cX11_wound 25 (.iaload) 1 26 := ⟨by decide +kernel, rfl⟩
theorem dd_Md_wound_26 : pj_dj cX11_wound 26 (.goto 4) 4 29 30 := ⟨by decide +kernel, rfl, by decide⟩
theorem dd_Md_wound_29 : pj_d cX11_wound 29 (.iconst (-1)) 1 30 := ⟨by decide +kernel, rfl⟩
theorem dd_Md_wound_30 : pj_d cX11_wound 30 (.ireturn) 1 31 := ⟨by decide +kernel, rfl⟩
set_option maxHeartbeats 4000000 in
set_option maxRecDepth 100000 in
theorem ct_Md_wound {l : Launch} {B : pj_B} (hB : B.2.2.2.1 = pj_LM) {v1 : Int32} {z : pj_S} {r0 : Int32} {z0 : pj_S} (h : Md_wound v1 z = some (r0, z0)) : pj_Mi l yX11_wound cX11_wound 2 (some .int) 2 [.ref (B.2.1 0), .int v1] B z r0 z0 := by
  refine pj_meti (own := RX11) (by decide +kernel) rfl (Nat.le_of_ble_eq_true rfl) ?_
  intro A K hK C Q H lo ls P hl
  have hl : lv_has ls 2 [(0, .ref (B.2.1 0)), (1, .int v1)] := hl
  unfold Md_wound at h
  refine pj_iload_n C dd_Md_wound_0 rfl hl 1 rfl ?_
  refine pj_iconst (v := (nI 0)) C dd_Md_wound_1 rfl ?_
  refine pj_aload_n C dd_Md_wound_2 rfl hl 0 rfl ?_
  refine pj_getR C P 0 (LM0 hB) rfl fl_Md_7 dd_Md_wound_3 ?_
  refine pj_iconst (v := (nI 3)) C dd_Md_wound_6 rfl ?_
  refine pj_iald C P 1 (LM1 hB) h dd_Md_wound_7 (fun h => ?_)
  refine pj_iconst (v := (nI 1)) C dd_Md_wound_8 rfl ?_
  refine pj_isub C dd_Md_wound_9 ?_
  obtain ⟨r3, z2, e1, h⟩ := pj_cE h
  refine pj_cSi (st := []) [.int v1, .int (nI 0), .int ((z.1 1 (Int32.toNatClampNeg (nI 3))) - (nI 1))] C P (ct_Md_isInM hB e1) cl_Md_70 rfl (by decide) (by decide) hl.1 (Nat.le_of_ble_eq_true rfl) dd_Md_wound_10 (fun H lo P => ?_)
  refine pj_if_eq C h dd_Md_wound_13 (fun h => ?_) (fun h => ?_)
  · refine pj_iconst (v := (-1 : Int32)) C dd_Md_wound_29 rfl ?_
    exact pj_iret C Q P h dd_Md_wound_30
  · refine pj_aload_n C dd_Md_wound_16 rfl hl 0 rfl ?_
    refine pj_getR C P 0 (LM0 hB) rfl fl_Md_7 dd_Md_wound_17 ?_
    refine pj_sipush (v := (nI 270)) C dd_Md_wound_20 rfl ?_
    refine pj_iload_n C dd_Md_wound_23 rfl hl 1 rfl ?_
    refine pj_iadd C dd_Md_wound_24 ?_
    refine pj_iald C P 1 (LM1 hB) h dd_Md_wound_25 (fun h => ?_)
    refine pj_goto C dd_Md_wound_26 ?_
    exact pj_iret C Q P h dd_Md_wound_30
