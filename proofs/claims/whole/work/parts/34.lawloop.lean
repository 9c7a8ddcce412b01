theorem pj_inn {n L k : Nat} (h : n + k < L) (hL : L ≤ 3072) : vp_in (nI n + nI k) L := by
  rw [nI_add]
  exact vp_in_nI h (by omega)
set_option maxHeartbeats 8000000 in
set_option maxRecDepth 100000 in
theorem law_body (I : pj_S → pj_S → Prop) {BC BM : pj_B} {p : Program} {l : Launch} {e : Env} {s : State} {m : MethodId} {below : List Frame} {meth : Method} {c : Code} {b L : Nat} {xs : Nat → Int32} (X : pj_LX I BC BM p l e s m b below meth c L xs) {i : Int32} (hi0 : vp_in i L) (hi1 : vp_in (i + 1) L) (hi2 : vp_in (i + 2) L) (hi3 : vp_in (i + 3) L) (hi4 : vp_in (i + 4) L) (hi5 : vp_in (i + 5) L) (kk : ∀ (zC zM : pj_S) (H : Heap) (lo : List Loc) (ls : Array Slot), I zC zM → pj_P BC (fun q => s.heap.size ≤ q) (pj_KL p l e s m b below meth c) zC H lo → pj_P BM (fun q => s.heap.size ≤ q) (pj_KL p l e s m b below meth c) zM H lo → lv_has ls 4 [(3, .int i), (2, .ref (BM.2.1 0)), (1, .ref (BC.2.1 0)), (0, .ref b)] → pj_W (pj_KL p l e s m b below meth c) H lo 926 ls []) (zC zM : pj_S) (H : Heap) (lo : List Loc) (ls : Array Slot) (hI : I zC zM) (PC : pj_P BC (fun q => s.heap.size ≤ q) (pj_KL p l e s m b below meth c) zC H lo) (PM : pj_P BM (fun q => s.heap.size ≤ q) (pj_KL p l e s m b below meth c) zM H lo) (hl : lv_has ls 4 [(3, .int i), (2, .ref (BM.2.1 0)), (1, .ref (BC.2.1 0)), (0, .ref b)]) : pj_W (pj_KL p l e s m b below meth c) H lo 27 ls [] := by
  obtain ⟨hC, hMd, CC, CM, hdis, hX, hbl, hr, hlocks, hL, hs⟩ := id X
  refine pj_aload_n CC dl_27 rfl hl 3 rfl ?_
  refine pj_iload_n CC dl_28 rfl hl 0 rfl ?_
  refine pj_scr CC PC hX hbl hi0 dl_29 ?_
  refine pj_bipush (v := 31) CC dl_30 rfl ?_
  refine pj_iand CC dl_32 ?_
  by_cases c0 : (xs (Int32.toNatClampNeg i)) &&& 31 = 0
  · refine pj_swI 0 119 152 CC dl_33 c0 (by decide) ?_
    exact law_c0 I X hi1 hi2 hi3 hi4 hi5 kk zC zM _ _ _ hI PC PM hl
  by_cases c1 : (xs (Int32.toNatClampNeg i)) &&& 31 = 1
  · refine pj_swI 1 142 175 CC dl_33 c1 (by decide) ?_
    exact law_c1 I X hi1 hi2 hi3 hi4 hi5 kk zC zM _ _ _ hI PC PM hl
  by_cases c2 : (xs (Int32.toNatClampNeg i)) &&& 31 = 2
  · refine pj_swI 2 175 208 CC dl_33 c2 (by decide) ?_
    exact law_c2 I X hi1 hi2 hi3 hi4 hi5 kk zC zM _ _ _ hI PC PM hl
  by_cases c3 : (xs (Int32.toNatClampNeg i)) &&& 31 = 3
  · refine pj_swI 3 218 251 CC dl_33 c3 (by decide) ?_
    exact law_c3 I X hi1 hi2 hi3 hi4 hi5 kk zC zM _ _ _ hI PC PM hl
  by_cases c4 : (xs (Int32.toNatClampNeg i)) &&& 31 = 4
  · refine pj_swI 4 241 274 CC dl_33 c4 (by decide) ?_
    exact law_c4 I X hi1 hi2 hi3 hi4 hi5 kk zC zM _ _ _ hI PC PM hl
  by_cases c5 : (xs (Int32.toNatClampNeg i)) &&& 31 = 5
  · refine pj_swI 5 264 297 CC dl_33 c5 (by decide) ?_
    exact law_c5 I X hi1 hi2 hi3 hi4 hi5 kk zC zM _ _ _ hI PC PM hl
  by_cases c6 : (xs (Int32.toNatClampNeg i)) &&& 31 = 6
  · refine pj_swI 6 307 340 CC dl_33 c6 (by decide) ?_
    exact law_c6 I X hi1 hi2 hi3 hi4 hi5 kk zC zM _ _ _ hI PC PM hl
  by_cases c7 : (xs (Int32.toNatClampNeg i)) &&& 31 = 7
  · refine pj_swI 7 330 363 CC dl_33 c7 (by decide) ?_
    exact law_c7 I X hi1 hi2 hi3 hi4 hi5 kk zC zM _ _ _ hI PC PM hl
  by_cases c8 : (xs (Int32.toNatClampNeg i)) &&& 31 = 8
  · refine pj_swI 8 393 426 CC dl_33 c8 (by decide) ?_
    exact law_c8 I X hi1 hi2 hi3 hi4 hi5 kk zC zM _ _ _ hI PC PM hl
  by_cases c9 : (xs (Int32.toNatClampNeg i)) &&& 31 = 9
  · refine pj_swI 9 416 449 CC dl_33 c9 (by decide) ?_
    exact law_c9 I X hi1 hi2 hi3 hi4 hi5 kk zC zM _ _ _ hI PC PM hl
  by_cases c10 : (xs (Int32.toNatClampNeg i)) &&& 31 = 10
  · refine pj_swI 10 429 462 CC dl_33 c10 (by decide) ?_
    exact law_c10 I X hi1 hi2 hi3 hi4 hi5 kk zC zM _ _ _ hI PC PM hl
  by_cases c11 : (xs (Int32.toNatClampNeg i)) &&& 31 = 11
  · refine pj_swI 11 452 485 CC dl_33 c11 (by decide) ?_
    exact law_c11 I X hi1 hi2 hi3 hi4 hi5 kk zC zM _ _ _ hI PC PM hl
  by_cases c12 : (xs (Int32.toNatClampNeg i)) &&& 31 = 12
  · refine pj_swI 12 485 518 CC dl_33 c12 (by decide) ?_
    exact law_c12 I X hi1 hi2 hi3 hi4 hi5 kk zC zM _ _ _ hI PC PM hl
  by_cases c13 : (xs (Int32.toNatClampNeg i)) &&& 31 = 13
  · refine pj_swI 13 518 551 CC dl_33 c13 (by decide) ?_
    exact law_c13 I X hi1 hi2 hi3 hi4 hi5 kk zC zM _ _ _ hI PC PM hl
  by_cases c14 : (xs (Int32.toNatClampNeg i)) &&& 31 = 14
  · refine pj_swI 14 541 574 CC dl_33 c14 (by decide) ?_
    exact law_c14 I X hi1 hi2 hi3 hi4 hi5 kk zC zM _ _ _ hI PC PM hl
  by_cases c15 : (xs (Int32.toNatClampNeg i)) &&& 31 = 15
  · refine pj_swI 15 574 607 CC dl_33 c15 (by decide) ?_
    exact law_c15 I X hi1 hi2 hi3 hi4 hi5 kk zC zM _ _ _ hI PC PM hl
  by_cases c16 : (xs (Int32.toNatClampNeg i)) &&& 31 = 16
  · refine pj_swI 16 607 640 CC dl_33 c16 (by decide) ?_
    exact law_c16 I X hi1 hi2 hi3 hi4 hi5 kk zC zM _ _ _ hI PC PM hl
  by_cases c17 : (xs (Int32.toNatClampNeg i)) &&& 31 = 17
  · refine pj_swI 17 640 673 CC dl_33 c17 (by decide) ?_
    exact law_c17 I X hi1 hi2 hi3 hi4 hi5 kk zC zM _ _ _ hI PC PM hl
  by_cases c18 : (xs (Int32.toNatClampNeg i)) &&& 31 = 18
  · refine pj_swI 18 683 716 CC dl_33 c18 (by decide) ?_
    exact law_c18 I X hi1 hi2 hi3 hi4 hi5 kk zC zM _ _ _ hI PC PM hl
  by_cases c19 : (xs (Int32.toNatClampNeg i)) &&& 31 = 19
  · refine pj_swI 19 706 739 CC dl_33 c19 (by decide) ?_
    exact law_c19 I X hi1 hi2 hi3 hi4 hi5 kk zC zM _ _ _ hI PC PM hl
  by_cases c20 : (xs (Int32.toNatClampNeg i)) &&& 31 = 20
  · refine pj_swI 20 759 792 CC dl_33 c20 (by decide) ?_
    exact law_c20 I X hi1 hi2 hi3 hi4 hi5 kk zC zM _ _ _ hI PC PM hl
  by_cases c21 : (xs (Int32.toNatClampNeg i)) &&& 31 = 21
  · refine pj_swI 21 782 815 CC dl_33 c21 (by decide) ?_
    exact law_c21 I X hi1 hi2 hi3 hi4 hi5 kk zC zM _ _ _ hI PC PM hl
  by_cases c22 : (xs (Int32.toNatClampNeg i)) &&& 31 = 22
  · refine pj_swI 22 795 828 CC dl_33 c22 (by decide) ?_
    exact law_c22 I X hi1 hi2 hi3 hi4 hi5 kk zC zM _ _ _ hI PC PM hl
  by_cases c23 : (xs (Int32.toNatClampNeg i)) &&& 31 = 23
  · refine pj_swI 23 818 851 CC dl_33 c23 (by decide) ?_
    exact law_c23 I X hi1 hi2 hi3 hi4 hi5 kk zC zM _ _ _ hI PC PM hl
  by_cases c24 : (xs (Int32.toNatClampNeg i)) &&& 31 = 24
  · refine pj_swI 24 831 864 CC dl_33 c24 (by decide) ?_
    exact law_c24 I X hi1 hi2 hi3 hi4 hi5 kk zC zM _ _ _ hI PC PM hl
  by_cases c25 : (xs (Int32.toNatClampNeg i)) &&& 31 = 25
  · refine pj_swI 25 870 903 CC dl_33 c25 (by decide) ?_
    exact law_c25 I X hi1 hi2 hi3 hi4 hi5 kk zC zM _ _ _ hI PC PM hl
  have u0 := pj_nI c0 (n := 0) (by decide)
  have u1 := pj_nI c1 (n := 1) (by decide)
  have u2 := pj_nI c2 (n := 2) (by decide)
  have u3 := pj_nI c3 (n := 3) (by decide)
  have u4 := pj_nI c4 (n := 4) (by decide)
  have u5 := pj_nI c5 (n := 5) (by decide)
  have u6 := pj_nI c6 (n := 6) (by decide)
  have u7 := pj_nI c7 (n := 7) (by decide)
  have u8 := pj_nI c8 (n := 8) (by decide)
  have u9 := pj_nI c9 (n := 9) (by decide)
  have u10 := pj_nI c10 (n := 10) (by decide)
  have u11 := pj_nI c11 (n := 11) (by decide)
  have u12 := pj_nI c12 (n := 12) (by decide)
  have u13 := pj_nI c13 (n := 13) (by decide)
  have u14 := pj_nI c14 (n := 14) (by decide)
  have u15 := pj_nI c15 (n := 15) (by decide)
  have u16 := pj_nI c16 (n := 16) (by decide)
  have u17 := pj_nI c17 (n := 17) (by decide)
  have u18 := pj_nI c18 (n := 18) (by decide)
  have u19 := pj_nI c19 (n := 19) (by decide)
  have u20 := pj_nI c20 (n := 20) (by decide)
  have u21 := pj_nI c21 (n := 21) (by decide)
  have u22 := pj_nI c22 (n := 22) (by decide)
  have u23 := pj_nI c23 (n := 23) (by decide)
  have u24 := pj_nI c24 (n := 24) (by decide)
  have u25 := pj_nI c25 (n := 25) (by decide)
  refine pj_swO 926 CC dl_33 (by omega) (by decide) ?_
  exact kk zC zM _ _ _ hI PC PM hl
set_option maxHeartbeats 4000000 in
theorem law_end (I : pj_S → pj_S → Prop) {BC BM : pj_B} {p : Program} {l : Launch} {e : Env} {s : State} {m : MethodId} {below : List Frame} {meth : Method} {c : Code} {b L : Nat} {xs : Nat → Int32} (X : pj_LX I BC BM p l e s m b below meth c L xs) (zC : pj_S) (H : Heap) (lo : List Loc) (ls : Array Slot) (PC : pj_P BC (fun q => s.heap.size ≤ q) (pj_KL p l e s m b below meth c) zC H lo) : pj_W (pj_KL p l e s m b below meth c) H lo 932 ls [] := by
  obtain ⟨hC, hMd, CC, CM, hdis, hX, hbl, hr, hlocks, hL, hs⟩ := id X
  refine pj_iconst (v := 1) CC dl_932 rfl ?_
  unfold pj_W
  dsimp only [pj_KL]
  refine va_forget (fun q hq => PC.2.2.2 q hq) ?_
  refine W.widen (k := 600000) (n := 7302250) (Nat.le_of_ble_eq_true rfl) (Nat.le_of_ble_eq_true rfl) ?_
  exact lw_ret CC.1 CC.2.1 hr hlocks dl_933.1
theorem pj_gt6 {n L : Nat} (hL : L ≤ 3072) (hn : n ≤ L) : (nI L - 6 < nI n) ↔ L < n + 6 := by
  rw [Int32.lt_iff_toInt_lt]
  have h1 : (nI n).toInt = n := nI_toInt (by omega)
  have h2 : (nI L - 6).toInt = (L : Int) - 6 := pk_sub_toInt (a := L) (b := 6) (by omega) (by omega)
  rw [h1, h2]
  omega
set_option maxHeartbeats 4000000 in
theorem law_loop (I : pj_S → pj_S → Prop) {BC BM : pj_B} {p : Program} {l : Launch} {e : Env} {s : State} {m : MethodId} {below : List Frame} {meth : Method} {c : Code} {b L : Nat} {xs : Nat → Int32} (X : pj_LX I BC BM p l e s m b below meth c L xs) : ∀ (n j : Nat), j ≤ L → L + 6 < j + n → ∀ (zC zM : pj_S) (H : Heap) (lo : List Loc) (ls : Array Slot), I zC zM → pj_P BC (fun q => s.heap.size ≤ q) (pj_KL p l e s m b below meth c) zC H lo → pj_P BM (fun q => s.heap.size ≤ q) (pj_KL p l e s m b below meth c) zM H lo → lv_has ls 4 [(3, .int (nI j)), (2, .ref (BM.2.1 0)), (1, .ref (BC.2.1 0)), (0, .ref b)] → pj_W (pj_KL p l e s m b below meth c) H lo 18 ls [] := by
  intro n
  induction n with
  | zero => intro j hj hn; omega
  | succ n ih =>
    intro j hj hn zC zM H lo ls hI PC PM hl
    obtain ⟨hC, hMd, CC, CM, hdis, hX, hbl, hr, hlocks, hL, hs⟩ := id X
    refine pj_iload_n CC dl_18 rfl hl 0 rfl ?_
    refine pj_aload_n CC dl_19 rfl hl 3 rfl ?_
    refine pj_scl CC PC hX hbl dl_20 ?_
    refine pj_bipush (v := 6) CC dl_21 rfl ?_
    refine pj_isub CC dl_23 ?_
    by_cases hlt : L < j + 6
    · refine pj_ic_gt (X := some ()) (Y := none) (r := ()) CC (if_pos ((pj_gt6 hL hj).mpr hlt)) dl_24 (fun _ => ?_) (fun h => by cases h)
      exact law_end I X zC _ _ _ PC
    · refine pj_ic_gt (X := none) (Y := some ()) (r := ()) CC (if_neg (fun h => hlt ((pj_gt6 hL hj).mp h))) dl_24 (fun h => by cases h) (fun _ => ?_)
      refine law_body I X (i := nI j) (vp_in_nI (by omega) (by omega)) (pj_inn (k := 1) (by omega) hL) (pj_inn (k := 2) (by omega) hL) (pj_inn (k := 3) (by omega) hL) (pj_inn (k := 4) (by omega) hL) (pj_inn (k := 5) (by omega) hL) ?_ zC zM _ _ _ hI PC PM hl
      intro zC zM H lo ls hI PC PM hl
      refine pj_iinc (v := 6) (f := fun y => if y = nI (j + 6) then some () else none) (r := ()) [(2, .ref (BM.2.1 0)), (1, .ref (BC.2.1 0)), (0, .ref b)] CC (by show (if nI j + 6 = nI (j + 6) then some () else none) = some (); rw [if_pos (show nI j + 6 = nI (j + 6) from nI_add j 6)]) rfl dl_926 hl 0 rfl (by decide) rfl (fun y ls h hl => ?_)
      have hy : y = nI (j + 6) := by
        by_cases q : y = nI (j + 6)
        · exact q
        · simp [q] at h
      subst hy
      refine pj_goto CC dl_929 ?_
      exact ih (j + 6) (by omega) (by omega) zC zM _ _ _ hI PC PM hl
theorem pj_appL {D : va_G} {cl : List vw_C} {w1 w2 : va_W} {H : Heap} (h : va_P D cl (w1 ++ w2) H) : va_P D cl w1 H := by
  intro k q hk
  exact h k q (by rw [List.getElem?_append_left (List.getElem?_eq_some_iff.mp hk).1]; exact hk)
theorem pj_appR {D : va_G} {cl : List vw_C} {w1 w2 : va_W} {H : Heap} (h : va_P D cl (w1 ++ w2) H) : va_P D cl w2 H := by
  intro k q hk
  exact h (w1.length + k) q (by rw [List.getElem?_append_right (by omega), Nat.add_sub_cancel_left]; exact hk)
theorem pj_appDL {A : Nat → Prop} {w1 w2 : va_W} (h : va_D A (w1 ++ w2)) : va_D A w1 :=
  ⟨fun i j x y hi hj e => h.1 i j x y (by rw [List.getElem?_append_left (List.getElem?_eq_some_iff.mp hi).1]; exact hi) (by rw [List.getElem?_append_left (List.getElem?_eq_some_iff.mp hj).1]; exact hj) e,
   fun k q hk => h.2 k q (by rw [List.getElem?_append_left (List.getElem?_eq_some_iff.mp hk).1]; exact hk)⟩
theorem pj_appDN {A : Nat → Prop} {w1 : va_W} {x : Nat × va_E} (h : va_D A (w1 ++ [x])) {k : Nat} {y : Nat × va_E} (hk : w1[k]? = some y) : y.1 ≠ x.1 := by
  intro e
  have hl := (List.getElem?_eq_some_iff.mp hk).1
  have := h.1 k w1.length y x (by rw [List.getElem?_append_left hl]; exact hk) (by simp) e
  omega
set_option maxHeartbeats 8000000 in
set_option maxRecDepth 100000 in
theorem law_start {p : Program} {e : Env} {s : State} {m : MethodId} {below : List Frame} {meth : Method} {c : Code} (l : Launch) {b L : Nat} {xs : Nat → Int32} (hL : L ≤ 3072) (C0 : lw_At p s m meth c b L xs) (I : pj_S → pj_S → Prop) (hs : pj_Sim I) {zC zM : pj_S} (h1 : Whole_begin 4 4 pj_z0C = some ((), zC)) (h2 : Md_begins 4 4 pj_z0M = some ((), zM)) (hI : I zC zM) : W p l e room_1 s m #[Value.ref b] below meth c s.heap [] 0 0 (lw_Z below #[Value.ref b] s) (entryFrame m ([Value.ref b] : List Value).toArray 4) := by
  obtain ⟨hx, hb, hr, hml, hown, hts, hX, hbl, hlocks, hgv⟩ := id C0
  have htp : ∀ w ∈ pj_tbl, w.before #[Value.ref b] s = true := fun w hw => hts w (List.mem_filter.mp hw).1
  have hA : ∀ q : Nat, s.heap.size ≤ q → (fun q : Nat => s.heap.size ≤ q) q := fun _ h => h
  have hnw : narrow_1.before #[Value.ref b] s = true := pj_a2 hgv
  obtain ⟨tK, adK, adV, hstat⟩ := pj_start hts hnw
  obtain ⟨c0, iS0, hKn0⟩ := u_known (C := RX0) (T := TX0) (N := 4) (n := 4) hts inX0 (hts (.instantiable RX0 4) (pj_l1 114 rfl))
  obtain ⟨c1, iS1, hKn1⟩ := u_known (C := RX1) (T := TX1) (N := 10) (n := 10) hts inX1 (hts (.instantiable RX1 10) (pj_l1 35 rfl))
  obtain ⟨c2, iS2, hKn2⟩ := u_known (C := RX2) (T := TX2) (N := 5) (n := 5) hts inX2 (hts (.instantiable RX2 5) (pj_l1 87 rfl))
  obtain ⟨c3, iS3, hKn3⟩ := u_known (C := RX3) (T := TX3) (N := 10) (n := 10) hts inX3 (hts (.instantiable RX3 10) (pj_l1 233 rfl))
  obtain ⟨c4, iS4, hKn4⟩ := u_known (C := RX4) (T := TX4) (N := 9) (n := 9) hts inX4 (hts (.instantiable RX4 9) (pj_l1 182 rfl))
  obtain ⟨c5, iS5, hKn5⟩ := u_known (C := RX5) (T := TX5) (N := 5) (n := 5) hts inX5 (hts (.instantiable RX5 5) (pj_l2 32 rfl))
  obtain ⟨c6, iS6, hKn6⟩ := u_known (C := RX6) (T := TX6) (N := 2) (n := 2) hts inX6 (hts (.instantiable RX6 2) (pj_l2 60 rfl))
  obtain ⟨c7, iS7, hKn7⟩ := u_known (C := RX7) (T := TX7) (N := 2) (n := 2) hts inX7 (hts (.instantiable RX7 2) (pj_l1 218 rfl))
  obtain ⟨c8, iS8, hKn8⟩ := u_known (C := RX8) (T := TX8) (N := 6) (n := 6) hts inX8 (hts (.instantiable RX8 6) (pj_l1 29 rfl))
  obtain ⟨c9, iS9, hKn9⟩ := u_known (C := RX9) (T := TX9) (N := 2) (n := 2) hts inX9 (hts (.instantiable RX9 2) (pj_l1 136 rfl))
  obtain ⟨c10, iS10, hKn10⟩ := u_known (C := RX10) (T := TX10) (N := 8) (n := 8) hts inX10 (hts (.instantiable RX10 8) (pj_l1 21 rfl))
  obtain ⟨c11, iS11, hKn11⟩ := u_known (C := RX11) (T := TX11) (N := 33) (n := 33) hts inX11 (hts (.instantiable RX11 33) (pj_l4 182 rfl))
  obtain ⟨aI, kI, mI, qI1, qI2, qI3⟩ := Cond.arrayClass_spec (hts (.arrayClass .int) (pj_l1 112 rfl))
  obtain ⟨aJ, kJ, mJ, qJ1, qJ2, qJ3⟩ := Cond.arrayClass_spec (hts (.arrayClass .long) (pj_l1 216 rfl))
  obtain ⟨aB, kB, mB, qB1, qB2, qB3⟩ := Cond.arrayClass_spec (hts (.arrayClass .byte) (pj_l1 231 rfl))
  obtain ⟨dC, dI, hKc⟩ : ∃ (dC : Nat → ClassId) (dI : Nat → Nat → Nat), ∀ (k : Nat) (q : vw_C), vwCl[k]? = some q → u_Kn s q.1 q.2.1 q.2.2 (dC k) (dI k) := by
    refine ⟨fun k => if k = 0 then c0 else if k = 1 then c1 else if k = 2 then c2 else if k = 3 then c3 else if k = 4 then c4 else if k = 5 then c5 else if k = 6 then c6 else if k = 7 then c7 else if k = 8 then c8 else if k = 9 then c9 else if k = 10 then c10 else c11, fun k => if k = 0 then iS0 else if k = 1 then iS1 else if k = 2 then iS2 else if k = 3 then iS3 else if k = 4 then iS4 else if k = 5 then iS5 else if k = 6 then iS6 else if k = 7 then iS7 else if k = 8 then iS8 else if k = 9 then iS9 else if k = 10 then iS10 else iS11, ?_⟩
    intro k q hq
    match k, hq with
    | 0, hq => cases hq; exact hKn0
    | 1, hq => cases hq; exact hKn1
    | 2, hq => cases hq; exact hKn2
    | 3, hq => cases hq; exact hKn3
    | 4, hq => cases hq; exact hKn4
    | 5, hq => cases hq; exact hKn5
    | 6, hq => cases hq; exact hKn6
    | 7, hq => cases hq; exact hKn7
    | 8, hq => cases hq; exact hKn8
    | 9, hq => cases hq; exact hKn9
    | 10, hq => cases hq; exact hKn10
    | 11, hq => cases hq; exact hKn11
    | k + 12, hq => simp [vwCl] at hq
  obtain ⟨B0, hB0⟩ : ∃ B0 : pj_B, B0 = ((dC, dI), fun _ => 0, (aI, aJ, aB), [], tK, adK, adV) := ⟨_, rfl⟩
  have hst : pj_stat B0 (fun q => s.heap.size ≤ q) s s.heap := by rw [hB0]; exact hstat _ _ _ _
  have hK : va_K B0.1 vwCl (pj_ty B0) s := by
    rw [hB0]
    refine ⟨hKc, fun k q hk => ?_⟩
    match k, hk with
    | 0, hk => cases hk; exact ⟨fun n z => ⟨fun _ h => (by cases h), kI, qI2, mI, qI3⟩, qI1⟩
    | 1, hk => cases hk; exact ⟨fun n z => ⟨fun _ h => (by cases h), kJ, qJ2, mJ, qJ3⟩, qJ1⟩
    | 2, hk => cases hk; exact ⟨fun n z => ⟨fun _ h => (by cases h), kB, qB2, mB, qB3⟩, qB1⟩
    | k + 3, hk => simp at hk
  have hS : va_S (fun q : Nat => s.heap.size ≤ q) s.heap s.heap [] := va_S.rf
  have hP0 : va_P B0.1 vwCl [] s.heap := fun k q h => by simp at h
  have hD : va_D (fun q : Nat => s.heap.size ≤ q) [] := ⟨fun i j p q h => by simp at h, fun k q h => by simp at h⟩
  have hl := lv_entry ([.ref b]) (n := 4) (Nat.le_of_ble_eq_true rfl)
  rw [lg_entry_eq]
  generalize (lg_sl ([.ref b]) ++ List.replicate (4 - (lg_sl ([.ref b])).length) Slot.unset).toArray = ls at hl ⊢
  have hl : lv_has ls 4 [(0, .ref b)] := hl
  refine va_new (ci := 10) (fs := [.null, .null, .null, .null, .null, .null, .null, .int 0]) (C := RX10) (T := TX10) (N := 8) hx hb hts inX10 tyX10 tyX10_ok hown (hts _ (show Cond.classLink RL 7 RX10 ∈ lw_tbl from (pj_l1 20 rfl))) (hts _ (show Cond.instantiable RX10 8 ∈ lw_tbl from (pj_l1 21 rfl))) (hts _ (show Cond.initialized RX10 ∈ lw_tbl from (pj_l1 1 rfl))) hK hP0 hD hS hA rfl (by decide) (Nat.le_of_ble_eq_true rfl) (Nat.le_of_ble_eq_true rfl) dl_0.1 (fun qx H hP hD hS => ?_)
  have hPc : va_P B0.1 vwCl [(qx, .inr (10, [.null, .null, .null, .null, .null, .null, .null, .int 0]))] H := hP
  have hD1 : va_D (fun q : Nat => s.heap.size ≤ q) [(qx, .inr (10, [.null, .null, .null, .null, .null, .null, .null, .int 0]))] := hD
  refine W.widen (k := 1) (n := 8) (Nat.le_of_ble_eq_true rfl) (Nat.le_of_ble_eq_true rfl) ?_
  refine lv_dup hx hb dl_3.1 rfl ?_
  have hFc : ∀ q, va_A [(qx, .inr (10, [.null, .null, .null, .null, .null, .null, .null, .int 0]))] H.size q → s.heap.size ≤ q := va_free (wc := [(qx, .inr (10, [.null, .null, .null, .null, .null, .null, .null, .int 0]))]) hD1 hS hA [0] rfl
  refine va_callv (va_runI (As := []) (rest := [.ref qx]) ⟨hx, hb, hml, hown, htp⟩ (cn_PJ (l := l) (B := B0) (h0 := qx) (sz := H.size) h1) ⟨callB_of 0 htp (pj_good wcc_X10) rfl rfl rfl (hts _ (show Cond.initialized RX10 ∈ lw_tbl from (pj_l1 1 rfl))) (hts _ (show Cond.methodLink RL 9 yX10_init ∈ lw_tbl from (pj_l1 22 rfl))) ⟨(by decide +kernel), (by decide +kernel), pd_v0⟩ ⟨Nat.le_of_ble_eq_true rfl, Nat.le_of_ble_eq_true rfl⟩, rfl, hts _ (show Cond.instanceMethod yX10_init ∈ lw_tbl from (pj_l1 23 rfl))⟩ ⟨pj_cPre.blind, fun U hU hW => ⟨rfl, by rw [hU], by rw [hU]; exact hPc, va_K.moved hW.alike hK, by rw [hU]; exact hst.to hW hS hFc⟩⟩ rfl rfl hl.1 rfl (lv_room (Nat.le_of_ble_eq_true rfl)) dl_4.1 ⟨Nat.le_of_ble_eq_true rfl, Nat.le_of_ble_eq_true rfl⟩) hS (fun q _ h => hFc q h) hFc (fun u10 t H1 locs ht hvm hw hB hz1 hk1 hS => ?_)
  obtain ⟨hP1, hD2⟩ := hB
  rw [ht] at hP1
  have hx0 : u10 0 = qx := hw
  have hD : va_D (fun q : Nat => s.heap.size ≤ q) (pj_w (pj_BBC B0 u10) zC) := hD2.weaken (fun k q _ h => hFc q.1 h)
  have hapC := pj_apart_of hD
  generalize H1 = H at hP1 hS ⊢
  refine W.widen (k := 41) (n := 3753) (Nat.le_of_ble_eq_true rfl) (Nat.le_of_ble_eq_true rfl) ?_
  refine lv_astore_n (lv' := [(1, .ref qx), (0, .ref b)]) hx hb dl_7.1 rfl hl (by decide) rfl (fun ls hl => ?_)
  refine va_new (ci := 11) (fs := [.null, .null, .null, .int 0, .int 0, .null, .null, .null, .null, .null, .int 0, .int 0, .int 0, .int 0, .int 0, .int 0, .int 0, .int 0, .int 0, .int 0, .int 0, .int 0, .null, .null, .null, .null, .int 0, .int 0, .int 0, .null, .null, .null, .int 0]) (C := RX11) (T := TX11) (N := 33) hx hb hts inX11 tyX11 tyX11_ok hown (hts _ (show Cond.classLink RL 10 RX11 ∈ lw_tbl from (pj_l4 181 rfl))) (hts _ (show Cond.instantiable RX11 33 ∈ lw_tbl from (pj_l4 182 rfl))) (hts _ (show Cond.initialized RX11 ∈ lw_tbl from (pj_l1 12 rfl))) hK hP1 hD hS hA rfl (by decide) (Nat.le_of_ble_eq_true rfl) (Nat.le_of_ble_eq_true rfl) dl_8.1 (fun qm H hP hD hS => ?_)
  have hPC := pj_appL hP
  have hDC := pj_appDL hD
  have hPc := pj_appR hP
  have hqm : s.heap.size ≤ qm := hD.2 (pj_w (pj_BBC B0 u10) zC).length (qm, .inr (11, [.null, .null, .null, .int 0, .int 0, .null, .null, .null, .null, .null, .int 0, .int 0, .int 0, .int 0, .int 0, .int 0, .int 0, .int 0, .int 0, .int 0, .int 0, .int 0, .null, .null, .null, .null, .int 0, .int 0, .int 0, .null, .null, .null, .int 0])) (by simp)
  have hneq : ∀ k, k < (pj_BBC B0 u10).2.2.2.1.length → u10 k ≠ qm := fun k hk => pj_appDN hD (pj_wg (B := pj_BBC B0 u10) (List.getElem?_eq_getElem hk))
  have hltC : ∀ k, k < (pj_BBC B0 u10).2.2.2.1.length → u10 k < H.size := fun k hk => (hPC k _ (pj_wg (B := pj_BBC B0 u10) (List.getElem?_eq_getElem hk))).lt
  refine W.widen (k := 42) (n := 3786) (Nat.le_of_ble_eq_true rfl) (Nat.le_of_ble_eq_true rfl) ?_
  refine lv_dup hx hb dl_11.1 rfl ?_
  have hFc : ∀ q, va_A [(qm, .inr (11, [.null, .null, .null, .int 0, .int 0, .null, .null, .null, .null, .null, .int 0, .int 0, .int 0, .int 0, .int 0, .int 0, .int 0, .int 0, .int 0, .int 0, .int 0, .int 0, .null, .null, .null, .null, .int 0, .int 0, .int 0, .null, .null, .null, .int 0]))] H.size q → s.heap.size ≤ q := by
    intro q hq
    rcases hq with ⟨k, e1, hk⟩ | hq
    · have h1 := (List.getElem?_eq_some_iff.mp hk).1
      simp at h1
      subst h1
      cases hk
      exact hqm
    · exact Nat.le_trans hS.1 hq
  refine va_callv (va_runI (As := []) (rest := [.ref qm]) ⟨hx, hb, hml, hown, htp⟩ (cn_Md (l := l) (B := B0) (h0 := qm) (sz := H.size) h2) ⟨callB_of 0 htp (pj_good wcc_X11) rfl rfl rfl (hts _ (show Cond.initialized RX11 ∈ lw_tbl from (pj_l1 12 rfl))) (hts _ (show Cond.methodLink RL 12 yX11_init ∈ lw_tbl from (pj_l4 183 rfl))) ⟨(by decide +kernel), (by decide +kernel), pd_v0⟩ ⟨Nat.le_of_ble_eq_true rfl, Nat.le_of_ble_eq_true rfl⟩, rfl, hts _ (show Cond.instanceMethod yX11_init ∈ lw_tbl from (pj_l4 184 rfl))⟩ ⟨pj_cPre.blind, fun U hU hW => ⟨rfl, by rw [hU], by rw [hU]; exact hPc, va_K.moved hW.alike hK, by rw [hU]; exact hst.to hW hS hFc⟩⟩ rfl rfl hl.1 rfl (lv_room (Nat.le_of_ble_eq_true rfl)) dl_12.1 ⟨Nat.le_of_ble_eq_true rfl, Nat.le_of_ble_eq_true rfl⟩) hS (fun q _ h => hFc q h) hFc (fun u11 t H1 locs ht hvm hw hB hz1 hk1 hS => ?_)
  obtain ⟨hP1, hD3⟩ := hB
  rw [ht] at hP1
  have hm0 : u11 0 = qm := hw
  have hDM : va_D (fun q : Nat => s.heap.size ≤ q) (pj_w (pj_BBM B0 u11) zM) := hD3.weaken (fun k q _ h => hFc q.1 h)
  have hapM := pj_apart_of hDM
  have hnA : ∀ k, k < (pj_BBC B0 u10).2.2.2.1.length → ¬ va_A [(qm, .inr (11, [.null, .null, .null, .int 0, .int 0, .null, .null, .null, .null, .null, .int 0, .int 0, .int 0, .int 0, .int 0, .int 0, .int 0, .int 0, .int 0, .int 0, .int 0, .int 0, .null, .null, .null, .null, .int 0, .int 0, .int 0, .null, .null, .null, .int 0]))] H.size (u10 k) := by
    intro k hk hq
    rcases hq with ⟨j, e1, hj⟩ | hq
    · have h1 := (List.getElem?_eq_some_iff.mp hj).1
      simp at h1
      subst h1
      have h2 := Option.some.inj hj
      exact hneq k hk (congrArg Prod.fst h2).symm
    · exact absurd (hltC k hk) (Nat.not_lt.mpr hq)
  have hdis : ∀ i j, i < (pj_BBC B0 u10).2.2.2.1.length → j < (pj_BBM B0 u11).2.2.2.1.length → (pj_BBC B0 u10).2.1 i ≠ (pj_BBM B0 u11).2.1 j := by
    intro i j hi hj e1
    refine hnA i hi ?_
    have h3 := hD3.2 j _ (pj_wg (B := pj_BBM B0 u11) (List.getElem?_eq_getElem hj))
    have e2 : u10 i = u11 j := e1
    rw [e2]
    exact h3
  have hPC2 : va_P B0.1 vwCl (pj_w (pj_BBC B0 u10) zC) H1 := pj_keep (B2 := pj_BBC B0 u10) hPC (fun j hj _ => hnA j hj) hk1
  generalize H1 = H at hP1 hPC2 hS ⊢
  refine W.widen (k := 57) (n := 10484) (Nat.le_of_ble_eq_true rfl) (Nat.le_of_ble_eq_true rfl) ?_
  refine lv_astore_n (lv' := [(2, .ref qm), (1, .ref qx), (0, .ref b)]) hx hb dl_15.1 rfl hl (by decide) rfl (fun ls hl => ?_)
  refine lv_iconst (v := 0) hx hb dl_16.1 (by decide) ?_
  refine lv_istore_n (lv' := [(3, .int 0), (2, .ref qm), (1, .ref qx), (0, .ref b)]) hx hb dl_17.1 rfl hl (by decide) rfl (fun ls hl => ?_)
  rw [← hm0, ← hx0] at hl
  have hAdC : ∀ k, k < (pj_BBC B0 u10).2.2.2.1.length → s.heap.size ≤ (pj_BBC B0 u10).2.1 k := fun k hk => hDC.2 k _ (pj_wg (B := pj_BBC B0 u10) (List.getElem?_eq_getElem hk))
  have hAdM : ∀ k, k < (pj_BBM B0 u11).2.2.2.1.length → s.heap.size ≤ (pj_BBM B0 u11).2.1 k := fun k hk => hDM.2 k _ (pj_wg (B := pj_BBM B0 u11) (List.getElem?_eq_getElem hk))
  have X : pj_LX I (pj_BBC B0 u10) (pj_BBM B0 u11) p l e s m b below meth c L xs := ⟨rfl, rfl, ⟨hx, hb, hml, hown, htp, ⟨hK, hst⟩, hapC, hAdC, hA, ⟨Nat.le_of_ble_eq_true rfl, Nat.le_of_ble_eq_true rfl⟩, Nat.le_of_ble_eq_true rfl, Nat.le_of_ble_eq_true rfl⟩, ⟨hx, hb, hml, hown, htp, ⟨hK, hst⟩, hapM, hAdM, hA, ⟨Nat.le_of_ble_eq_true rfl, Nat.le_of_ble_eq_true rfl⟩, Nat.le_of_ble_eq_true rfl, Nat.le_of_ble_eq_true rfl⟩, hdis, hX, hbl, hr, hlocks, hL, hs⟩
  exact law_loop I X (L + 7) 0 (Nat.zero_le _) (by omega) zC zM H _ ls hI ⟨hPC2, hS⟩ ⟨hP1, hS⟩ hl
