/-! Strings: a constant by its place -/
def pj_ch (i : Nat) (k : Nat) : Int32 := (pj_bytS.getD i []).getD k 0
def JStr_length (i : Nat) (z : pj_S) : Option (Int32 × pj_S) := pj_g (decide (i < 12)) (some (Int32.ofNat (pj_lenS.getD i 0), z))
def JStr_charAt (i : Nat) (k : Int32) (z : pj_S) : Option (Int32 × pj_S) := pj_g (decide (i < 12)) <| pj_g (pj_in k (pj_lenS.getD i 0)) (some (pj_ch i k.toNatClampNeg, z))
theorem JStr_hi_length {i : Nat} {z z2 : pj_S} {r : Int32} (h : JStr_length i z = some (r, z2)) : i < 12 := of_decide_eq_true (pj_gE h).1
theorem JStr_hi_charAt {i : Nat} {k : Int32} {z z2 : pj_S} {r : Int32} (h : JStr_charAt i k z = some (r, z2)) : i < 12 := of_decide_eq_true (pj_gE h).1
set_option maxHeartbeats 2000000 in
theorem pj_cKi {B : pj_B} {A : Nat → Prop} {K : pj_K} {cc : ByteArray} {nL : Nat} {own : String} {lvl : Nat} {H : Heap} {lo : List Loc} {ls : Array Slot} {st : List Value} {pc q : Nat} {y : MethodName} {c2 : ByteArray} {n2 lv2 na idx : Nat} {ret : Option FieldType} {z z2 : pj_S} {r : Int32} (As : List Value) (C : pj_C B A K cc nL own lvl) (P : pj_P B A K z H lo) (i : Nat) (hi : i < 12) (hM : pj_Mi K.2.1 y c2 n2 ret lv2 (.ref (B.2.2.2.2.2.1 i) :: As) B z r z2) (g : pj_gV own idx y c2 n2 ret na) (hna : As.length = na) (hl : lv2 + 1 ≤ lvl) (hn : n2 ≤ 45) (hls : ls.size = nL) (hst : (st.map fun v => v.category).sum ≤ 8) (d : pj_d cc pc (.invokevirtual idx) 3 q) (kk : ∀ (H2 : Heap) (lo2 : List Loc), pj_P B A K z2 H2 lo2 → pj_W K H2 lo2 q ls (.int r :: st)) (hy : y.cls = "java/lang/String" := by rfl) : pj_W K H lo pc ls (As.reverse ++ .ref (B.2.2.2.2.2.1 i) :: st) := by
  obtain ⟨d, rfl⟩ := d
  obtain ⟨g1, g2, g3, g4, g5, g6, g7, g8⟩ := g
  have hts := C.2.2.2.2.1
  refine va_calli (va_runV (C := y.cls) (As := As) (rest := st) ⟨C.1, C.2.1, C.2.2.1, C.2.2.2.1, hts⟩ (hM H.size) ⟨callB_of na hts (pj_good g5) rfl rfl rfl (hts _ g4) (hts _ g1) ⟨g6, g7, g8⟩ (pj_room C hl hn), hts _ g2, hts _ g3⟩ ⟨pj_Pre.blind, by rw [hy]; exact vk_recv C.2.2.2.2.2.1.2.2.2.2.2.2.2.2 hi P.2, fun U hU hW => pj_pre C P hU hW _⟩ rfl hna hls rfl (lv_room hst) d C.2.2.2.2.2.2.2.2.2.1) P.2 (fun x _ h => pj_area C P x h) (pj_area C P) (fun r2 u t H1 lo1 ht hvm hp hB hz hk hS => ?_)
  obtain ⟨rfl, rfl⟩ := hp
  exact kk H1 lo1 ⟨by rw [← ht]; exact hB, hS⟩
theorem pj_nret {B : pj_B} {A : Nat → Prop} {K : pj_K} {cc : ByteArray} {nL : Nat} {own : String} {lvl : Nat} {H : Heap} {lo : List Loc} {ls : Array Slot} {pc q : Nat} {z z0 : pj_S} {v r0 : Int32} {ty : FieldType} (C : pj_C B A K cc nL own lvl) (Q : pj_Qi B A K (some ty) r0 z0) (P : pj_P B A K z H lo) (hn : narrow ty (.int v) = .int v) (h : some (v, z) = some (r0, z0)) (d : pj_d cc pc .ireturn 1 q) : pj_W K H lo pc ls [.int v] := by
  cases h
  unfold pj_W
  rw [Q.1]
  exact W.zret C.1 C.2.1 Q.2.1 hn (fun t ht hW => ⟨⟨v, z, rfl, ⟨rfl, rfl⟩, by show va_P B.1 vwCl (pj_w B z) t.heap; rw [ht]; exact P.1⟩, P.2.F ht⟩) P.2.2.2 d.1 Q.2.2
theorem pj_sV {B : pj_B} {A : Nat → Prop} {K : pj_K} {cc : ByteArray} {nL : Nat} {own : String} {lvl : Nat} {H : Heap} {lo : List Loc} {ls : Array Slot} {st : List Value} {pc q : Nat} {z : pj_S} {index : Nat} (C : pj_C B A K cc nL own lvl) (P : pj_P B A K z H lo) (i : Nat) (hi : i < 12) (hf : Cond.fieldLink own index "java/lang/String" "value" "[B" ∈ pj_tbl) (d : pj_d cc pc (.getfield index) 3 q) (k : pj_W K H lo q ls (.ref (B.2.2.2.2.2.2 i) :: st)) : pj_W K H lo pc ls (.ref (B.2.2.2.2.2.1 i) :: st) := by
  obtain ⟨d, rfl⟩ := d
  exact vk_getf C.1 C.2.1 ((C.2.2.2.2.2.1.2.2.2.2.2.2.2.2.1 i hi).2.2.1) P.2 C.2.2.2.1 (C.2.2.2.2.1 _ hf) (fun _ h => h) d k
theorem pj_sK {B : pj_B} {A : Nat → Prop} {K : pj_K} {cc : ByteArray} {nL : Nat} {own : String} {lvl : Nat} {H : Heap} {lo : List Loc} {ls : Array Slot} {st : List Value} {pc q : Nat} {z : pj_S} {index : Nat} (C : pj_C B A K cc nL own lvl) (P : pj_P B A K z H lo) (i : Nat) (hi : i < 12) (hf : Cond.fieldLink own index "java/lang/String" "coder" "B" ∈ pj_tbl) (d : pj_d cc pc (.getfield index) 3 q) (k : pj_W K H lo q ls (.int 0 :: st)) : pj_W K H lo pc ls (.ref (B.2.2.2.2.2.1 i) :: st) := by
  obtain ⟨d, rfl⟩ := d
  exact vk_getf C.1 C.2.1 ((C.2.2.2.2.2.1.2.2.2.2.2.2.2.2.1 i hi).2.1) P.2 C.2.2.2.1 (C.2.2.2.2.1 _ hf) (fun _ h => h) d k
theorem pj_sL {B : pj_B} {A : Nat → Prop} {K : pj_K} {cc : ByteArray} {nL : Nat} {own : String} {lvl : Nat} {H : Heap} {lo : List Loc} {ls : Array Slot} {st : List Value} {pc q : Nat} {z : pj_S} (C : pj_C B A K cc nL own lvl) (P : pj_P B A K z H lo) (i : Nat) (hi : i < 12) (d : pj_d cc pc .arraylength 1 q) (k : pj_W K H lo q ls (.int (Int32.ofNat (pj_lenS.getD i 0)) :: st)) : pj_W K H lo pc ls (.ref (B.2.2.2.2.2.2 i) :: st) := by
  obtain ⟨d, rfl⟩ := d
  exact va_tlen C.1 C.2.1 ((C.2.2.2.2.2.1.2.2.2.2.2.2.2.2.1 i hi).2.2.2) P.2 rfl d k
theorem pj_sB {B : pj_B} {A : Nat → Prop} {K : pj_K} {cc : ByteArray} {nL : Nat} {own : String} {lvl : Nat} {H : Heap} {lo : List Loc} {ls : Array Slot} {st : List Value} {pc q : Nat} {z : pj_S} {j : Int32} (C : pj_C B A K cc nL own lvl) (P : pj_P B A K z H lo) (i : Nat) (hi : i < 12) (hj : vp_in j (pj_lenS.getD i 0)) (d : pj_d cc pc .baload 1 q) (k : pj_W K H lo q ls (.int (pj_ch i j.toNatClampNeg) :: st)) : pj_W K H lo pc ls (.int j :: .ref (B.2.2.2.2.2.2 i) :: st) := by
  obtain ⟨d, rfl⟩ := d
  exact va_tb C.1 C.2.1 ((C.2.2.2.2.2.1.2.2.2.2.2.2.2.2.1 i hi).2.2.2) P.2 hj rfl d k
theorem pj_sC1 {B : pj_B} {A : Nat → Prop} {K : pj_K} {cc : ByteArray} {nL : Nat} {own : String} {lvl : Nat} {H : Heap} {lo : List Loc} {ls : Array Slot} {st : List Value} {pc q : Nat} {z : pj_S} {index : Nat} (C : pj_C B A K cc nL own lvl) (P : pj_P B A K z H lo) (hf : Cond.fieldLink own index "java/lang/String" "COMPACT_STRINGS" "Z" ∈ pj_tbl) (d : pj_d cc pc (.getstatic index) 3 q) (k : pj_W K H lo q ls (.int 1 :: st)) : pj_W K H lo pc ls st := by
  obtain ⟨d, rfl⟩ := d
  exact va_gets C.1 C.2.1 C.2.2.2.2.2.1.2.2.2.2.2.1 P.2 C.2.2.2.1 (C.2.2.2.2.1 _ hf) (fun _ h => h) d k
theorem pj_sF {B : pj_B} {A : Nat → Prop} {K : pj_K} {cc : ByteArray} {nL : Nat} {own : String} {lvl : Nat} {H : Heap} {lo : List Loc} {ls : Array Slot} {st : List Value} {pc q : Nat} {z : pj_S} {index : Nat} (C : pj_C B A K cc nL own lvl) (P : pj_P B A K z H lo) (hf : Cond.fieldLink own index "jdk/internal/util/Preconditions" "SIOOBE_FORMATTER" "Ljava/util/function/BiFunction;" ∈ pj_tbl) (d : pj_d cc pc (.getstatic index) 3 q) (kn : pj_W K H lo q ls (.null :: st)) (kr : ∀ t : Nat, pj_W K H lo q ls (.ref t :: st)) : pj_W K H lo pc ls st := by
  obtain ⟨d, rfl⟩ := d
  rcases C.2.2.2.2.2.1.2.2.2.2.2.2.1 with h | ⟨t, h⟩
  · exact va_gets C.1 C.2.1 h P.2 C.2.2.2.1 (C.2.2.2.2.1 _ hf) (fun _ h => h) d kn
  · exact va_gets C.1 C.2.1 h P.2 C.2.2.2.1 (C.2.2.2.2.1 _ hf) (fun _ h => h) d (kr t)
theorem eJ0_length_8abf5_0 : pj_d cJ0_length_8abf5 0 (.aload_n 0) 1 1 := ⟨by decide +kernel, rfl⟩
theorem eJ0_length_8abf5_1 : pj_d cJ0_length_8abf5 1 (.getfield 9) 3 4 := ⟨by decide +kernel, rfl⟩
theorem eJ0_length_8abf5_4 : pj_d cJ0_length_8abf5 4 (.arraylength) 1 5 := ⟨by decide +kernel, rfl⟩
theorem eJ0_length_8abf5_5 : pj_d cJ0_length_8abf5 5 (.aload_n 0) 1 6 := ⟨by decide +kernel, rfl⟩
theorem eJ0_length_8abf5_6 : pj_d cJ0_length_8abf5 6 (.invokevirtual 335) 3 9 := ⟨by decide +kernel, rfl⟩
theorem eJ0_length_8abf5_9 : pj_d cJ0_length_8abf5 9 (.ishr) 1 10 := ⟨by decide +kernel, rfl⟩
theorem eJ0_length_8abf5_10 : pj_d cJ0_length_8abf5 10 (.ireturn) 1 11 := ⟨by decide +kernel, rfl⟩
theorem eJ0_charAt_5068e_0 : pj_d cJ0_charAt_5068e 0 (.aload_n 0) 1 1 := ⟨by decide +kernel, rfl⟩
theorem eJ0_charAt_5068e_1 : pj_d cJ0_charAt_5068e 1 (.invokevirtual 492) 3 4 := ⟨by decide +kernel, rfl⟩
theorem eJ0_charAt_5068e_4 : pj_dj cJ0_charAt_5068e 4 (.ifCond .eq 12) 12 7 16 := ⟨by decide +kernel, rfl, by decide⟩
theorem eJ0_charAt_5068e_7 : pj_d cJ0_charAt_5068e 7 (.aload_n 0) 1 8 := ⟨by decide +kernel, rfl⟩
theorem eJ0_charAt_5068e_8 : pj_d cJ0_charAt_5068e 8 (.getfield 9) 3 11 := ⟨by decide +kernel, rfl⟩
theorem eJ0_charAt_5068e_11 : pj_d cJ0_charAt_5068e 11 (.iload_n 1) 1 12 := ⟨by decide +kernel, rfl⟩
theorem eJ0_charAt_5068e_12 : pj_d cJ0_charAt_5068e 12 (.invokestatic 495) 3 15 := ⟨by decide +kernel, rfl⟩
theorem eJ0_charAt_5068e_15 : pj_d cJ0_charAt_5068e 15 (.ireturn) 1 16 := ⟨by decide +kernel, rfl⟩
theorem eJ0_charAt_5068e_16 : pj_d cJ0_charAt_5068e 16 (.aload_n 0) 1 17 := ⟨by decide +kernel, rfl⟩
theorem eJ0_charAt_5068e_17 : pj_d cJ0_charAt_5068e 17 (.getfield 9) 3 20 := ⟨by decide +kernel, rfl⟩
theorem eJ0_charAt_5068e_20 : pj_d cJ0_charAt_5068e 20 (.iload_n 1) 1 21 := ⟨by decide +kernel, rfl⟩
theorem eJ0_charAt_5068e_21 : pj_d cJ0_charAt_5068e 21 (.invokestatic 498) 3 24 := ⟨by decide +kernel, rfl⟩
theorem eJ0_charAt_5068e_24 : pj_d cJ0_charAt_5068e 24 (.ireturn) 1 25 := ⟨by decide +kernel, rfl⟩
theorem eJ0_coder_7d493_0 : pj_d cJ0_coder_7d493 0 (.getstatic 38) 3 3 := ⟨by decide +kernel, rfl⟩
theorem eJ0_coder_7d493_3 : pj_dj cJ0_coder_7d493 3 (.ifCond .eq 10) 10 6 13 := ⟨by decide +kernel, rfl, by decide⟩
theorem eJ0_coder_7d493_6 : pj_d cJ0_coder_7d493 6 (.aload_n 0) 1 7 := ⟨by decide +kernel, rfl⟩
theorem eJ0_coder_7d493_7 : pj_d cJ0_coder_7d493 7 (.getfield 15) 3 10 := ⟨by decide +kernel, rfl⟩
theorem eJ0_coder_7d493_10 : pj_dj cJ0_coder_7d493 10 (.goto 4) 4 13 14 := ⟨by decide +kernel, rfl, by decide⟩
theorem eJ0_coder_7d493_13 : pj_d cJ0_coder_7d493 13 (.iconst 1) 1 14 := ⟨by decide +kernel, rfl⟩
theorem eJ0_coder_7d493_14 : pj_d cJ0_coder_7d493 14 (.ireturn) 1 15 := ⟨by decide +kernel, rfl⟩
theorem eJ0_isLatin1_aae02_0 : pj_d cJ0_isLatin1_aae02 0 (.getstatic 38) 3 3 := ⟨by decide +kernel, rfl⟩
theorem eJ0_isLatin1_aae02_3 : pj_dj cJ0_isLatin1_aae02 3 (.ifCond .eq 14) 14 6 17 := ⟨by decide +kernel, rfl, by decide⟩
theorem eJ0_isLatin1_aae02_6 : pj_d cJ0_isLatin1_aae02 6 (.aload_n 0) 1 7 := ⟨by decide +kernel, rfl⟩
theorem eJ0_isLatin1_aae02_7 : pj_d cJ0_isLatin1_aae02 7 (.getfield 15) 3 10 := ⟨by decide +kernel, rfl⟩
theorem eJ0_isLatin1_aae02_10 : pj_dj cJ0_isLatin1_aae02 10 (.ifCond .ne 7) 7 13 17 := ⟨by decide +kernel, rfl, by decide⟩
theorem eJ0_isLatin1_aae02_13 : pj_d cJ0_isLatin1_aae02 13 (.iconst 1) 1 14 := ⟨by decide +kernel, rfl⟩
theorem eJ0_isLatin1_aae02_14 : pj_dj cJ0_isLatin1_aae02 14 (.goto 4) 4 17 18 := ⟨by decide +kernel, rfl, by decide⟩
theorem eJ0_isLatin1_aae02_17 : pj_d cJ0_isLatin1_aae02 17 (.iconst 0) 1 18 := ⟨by decide +kernel, rfl⟩
theorem eJ0_isLatin1_aae02_18 : pj_d cJ0_isLatin1_aae02 18 (.ireturn) 1 19 := ⟨by decide +kernel, rfl⟩
theorem eJ0_checkIndex_df160_0 : pj_d cJ0_checkIndex_df160 0 (.iload_n 0) 1 1 := ⟨by decide +kernel, rfl⟩
theorem eJ0_checkIndex_df160_1 : pj_d cJ0_checkIndex_df160 1 (.iload_n 1) 1 2 := ⟨by decide +kernel, rfl⟩
theorem eJ0_checkIndex_df160_2 : pj_d cJ0_checkIndex_df160 2 (.getstatic 1053) 3 5 := ⟨by decide +kernel, rfl⟩
theorem eJ0_checkIndex_df160_5 : pj_d cJ0_checkIndex_df160 5 (.invokestatic 1059) 3 8 := ⟨by decide +kernel, rfl⟩
theorem eJ0_checkIndex_df160_8 : pj_d cJ0_checkIndex_df160 8 (.pop) 1 9 := ⟨by decide +kernel, rfl⟩
theorem eJ0_checkIndex_df160_9 : pj_d cJ0_checkIndex_df160 9 (.return_) 1 10 := ⟨by decide +kernel, rfl⟩
theorem eJ1_charAt_3b067_0 : pj_d cJ1_charAt_3b067 0 (.iload_n 1) 1 1 := ⟨by decide +kernel, rfl⟩
theorem eJ1_charAt_3b067_1 : pj_d cJ1_charAt_3b067 1 (.aload_n 0) 1 2 := ⟨by decide +kernel, rfl⟩
theorem eJ1_charAt_3b067_2 : pj_d cJ1_charAt_3b067 2 (.arraylength) 1 3 := ⟨by decide +kernel, rfl⟩
theorem eJ1_charAt_3b067_3 : pj_d cJ1_charAt_3b067 3 (.invokestatic 9) 3 6 := ⟨by decide +kernel, rfl⟩
theorem eJ1_charAt_3b067_6 : pj_d cJ1_charAt_3b067 6 (.aload_n 0) 1 7 := ⟨by decide +kernel, rfl⟩
theorem eJ1_charAt_3b067_7 : pj_d cJ1_charAt_3b067 7 (.iload_n 1) 1 8 := ⟨by decide +kernel, rfl⟩
theorem eJ1_charAt_3b067_8 : pj_d cJ1_charAt_3b067 8 (.baload) 1 9 := ⟨by decide +kernel, rfl⟩
theorem eJ1_charAt_3b067_9 : pj_d cJ1_charAt_3b067 9 (.sipush 255) 3 12 := ⟨by decide +kernel, rfl⟩
theorem eJ1_charAt_3b067_12 : pj_d cJ1_charAt_3b067 12 (.iand) 1 13 := ⟨by decide +kernel, rfl⟩
theorem eJ1_charAt_3b067_13 : pj_d cJ1_charAt_3b067 13 (.i2c) 1 14 := ⟨by decide +kernel, rfl⟩
theorem eJ1_charAt_3b067_14 : pj_d cJ1_charAt_3b067 14 (.ireturn) 1 15 := ⟨by decide +kernel, rfl⟩
theorem eJ3_checkIndex_8e157_0 : pj_d cJ3_checkIndex_8e157 0 (.iload_n 0) 1 1 := ⟨by decide +kernel, rfl⟩
theorem eJ3_checkIndex_8e157_1 : pj_dj cJ3_checkIndex_8e157 1 (.ifCond .lt 8) 8 4 9 := ⟨by decide +kernel, rfl, by decide⟩
theorem eJ3_checkIndex_8e157_4 : pj_d cJ3_checkIndex_8e157 4 (.iload_n 0) 1 5 := ⟨by decide +kernel, rfl⟩
theorem eJ3_checkIndex_8e157_5 : pj_d cJ3_checkIndex_8e157 5 (.iload_n 1) 1 6 := ⟨by decide +kernel, rfl⟩
theorem eJ3_checkIndex_8e157_6 : pj_dj cJ3_checkIndex_8e157 6 (.if_icmp .lt 10) 10 9 16 := ⟨by decide +kernel, rfl, by decide⟩
theorem eJ3_checkIndex_8e157_9 : pj_d cJ3_checkIndex_8e157 9 (.aload_n 2) 1 10 := ⟨by decide +kernel, rfl⟩
theorem eJ3_checkIndex_8e157_10 : pj_d cJ3_checkIndex_8e157 10 (.iload_n 0) 1 11 := ⟨by decide +kernel, rfl⟩
theorem eJ3_checkIndex_8e157_11 : pj_d cJ3_checkIndex_8e157 11 (.iload_n 1) 1 12 := ⟨by decide +kernel, rfl⟩
theorem eJ3_checkIndex_8e157_12 : pj_d cJ3_checkIndex_8e157 12 (.invokestatic 95) 3 15 := ⟨by decide +kernel, rfl⟩
theorem eJ3_checkIndex_8e157_15 : pj_d cJ3_checkIndex_8e157 15 (.athrow) 1 16 := ⟨by decide +kernel, rfl⟩
theorem eJ3_checkIndex_8e157_16 : pj_d cJ3_checkIndex_8e157 16 (.iload_n 0) 1 17 := ⟨by decide +kernel, rfl⟩
theorem eJ3_checkIndex_8e157_17 : pj_d cJ3_checkIndex_8e157 17 (.ireturn) 1 18 := ⟨by decide +kernel, rfl⟩
theorem ct_JStr_coder {l : Launch} {B : pj_B} {i : Nat} (hi : i < 12) {z : pj_S} : pj_Mi l yJ0_coder_7d493 cJ0_coder_7d493 1 (some .byte) 1 [.ref (B.2.2.2.2.2.1 i)] B z 0 z := by
  refine pj_meti (own := RJ0) (by decide +kernel) rfl (Nat.le_of_ble_eq_true rfl) ?_
  intro A K hK C Q H lo ls P hl
  have hl : lv_has ls 1 [(0, .ref (B.2.2.2.2.2.1 i))] := hl
  refine pj_sC1 C P jf_38 eJ0_coder_7d493_0 ?_
  refine pj_if_eq (X := none) (Y := some ()) (r := ()) C (by decide) eJ0_coder_7d493_3 (fun h => by cases h) (fun _ => ?_)
  refine pj_aload_n C eJ0_coder_7d493_6 rfl hl 0 rfl ?_
  refine pj_sK C P i hi jf_15 eJ0_coder_7d493_7 ?_
  refine pj_goto C eJ0_coder_7d493_10 ?_
  exact pj_nret C Q P (by decide) rfl eJ0_coder_7d493_14
theorem ct_JStr_isLatin1 {l : Launch} {B : pj_B} {i : Nat} (hi : i < 12) {z : pj_S} : pj_Mi l yJ0_isLatin1_aae02 cJ0_isLatin1_aae02 1 (some .boolean) 1 [.ref (B.2.2.2.2.2.1 i)] B z 1 z := by
  refine pj_meti (own := RJ0) (by decide +kernel) rfl (Nat.le_of_ble_eq_true rfl) ?_
  intro A K hK C Q H lo ls P hl
  have hl : lv_has ls 1 [(0, .ref (B.2.2.2.2.2.1 i))] := hl
  refine pj_sC1 C P jf_38 eJ0_isLatin1_aae02_0 ?_
  refine pj_if_eq (X := none) (Y := some ()) (r := ()) C (by decide) eJ0_isLatin1_aae02_3 (fun h => by cases h) (fun _ => ?_)
  refine pj_aload_n C eJ0_isLatin1_aae02_6 rfl hl 0 rfl ?_
  refine pj_sK C P i hi jf_15 eJ0_isLatin1_aae02_7 ?_
  refine pj_if_ne (X := none) (Y := some ()) (r := ()) C (by decide) eJ0_isLatin1_aae02_10 (fun h => by cases h) (fun _ => ?_)
  refine pj_iconst (v := 1) C eJ0_isLatin1_aae02_13 rfl ?_
  refine pj_goto C eJ0_isLatin1_aae02_14 ?_
  exact pj_nret C Q P (by decide) rfl eJ0_isLatin1_aae02_18
theorem pj_chk {a : Int32} {n : Nat} (hn : n < 2 ^ 31) (h : vp_in a n) : ¬ a < 0 ∧ a < Int32.ofNat n := by
  obtain ⟨j, hj, rfl⟩ := vp_in_of h hn
  exact ⟨nI_pos (by omega), nI_lt hj hn⟩
theorem ct_JPre_n {l : Launch} {B : pj_B} {a b : Int32} (h1 : ¬ a < 0) (h2 : a < b) {z : pj_S} : pj_Mi l yJ3_checkIndex_8e157 cJ3_checkIndex_8e157 3 (some .int) 1 [.int a, .int b, .null] B z a z := by
  refine pj_meti (own := RJ3) (by decide +kernel) rfl (Nat.le_of_ble_eq_true rfl) ?_
  intro A K hK C Q H lo ls P hl
  have hl : lv_has ls 3 [(0, .int a), (1, .int b), (2, .null)] := hl
  refine pj_iload_n C eJ3_checkIndex_8e157_0 rfl hl 0 rfl ?_
  refine pj_if_lt (X := none) (Y := some ()) (r := ()) C (by rw [if_neg h1]) eJ3_checkIndex_8e157_1 (fun h => by cases h) (fun _ => ?_)
  refine pj_iload_n C eJ3_checkIndex_8e157_4 rfl hl 0 rfl ?_
  refine pj_iload_n C eJ3_checkIndex_8e157_5 rfl hl 1 rfl ?_
  refine pj_ic_lt (X := some ()) (Y := none) (r := ()) C (by rw [if_pos h2]) eJ3_checkIndex_8e157_6 (fun _ => ?_) (fun h => by cases h)
  refine pj_iload_n C eJ3_checkIndex_8e157_16 rfl hl 0 rfl ?_
  exact pj_iret C Q P rfl eJ3_checkIndex_8e157_17
theorem ct_JPre_r {l : Launch} {B : pj_B} {a b : Int32} {t : Nat} (h1 : ¬ a < 0) (h2 : a < b) {z : pj_S} : pj_Mi l yJ3_checkIndex_8e157 cJ3_checkIndex_8e157 3 (some .int) 1 [.int a, .int b, .ref t] B z a z := by
  refine pj_meti (own := RJ3) (by decide +kernel) rfl (Nat.le_of_ble_eq_true rfl) ?_
  intro A K hK C Q H lo ls P hl
  have hl : lv_has ls 3 [(0, .int a), (1, .int b), (2, .ref t)] := hl
  refine pj_iload_n C eJ3_checkIndex_8e157_0 rfl hl 0 rfl ?_
  refine pj_if_lt (X := none) (Y := some ()) (r := ()) C (by rw [if_neg h1]) eJ3_checkIndex_8e157_1 (fun h => by cases h) (fun _ => ?_)
  refine pj_iload_n C eJ3_checkIndex_8e157_4 rfl hl 0 rfl ?_
  refine pj_iload_n C eJ3_checkIndex_8e157_5 rfl hl 1 rfl ?_
  refine pj_ic_lt (X := some ()) (Y := none) (r := ()) C (by rw [if_pos h2]) eJ3_checkIndex_8e157_6 (fun _ => ?_) (fun h => by cases h)
  refine pj_iload_n C eJ3_checkIndex_8e157_16 rfl hl 0 rfl ?_
  exact pj_iret C Q P rfl eJ3_checkIndex_8e157_17
theorem ct_JStr_checkIndex {l : Launch} {B : pj_B} {a b : Int32} (h1 : ¬ a < 0) (h2 : a < b) {z : pj_S} : pj_Mv l yJ0_checkIndex_df160 cJ0_checkIndex_df160 2 none 2 [.int a, .int b] B z () z := by
  refine pj_metv (own := RJ0) (by decide +kernel) rfl (Nat.le_of_ble_eq_true rfl) ?_
  intro A K hK C Q H lo ls P hl
  have hl : lv_has ls 2 [(0, .int a), (1, .int b)] := hl
  refine pj_iload_n C eJ0_checkIndex_df160_0 rfl hl 0 rfl ?_
  refine pj_iload_n C eJ0_checkIndex_df160_1 rfl hl 1 rfl ?_
  refine pj_sF C P jf_1053 eJ0_checkIndex_df160_2 ?_ (fun t => ?_)
  · refine pj_cSi (st := []) [.int a, .int b, .null] C P (ct_JPre_n h1 h2) cl_JStr_1059 rfl (by decide) (by decide) hl.1 (Nat.le_of_ble_eq_true rfl) eJ0_checkIndex_df160_5 (fun H lo P => ?_)
    refine pj_pop C eJ0_checkIndex_df160_8 rfl ?_
    exact pj_vret C Q P rfl eJ0_checkIndex_df160_9
  · refine pj_cSi (st := []) [.int a, .int b, .ref t] C P (ct_JPre_r h1 h2) cl_JStr_1059 rfl (by decide) (by decide) hl.1 (Nat.le_of_ble_eq_true rfl) eJ0_checkIndex_df160_5 (fun H lo P => ?_)
    refine pj_pop C eJ0_checkIndex_df160_8 rfl ?_
    exact pj_vret C Q P rfl eJ0_checkIndex_df160_9
theorem pj_chA : ∀ i, i < 12 → ∀ k, k < pj_lenS.getD i 0 → (((pj_ch i k &&& 255).toUInt32 % 65536).toInt32 = pj_ch i k ∧ narrow .char (.int (pj_ch i k)) = .int (pj_ch i k)) := by decide +kernel
theorem pj_lenA : ∀ i, i < 12 → pj_lenS.getD i 0 < 2 ^ 31 := by decide +kernel
theorem ct_JLat_charAt {l : Launch} {B : pj_B} {i : Nat} {j : Int32} (hi : i < 12) (hj : vp_in j (pj_lenS.getD i 0)) {z : pj_S} : pj_Mi l yJ1_charAt_3b067 cJ1_charAt_3b067 2 (some .char) 3 [.ref (B.2.2.2.2.2.2 i), .int j] B z (pj_ch i j.toNatClampNeg) z := by
  refine pj_meti (own := RJ1) (by decide +kernel) rfl (Nat.le_of_ble_eq_true rfl) ?_
  intro A K hK C Q H lo ls P hl
  have hl : lv_has ls 2 [(0, .ref (B.2.2.2.2.2.2 i)), (1, .int j)] := hl
  obtain ⟨g1, g2⟩ := pj_chk (pj_lenA i hi) hj
  refine pj_iload_n C eJ1_charAt_3b067_0 rfl hl 1 rfl ?_
  refine pj_aload_n C eJ1_charAt_3b067_1 rfl hl 0 rfl ?_
  refine pj_sL C P i hi eJ1_charAt_3b067_2 ?_
  refine pj_cSv (st := []) [.int j, .int (Int32.ofNat (pj_lenS.getD i 0))] C P (ct_JStr_checkIndex g1 g2) cl_JLat_9 rfl (by decide) (by decide) hl.1 (Nat.le_of_ble_eq_true rfl) eJ1_charAt_3b067_3 (fun H lo P => ?_)
  refine pj_aload_n C eJ1_charAt_3b067_6 rfl hl 0 rfl ?_
  refine pj_iload_n C eJ1_charAt_3b067_7 rfl hl 1 rfl ?_
  refine pj_sB C P i hi hj eJ1_charAt_3b067_8 ?_
  refine pj_sipush (v := 255) C eJ1_charAt_3b067_9 rfl ?_
  refine pj_iand C eJ1_charAt_3b067_12 ?_
  refine pj_i2c C eJ1_charAt_3b067_13 ?_
  have hk : j.toNatClampNeg < pj_lenS.getD i 0 := by
    obtain ⟨k, hk, rfl⟩ := vp_in_of hj (pj_lenA i hi)
    have := pj_lenA i hi
    rw [nI_clamp (by omega)]
    exact hk
  obtain ⟨c1, c2⟩ := pj_chA i hi _ hk
  rw [c1]
  exact pj_nret C Q P c2 rfl eJ1_charAt_3b067_14
theorem ct_JStr_length {l : Launch} {B : pj_B} {L : List pj_Y} (hB : B.2.2.2.1 = L) {v0 : Nat} {z : pj_S} {r0 : Int32} {z0 : pj_S} (h : JStr_length v0 z = some (r0, z0)) : pj_Mi l yJ0_length_8abf5 cJ0_length_8abf5 1 (some .int) 6 [.ref (B.2.2.2.2.2.1 v0)] B z r0 z0 := by
  have hi := JStr_hi_length h
  replace h := (pj_gE h).2
  refine pj_meti (own := RJ0) (by decide +kernel) rfl (Nat.le_of_ble_eq_true rfl) ?_
  intro A K hK C Q H lo ls P hl
  have hl : lv_has ls 1 [(0, .ref (B.2.2.2.2.2.1 v0))] := hl
  refine pj_aload_n C eJ0_length_8abf5_0 rfl hl 0 rfl ?_
  refine pj_sV C P v0 hi jf_9 eJ0_length_8abf5_1 ?_
  refine pj_sL C P v0 hi eJ0_length_8abf5_4 ?_
  refine pj_aload_n C eJ0_length_8abf5_5 rfl hl 0 rfl ?_
  refine pj_cKi (st := [.int (Int32.ofNat (pj_lenS.getD v0 0))]) [] C P v0 hi (ct_JStr_coder hi) cl_JStr_335 rfl (by decide) (by decide) hl.1 (Nat.le_of_ble_eq_true rfl) eJ0_length_8abf5_6 (fun H lo P => ?_)
  refine pj_ishr C eJ0_length_8abf5_9 ?_
  rw [sb_shr0]
  exact pj_iret C Q P h eJ0_length_8abf5_10
theorem ct_JStr_charAt {l : Launch} {B : pj_B} {L : List pj_Y} (hB : B.2.2.2.1 = L) {v0 : Nat} {v1 : Int32} {z : pj_S} {r0 : Int32} {z0 : pj_S} (h : JStr_charAt v0 v1 z = some (r0, z0)) : pj_Mi l yJ0_charAt_5068e cJ0_charAt_5068e 2 (some .char) 6 [.ref (B.2.2.2.2.2.1 v0), .int v1] B z r0 z0 := by
  have hi := JStr_hi_charAt h
  obtain ⟨hj, h⟩ := pj_gE (pj_gE h).2
  replace hj := pj_inE hj
  refine pj_meti (own := RJ0) (by decide +kernel) rfl (Nat.le_of_ble_eq_true rfl) ?_
  intro A K hK C Q H lo ls P hl
  have hl : lv_has ls 2 [(0, .ref (B.2.2.2.2.2.1 v0)), (1, .int v1)] := hl
  have hk : v1.toNatClampNeg < pj_lenS.getD v0 0 := by
    obtain ⟨k, hk, rfl⟩ := vp_in_of hj (pj_lenA v0 hi)
    have := pj_lenA v0 hi
    rw [nI_clamp (by omega)]
    exact hk
  refine pj_aload_n C eJ0_charAt_5068e_0 rfl hl 0 rfl ?_
  refine pj_cKi (st := []) [] C P v0 hi (ct_JStr_isLatin1 hi) cl_JStr_492 rfl (by decide) (by decide) hl.1 (Nat.le_of_ble_eq_true rfl) eJ0_charAt_5068e_1 (fun H lo P => ?_)
  refine pj_if_eq (X := none) (Y := some ()) (r := ()) C (by decide) eJ0_charAt_5068e_4 (fun h => by cases h) (fun _ => ?_)
  refine pj_aload_n C eJ0_charAt_5068e_7 rfl hl 0 rfl ?_
  refine pj_sV C P v0 hi jf_9 eJ0_charAt_5068e_8 ?_
  refine pj_iload_n C eJ0_charAt_5068e_11 rfl hl 1 rfl ?_
  refine pj_cSi (st := []) [.ref (B.2.2.2.2.2.2 v0), .int v1] C P (ct_JLat_charAt hi hj) cl_JStr_495 rfl (by decide) (by decide) hl.1 (Nat.le_of_ble_eq_true rfl) eJ0_charAt_5068e_12 (fun H lo P => ?_)
  exact pj_nret C Q P (pj_chA v0 hi _ hk).2 h eJ0_charAt_5068e_15
