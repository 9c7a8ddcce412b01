/-! Strings: a constant by its place -/
def pj_ch (i : Nat) (k : Nat) : Int32 := (pj_bytS.getD i []).getD k 0
def JStr_length (i : Nat) (z : pj_S) : Option (Int32 × pj_S) := pj_g (decide (i < 12)) (some (Int32.ofNat (pj_lenS.getD i 0), z))
def JStr_charAt (i : Nat) (k : Int32) (z : pj_S) : Option (Int32 × pj_S) := pj_g (decide (i < 12)) <| pj_g (pj_in k (pj_lenS.getD i 0)) (some (pj_ch i k.toNatClampNeg, z))
theorem JStr_hi_length {i : Nat} {z z2 : pj_S} {r : Int32} (h : JStr_length i z = some (r, z2)) : i < 12 := of_decide_eq_true (pj_gE h).1
theorem JStr_hi_charAt {i : Nat} {k : Int32} {z z2 : pj_S} {r : Int32} (h : JStr_charAt i k z = some (r, z2)) : i < 12 := of_decide_eq_true (pj_gE h).1
set_option maxHeartbeats 2000000 in
theorem pj_cKi {B : pj_B} {A : Nat → Prop} {K : pj_K} {cc : ByteArray} {nL : Nat} {own : String} {lvl : Nat} {H : Heap} {lo : List Loc} {ls : Array Slot} {st : List Value} {pc q : Nat} {y : MethodName} {c2 : ByteArray} {n2 lv2 na idx : Nat} {ret : Option FieldType} {z z2 : pj_S} {r : Int32} (As : List Value) (C : pj_C B A K cc nL own lvl) (P : pj_P B A K z H lo) (i : Nat) (hi : i < 12) (hM : pj_Mi K.2.1 y c2 n2 ret lv2 (.ref (B.2.2.2.2.2.1 i) :: As) B z r z2) (g : pj_gV own idx y c2 n2 ret na) (hna : As.length = na) (hl : lv2 + 1 ≤ lvl) (hn : n2 ≤ 45) (hls : ls.size = nL) (hst : (st.map fun v => v.category).sum ≤ 8) (d : pj_d cc pc (.invokevirtual idx) 3 q) (kk : ∀ (H2 : Heap) (lo2 : List Loc), pj_P B A K z2 H2 lo2 → pj_W K H2 lo2 q ls (.int r :: st)) (hy : y.cls = "java/lang/String" := by rfl) : pj_W K H lo pc ls (As.reverse ++ .ref (B.2.2.2.2.2.1 i) :: st) := by
  obtain ⟨d, rfl⟩ := d
  obtain ⟨g1, g2, g3, g4, g5, g6, g7, g8⟩ := g
  have hts := C.2.2.2.2.1
  refine va_calli (va_runV (C := y.cls) (As := As) (rest := st) ⟨C.1, C.2.1, C.2.2.1, C.2.2.2.1, hts⟩ (hM H.size) ⟨callB_of na hts (pj_good g5) rfl rfl rfl (hts _ g4) (hts _ g1) ⟨g6, g7, g8⟩ (pj_room C hl hn), hts _ g2, hts _ g3⟩ ⟨pj_Pre.blind, by rw [hy]; exact vk_recv C.2.2.2.2.2.1.2.2.2.2.2.2.2.2 hi P.2, fun U hU hW => pj_pre C P hU hW _⟩ rfl hna hls rfl (lv_room hst) d C.2.2.2.2.2.2.2.2.2.1) P.2 (fun x _ h => pj_area C P x h) (pj_area C P) (fun r2 u t H1 lo1 ht hvm hp hB hz hk hS => ?_)
  obtain ⟨rfl, rfl⟩ := hp
  exact kk H1 lo1 ⟨by rw [← ht]; exact hB, hS⟩
theorem ct_JStr_length {l : Launch} {B : pj_B} {L : List pj_Y} (hB : B.2.2.2.1 = L) {v0 : Nat} {z : pj_S} {r0 : Int32} {z0 : pj_S} (h : JStr_length v0 z = some (r0, z0)) : pj_Mi l yJ0_length_8abf5 cJ0_length_8abf5 1 (some .int) 6 [.ref (B.2.2.2.2.2.1 v0)] B z r0 z0 := by
  sorry
theorem ct_JStr_charAt {l : Launch} {B : pj_B} {L : List pj_Y} (hB : B.2.2.2.1 = L) {v0 : Nat} {v1 : Int32} {z : pj_S} {r0 : Int32} {z0 : pj_S} (h : JStr_charAt v0 v1 z = some (r0, z0)) : pj_Mi l yJ0_charAt_5068e cJ0_charAt_5068e 2 (some .char) 6 [.ref (B.2.2.2.2.2.1 v0), .int v1] B z r0 z0 := by
  sorry
