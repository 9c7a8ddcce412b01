theorem dd_Md_isInside_0 : pj_d cX11_isInside 0 (.iload_n 0) 1 1 := ⟨by decide +kernel, rfl⟩
theorem dd_Md_isInside_1 : pj_d cX11_isInside 1 (.bipush 8) 2 3 := ⟨by decide +kernel, rfl⟩
theorem dd_Md_isInside_3 : pj_d cX11_isInside 3 (.irem) 1 4 := ⟨by decide +kernel, rfl⟩
theorem dd_Md_isInside_4 : pj_d cX11_isInside 4 (.iload_n 1) 1 5 := ⟨by decide +kernel, rfl⟩
theorem dd_Md_isInside_5 : pj_d cX11_isInside 5 (.iload_n 2) 1 6 := ⟨by decide +kernel, rfl⟩
theorem dd_Md_isInside_6 : pj_d cX11_isInside 6 (.invokestatic 70) 3 9 := ⟨by decide +kernel, rfl⟩
theorem dd_Md_isInside_9 : pj_dj cX11_isInside 9 (.ifCond .eq 20) 20 12 29 := ⟨by decide +kernel, rfl, by decide⟩
theorem dd_Md_isInside_12 : pj_d cX11_isInside 12 (.iload_n 0) 1 13 := ⟨by decide +kernel, rfl⟩
theorem dd_Md_isInside_13 : pj_d cX11_isInside 13 (.bipush 8) 2 15 := ⟨by decide +kernel, rfl⟩
theorem dd_Md_isInside_15 : pj_d cX11_isInside 15 (.idiv) 1 16 := ⟨by decide +kernel, rfl⟩
theorem dd_Md_isInside_16 : pj_d cX11_isInside 16 (.iload_n 3) 1 17 := ⟨by decide +kernel, rfl⟩
theorem dd_Md_isInside_17 : pj_d cX11_isInside 17 (.iload 4) 2 19 := ⟨by decide +kernel, rfl⟩
theorem dd_Md_isInside_19 : pj_d cX11_isInside 19 (.invokestatic 70) 3 22 := ⟨by decide +kernel, rfl⟩
theorem dd_Md_isInside_22 : pj_dj cX11_isInside 22 (.ifCond .eq 7) 7 25 29 := ⟨by decide +kernel, rfl, by decide⟩
theorem dd_Md_isInside_25 : pj_d cX11_isInside 25 (.iconst 1) 1 26 := ⟨by decide +kernel, rfl⟩
theorem dd_Md_isInside_26 : pj_dj cX11_isInside 26 (.goto 4) 4 29 30 := ⟨by decide +kernel, rfl, by decide⟩
theorem dd_Md_isInside_29 : pj_d cX11_isInside 29 (.iconst 0) 1 30 := ⟨by decide +kernel, rfl⟩
theorem dd_Md_isInside_30 : pj_d cX11_isInside 30 (.ireturn) 1 31 := ⟨by decide +kernel, rfl⟩
set_option maxHeartbeats 4000000 in
set_option maxRecDepth 100000 in
theorem ct_Md_isInsideM {l : Launch} {B : pj_B} (hB : B.2.2.2.1 = pj_LM) {v0 : Int32} {v1 : Int32} {v2 : Int32} {v3 : Int32} {v4 : Int32} {z : pj_S} {r0 : Int32} {z0 : pj_S} (h : Md_isInsideM v0 v1 v2 v3 v4 z = some (r0, z0)) : pj_Mi l yX11_isInside cX11_isInside 5 (some .boolean) 2 [.int v0, .int v1, .int v2, .int v3, .int v4] B z r0 z0 := by
  refine pj_meti (own := RX11) (by decide +kernel) rfl (Nat.le_of_ble_eq_true rfl) ?_
  intro A K hK C Q H lo ls P hl
  have hl : lv_has ls 5 [(0, .int v0), (1, .int v1), (2, .int v2), (3, .int v3), (4, .int v4)] := hl
  unfold Md_isInsideM at h
  refine pj_iload_n C dd_Md_isInside_0 rfl hl 0 rfl ?_
  refine pj_bipush (v := (nI 8)) C dd_Md_isInside_1 rfl ?_
  refine pj_irem C h dd_Md_isInside_3 (fun h => ?_)
  refine pj_iload_n C dd_Md_isInside_4 rfl hl 1 rfl ?_
  refine pj_iload_n C dd_Md_isInside_5 rfl hl 2 rfl ?_
  obtain ⟨r3, z2, e1, h⟩ := pj_cE h
  refine pj_cSi (st := []) [.int (pj_rem v0 (nI 8)), .int v1, .int v2] C P (ct_Md_isInM hB e1) cl_Md_70 rfl (by decide) (by decide) hl.1 (Nat.le_of_ble_eq_true rfl) dd_Md_isInside_6 (fun H lo P => ?_)
  refine pj_if_eq C h dd_Md_isInside_9 (fun h => ?_) (fun h => ?_)
  · refine pj_iconst (v := (nI 0)) C dd_Md_isInside_29 rfl ?_
    exact pj_zret C Q P h dd_Md_isInside_30
  · refine pj_iload_n C dd_Md_isInside_12 rfl hl 0 rfl ?_
    refine pj_bipush (v := (nI 8)) C dd_Md_isInside_13 rfl ?_
    refine pj_idiv C h dd_Md_isInside_15 (fun h => ?_)
    refine pj_iload_n C dd_Md_isInside_16 rfl hl 3 rfl ?_
    refine pj_iload C dd_Md_isInside_17 hl 4 rfl ?_
    obtain ⟨r6, z5, e4, h⟩ := pj_cE h
    refine pj_cSi (st := []) [.int (v0 / (nI 8)), .int v3, .int v4] C P (ct_Md_isInM hB e4) cl_Md_70 rfl (by decide) (by decide) hl.1 (Nat.le_of_ble_eq_true rfl) dd_Md_isInside_19 (fun H lo P => ?_)
    refine pj_if_eq C h dd_Md_isInside_22 (fun h => ?_) (fun h => ?_)
    · refine pj_iconst (v := (nI 0)) C dd_Md_isInside_29 rfl ?_
      exact pj_zret C Q P h dd_Md_isInside_30
    · refine pj_iconst (v := (nI 1)) C dd_Md_isInside_25 rfl ?_
      refine pj_goto C dd_Md_isInside_26 ?_
      exact pj_zret C Q P h dd_Md_isInside_30
theorem dd_Md_part_0 : pj_d cX11_part 0 (.iload_n 1) 1 1 := ⟨by decide +kernel, rfl⟩
theorem dd_Md_part_1 : pj_d cX11_part 1 (.iconst 0) 1 2 := ⟨by decide +kernel, rfl⟩
theorem dd_Md_part_2 : pj_d cX11_part 2 (.iload_n 2) 1 3 := ⟨by decide +kernel, rfl⟩
theorem dd_Md_part_3 : pj_d cX11_part 3 (.invokestatic 70) 3 6 := ⟨by decide +kernel, rfl⟩
theorem dd_Md_part_6 : pj_dj cX11_part 6 (.ifCond .eq 46) 46 9 52 := ⟨by decide +kernel, rfl, by decide⟩
theorem dd_Md_part_9 : pj_d cX11_part 9 (.iload_n 2) 1 10 := ⟨by decide +kernel, rfl⟩
theorem dd_Md_part_10 : pj_d cX11_part 10 (.iconst 0) 1 11 := ⟨by decide +kernel, rfl⟩
theorem dd_Md_part_11 : pj_d cX11_part 11 (.aload_n 0) 1 12 := ⟨by decide +kernel, rfl⟩
theorem dd_Md_part_12 : pj_d cX11_part 12 (.getfield 7) 3 15 := ⟨by decide +kernel, rfl⟩
theorem dd_Md_part_15 : pj_d cX11_part 15 (.iconst 0) 1 16 := ⟨by decide +kernel, rfl⟩
theorem dd_Md_part_16 : pj_d cX11_part 16 (.iaload) 1 17 := ⟨by decide +kernel, rfl⟩
theorem dd_Md_part_17 : pj_d cX11_part 17 (.iconst 1) 1 18 := ⟨by decide +kernel, rfl⟩
theorem dd_Md_part_18 : pj_d cX11_part 18 (.isub) 1 19 := ⟨by decide +kernel, rfl⟩
theorem dd_Md_part_19 : pj_d cX11_part 19 (.invokestatic 70) 3 22 := ⟨by decide +kernel, rfl⟩
theorem dd_Md_part_22 : pj_dj cX11_part 22 (.ifCond .eq 30) 30 25 52 := ⟨by decide +kernel, rfl, by decide⟩
theorem dd_Md_part_25 : pj_d cX11_part 25 (.iload_n 3) 1 26 := ⟨by decide +kernel, rfl⟩
theorem dd_Md_part_26 : pj_d cX11_part 26 (.iconst 0) 1 27 := ⟨by decide +kernel, rfl⟩
theorem dd_Md_part_27 : pj_d cX11_part 27 (.iload 4) 2 29 := ⟨by decide +kernel, rfl⟩
theorem dd_Md_part_29 : pj_d cX11_part 29 (.invokestatic 70) 3 32 := ⟨by decide +kernel, rfl⟩
theorem dd_Md_part_32 : pj_dj cX11_part 32 (.ifCond .eq 20) 20 35 52 := ⟨by decide +kernel, rfl, by decide⟩
theorem dd_Md_part_35 : pj_d cX11_part 35 (.iload 4) 2 37 := ⟨by decide +kernel, rfl⟩
theorem dd_Md_part_37 : pj_d cX11_part 37 (.iconst 0) 1 38 := ⟨by decide +kernel, rfl⟩
theorem dd_Md_part_38 : pj_d cX11_part 38 (.aload_n 0) 1 39 := ⟨by decide +kernel, rfl⟩
theorem dd_Md_part_39 : pj_d cX11_part 39 (.getfield 7) 3 42 := ⟨by decide +kernel, rfl⟩
theorem dd_Md_part_42 : pj_d cX11_part 42 (.iconst 1) 1 43 := ⟨by decide +kernel, rfl⟩
theorem dd_Md_part_43 : pj_d cX11_part 43 (.iaload) 1 44 := ⟨by decide +kernel, rfl⟩
theorem dd_Md_part_44 : pj_d cX11_part 44 (.iconst 1) 1 45 := ⟨by decide +kernel, rfl⟩
theorem dd_Md_part_45 : pj_d cX11_part 45 (.isub) 1 46 := ⟨by decide +kernel, rfl⟩
theorem dd_Md_part_46 : pj_d cX11_part 46 (.invokestatic 70) 3 49 := ⟨by decide +kernel, rfl⟩
theorem dd_Md_part_49 : pj_dj cX11_part 49 (.ifCond .ne 5) 5 52 54 := ⟨by decide +kernel, rfl, by decide⟩
theorem dd_Md_part_52 : pj_d cX11_part 52 (.iconst (-1)) 1 53 := ⟨by decide +kernel, rfl⟩
theorem dd_Md_part_53 : pj_d cX11_part 53 (.ireturn) 1 54 := ⟨by decide +kernel, rfl⟩
theorem dd_Md_part_54 : pj_d cX11_part 54 (.iconst 0) 1 55 := ⟨by decide +kernel, rfl⟩
theorem dd_Md_part_55 : pj_d cX11_part 55 (.istore 5) 2 57 := ⟨by decide +kernel, rfl⟩
theorem dd_Md_part_57 : pj_d cX11_part 57 (.iconst 0) 1 58 := ⟨by decide +kernel, rfl⟩
theorem dd_Md_part_58 : pj_d cX11_part 58 (.istore 6) 2 60 := ⟨by decide +kernel, rfl⟩
theorem dd_Md_part_60 : pj_d cX11_part 60 (.iload 6) 2 62 := ⟨by decide +kernel, rfl⟩
theorem dd_Md_part_62 : pj_d cX11_part 62 (.iconst 1) 1 63 := ⟨by decide +kernel, rfl⟩
theorem dd_Md_part_63 : pj_d cX11_part 63 (.iadd) 1 64 := ⟨by decide +kernel, rfl⟩
theorem dd_Md_part_64 : pj_d cX11_part 64 (.aload_n 0) 1 65 := ⟨by decide +kernel, rfl⟩
theorem dd_Md_part_65 : pj_d cX11_part 65 (.getfield 7) 3 68 := ⟨by decide +kernel, rfl⟩
theorem dd_Md_part_68 : pj_d cX11_part 68 (.iconst 0) 1 69 := ⟨by decide +kernel, rfl⟩
theorem dd_Md_part_69 : pj_d cX11_part 69 (.iaload) 1 70 := ⟨by decide +kernel, rfl⟩
theorem dd_Md_part_70 : pj_d cX11_part 70 (.aload_n 0) 1 71 := ⟨by decide +kernel, rfl⟩
theorem dd_Md_part_71 : pj_d cX11_part 71 (.getfield 7) 3 74 := ⟨by decide +kernel, rfl⟩
theorem dd_Md_part_74 : pj_d cX11_part 74 (.iconst 1) 1 75 := ⟨by decide +kernel, rfl⟩
theorem dd_Md_part_75 : pj_d cX11_part 75 (.iaload) 1 76 := ⟨by decide +kernel, rfl⟩
theorem dd_Md_part_76 : pj_d cX11_part 76 (.imul) 1 77 := ⟨by decide +kernel, rfl⟩
theorem dd_Md_part_77 : pj_dj cX11_part 77 (.if_icmp .ge 104) 104 80 181 := ⟨by decide +kernel, rfl, by decide⟩
theorem dd_Md_part_80 : pj_d cX11_part 80 (.iload 5) 2 82 := ⟨by decide +kernel, rfl⟩
theorem dd_Md_part_82 : pj_d cX11_part 82 (.aload_n 0) 1 83 := ⟨by decide +kernel, rfl⟩
theorem dd_Md_part_83 : pj_d cX11_part 83 (.getfield 7) 3 86 := ⟨by decide +kernel, rfl⟩
theorem dd_Md_part_86 : pj_d cX11_part 86 (.sipush 202) 3 89 := ⟨by decide +kernel, rfl⟩
theorem dd_Md_part_89 : pj_d cX11_part 89 (.iload 6) 2 91 := ⟨by decide +kernel, rfl⟩
theorem dd_Md_part_91 : pj_d cX11_part 91 (.iadd) 1 92 := ⟨by decide +kernel, rfl⟩
theorem dd_Md_part_92 : pj_d cX11_part 92 (.iaload) 1 93 := ⟨by decide +kernel, rfl⟩
theorem dd_Md_part_93 : pj_dj cX11_part 93 (.ifCond .ne 78) 78 96 171 := ⟨by decide +kernel, rfl, by decide⟩
theorem dd_Md_part_96 : pj_d cX11_part 96 (.aload_n 0) 1 97 := ⟨by decide +kernel, rfl⟩
theorem dd_Md_part_97 : pj_d cX11_part 97 (.getfield 7) 3 100 := ⟨by decide +kernel, rfl⟩
theorem dd_Md_part_100 : pj_d cX11_part 100 (.sipush 1490) 3 103 := ⟨by decide +kernel, rfl⟩
theorem dd_Md_part_103 : pj_d cX11_part 103 (.aload_n 0) 1 104 := ⟨by decide +kernel, rfl⟩
theorem dd_Md_part_104 : pj_d cX11_part 104 (.iload 6) 2 106 := ⟨by decide +kernel, rfl⟩
theorem dd_Md_part_106 : pj_d cX11_part 106 (.invokevirtual 258) 3 109 := ⟨by decide +kernel, rfl⟩
theorem dd_Md_part_109 : pj_d cX11_part 109 (.iadd) 1 110 := ⟨by decide +kernel, rfl⟩
theorem dd_Md_part_110 : pj_d cX11_part 110 (.iaload) 1 111 := ⟨by decide +kernel, rfl⟩
theorem dd_Md_part_111 : pj_dj cX11_part 111 (.ifCond .ne 60) 60 114 171 := ⟨by decide +kernel, rfl, by decide⟩
theorem dd_Md_part_114 : pj_d cX11_part 114 (.aload_n 0) 1 115 := ⟨by decide +kernel, rfl⟩
theorem dd_Md_part_115 : pj_d cX11_part 115 (.getfield 7) 3 118 := ⟨by decide +kernel, rfl⟩
theorem dd_Md_part_118 : pj_d cX11_part 118 (.sipush 1490) 3 121 := ⟨by decide +kernel, rfl⟩
theorem dd_Md_part_121 : pj_d cX11_part 121 (.aload_n 0) 1 122 := ⟨by decide +kernel, rfl⟩
theorem dd_Md_part_122 : pj_d cX11_part 122 (.iload 6) 2 124 := ⟨by decide +kernel, rfl⟩
theorem dd_Md_part_124 : pj_d cX11_part 124 (.iconst 1) 1 125 := ⟨by decide +kernel, rfl⟩
theorem dd_Md_part_125 : pj_d cX11_part 125 (.iadd) 1 126 := ⟨by decide +kernel, rfl⟩
theorem dd_Md_part_126 : pj_d cX11_part 126 (.invokevirtual 258) 3 129 := ⟨by decide +kernel, rfl⟩
theorem dd_Md_part_129 : pj_d cX11_part 129 (.iadd) 1 130 := ⟨by decide +kernel, rfl⟩
theorem dd_Md_part_130 : pj_d cX11_part 130 (.iaload) 1 131 := ⟨by decide +kernel, rfl⟩
theorem dd_Md_part_131 : pj_dj cX11_part 131 (.ifCond .ne 40) 40 134 171 := ⟨by decide +kernel, rfl, by decide⟩
theorem dd_Md_part_134 : pj_d cX11_part 134 (.aload_n 0) 1 135 := ⟨by decide +kernel, rfl⟩
theorem dd_Md_part_135 : pj_d cX11_part 135 (.iload 6) 2 137 := ⟨by decide +kernel, rfl⟩
theorem dd_Md_part_137 : pj_d cX11_part 137 (.invokevirtual 258) 3 140 := ⟨by decide +kernel, rfl⟩
theorem dd_Md_part_140 : pj_d cX11_part 140 (.iload_n 1) 1 141 := ⟨by decide +kernel, rfl⟩
theorem dd_Md_part_141 : pj_d cX11_part 141 (.iload_n 2) 1 142 := ⟨by decide +kernel, rfl⟩
theorem dd_Md_part_142 : pj_d cX11_part 142 (.iload_n 3) 1 143 := ⟨by decide +kernel, rfl⟩
theorem dd_Md_part_143 : pj_d cX11_part 143 (.iload 4) 2 145 := ⟨by decide +kernel, rfl⟩
theorem dd_Md_part_145 : pj_d cX11_part 145 (.invokestatic 311) 3 148 := ⟨by decide +kernel, rfl⟩
theorem dd_Md_part_148 : pj_d cX11_part 148 (.aload_n 0) 1 149 := ⟨by decide +kernel, rfl⟩
theorem dd_Md_part_149 : pj_d cX11_part 149 (.iload 6) 2 151 := ⟨by decide +kernel, rfl⟩
theorem dd_Md_part_151 : pj_d cX11_part 151 (.iconst 1) 1 152 := ⟨by decide +kernel, rfl⟩
theorem dd_Md_part_152 : pj_d cX11_part 152 (.iadd) 1 153 := ⟨by decide +kernel, rfl⟩
theorem dd_Md_part_153 : pj_d cX11_part 153 (.invokevirtual 258) 3 156 := ⟨by decide +kernel, rfl⟩
theorem dd_Md_part_156 : pj_d cX11_part 156 (.iload_n 1) 1 157 := ⟨by decide +kernel, rfl⟩
theorem dd_Md_part_157 : pj_d cX11_part 157 (.iload_n 2) 1 158 := ⟨by decide +kernel, rfl⟩
theorem dd_Md_part_158 : pj_d cX11_part 158 (.iload_n 3) 1 159 := ⟨by decide +kernel, rfl⟩
theorem dd_Md_part_159 : pj_d cX11_part 159 (.iload 4) 2 161 := ⟨by decide +kernel, rfl⟩
theorem dd_Md_part_161 : pj_d cX11_part 161 (.invokestatic 311) 3 164 := ⟨by decide +kernel, rfl⟩
theorem dd_Md_part_164 : pj_dj cX11_part 164 (.if_icmp .eq 7) 7 167 171 := ⟨by decide +kernel, rfl, by decide⟩
theorem dd_Md_part_167 : pj_d cX11_part 167 (.iconst 1) 1 168 := ⟨by decide +kernel, rfl⟩
theorem dd_Md_part_168 : pj_dj cX11_part 168 (.goto 4) 4 171 172 := ⟨by decide +kernel, rfl, by decide⟩
theorem dd_Md_part_171 : pj_d cX11_part 171 (.iconst 0) 1 172 := ⟨by decide +kernel, rfl⟩
theorem dd_Md_part_172 : pj_d cX11_part 172 (.iadd) 1 173 := ⟨by decide +kernel, rfl⟩
theorem dd_Md_part_173 : pj_d cX11_part 173 (.istore 5) 2 175 := ⟨by decide +kernel, rfl⟩
theorem dd_Md_part_175 : pj_d cX11_part 175 (.iinc 6 1) 3 178 := ⟨by decide +kernel, rfl⟩
theorem dd_Md_part_178 : pj_dj cX11_part 178 (.goto (-118)) (-118) 181 60 := ⟨by decide +kernel, rfl, by decide⟩
theorem dd_Md_part_181 : pj_d cX11_part 181 (.iload 5) 2 183 := ⟨by decide +kernel, rfl⟩
theorem dd_Md_part_183 : pj_d cX11_part 183 (.ireturn) 1 184 := ⟨by decide +kernel, rfl⟩
set_option maxHeartbeats 4000000 in
set_option maxRecDepth 100000 in
theorem bt_Md_part_172 {B : pj_B} {A : Nat → Prop} {K : pj_K} {r0 : Int32} {z0 : pj_S} (hB : B.2.2.2.1 = pj_LM) (C : pj_C B A K cX11_part 7 RX11 3) (Q : pj_Qi B A K (some .int) r0 z0) (s60 : Int32 → Int32 → Int32 → Int32 → Int32 → Int32 → pj_S → Option (Int32 × pj_S)) (k60 : ∀ (v1 : Int32) (v2 : Int32) (v3 : Int32) (v4 : Int32) (v5 : Int32) (v6 : Int32) (z : pj_S) (H : Heap) (lo : List Loc) (ls : Array Slot), s60 v1 v2 v3 v4 v5 v6 z = some (r0, z0) → pj_P B A K z H lo → lv_has ls 7 [(0, .ref (B.2.1 0)), (1, .int v1), (2, .int v2), (3, .int v3), (4, .int v4), (5, .int v5), (6, .int v6)] → pj_W K H lo 60 ls []) (v1 : Int32) (v2 : Int32) (v3 : Int32) (v4 : Int32) (v6 : Int32) (t0 : Int32) (t1 : Int32) (z : pj_S) (H : Heap) (lo : List Loc) (ls : Array Slot) (h : Md_part_172 s60 v1 v2 v3 v4 v6 t0 t1 z = some (r0, z0)) (P : pj_P B A K z H lo) (hl : lv_has ls 7 [(0, .ref (B.2.1 0)), (1, .int v1), (2, .int v2), (3, .int v3), (4, .int v4), (6, .int v6)]) : pj_W K H lo 172 ls [.int t0, .int t1] := by
  unfold Md_part_172 at h
  refine pj_iadd C dd_Md_part_172 ?_
  refine pj_istb [(0, .ref (B.2.1 0)), (1, .int v1), (2, .int v2), (3, .int v3), (4, .int v4), (6, .int v6)] C h dd_Md_part_173 hl (by decide) rfl (fun x1 ls h hl => ?_)
  refine pj_iinc (v := (nI 1)) [(5, .int x1), (0, .ref (B.2.1 0)), (1, .int v1), (2, .int v2), (3, .int v3), (4, .int v4)] C h rfl dd_Md_part_175 hl 6 rfl (by decide) rfl (fun x2 ls h hl => ?_)
  refine pj_goto C dd_Md_part_178 ?_
  exact k60 _ _ _ _ _ _ _ _ _ _ h P (lv_sub hl [2, 3, 4, 5, 6, 1, 0] rfl)
set_option maxHeartbeats 4000000 in
set_option maxRecDepth 100000 in
theorem bt_Md_part_171 {B : pj_B} {A : Nat → Prop} {K : pj_K} {r0 : Int32} {z0 : pj_S} (hB : B.2.2.2.1 = pj_LM) (C : pj_C B A K cX11_part 7 RX11 3) (Q : pj_Qi B A K (some .int) r0 z0) (s60 : Int32 → Int32 → Int32 → Int32 → Int32 → Int32 → pj_S → Option (Int32 × pj_S)) (k60 : ∀ (v1 : Int32) (v2 : Int32) (v3 : Int32) (v4 : Int32) (v5 : Int32) (v6 : Int32) (z : pj_S) (H : Heap) (lo : List Loc) (ls : Array Slot), s60 v1 v2 v3 v4 v5 v6 z = some (r0, z0) → pj_P B A K z H lo → lv_has ls 7 [(0, .ref (B.2.1 0)), (1, .int v1), (2, .int v2), (3, .int v3), (4, .int v4), (5, .int v5), (6, .int v6)] → pj_W K H lo 60 ls []) (v1 : Int32) (v2 : Int32) (v3 : Int32) (v4 : Int32) (v6 : Int32) (t0 : Int32) (z : pj_S) (H : Heap) (lo : List Loc) (ls : Array Slot) (h : Md_part_171 s60 v1 v2 v3 v4 v6 t0 z = some (r0, z0)) (P : pj_P B A K z H lo) (hl : lv_has ls 7 [(0, .ref (B.2.1 0)), (1, .int v1), (2, .int v2), (3, .int v3), (4, .int v4), (6, .int v6)]) : pj_W K H lo 171 ls [.int t0] := by
  unfold Md_part_171 at h
  refine pj_iconst (v := (nI 0)) C dd_Md_part_171 rfl ?_
  exact bt_Md_part_172 hB C Q s60 k60 _ _ _ _ _ _ _ _ _ _ _ h P (lv_sub hl [0, 1, 2, 3, 4, 5] rfl)
set_option maxHeartbeats 4000000 in
set_option maxRecDepth 100000 in
theorem bt_Md_part_181 {B : pj_B} {A : Nat → Prop} {K : pj_K} {r0 : Int32} {z0 : pj_S} (hB : B.2.2.2.1 = pj_LM) (C : pj_C B A K cX11_part 7 RX11 3) (Q : pj_Qi B A K (some .int) r0 z0)  (v5 : Int32) (z : pj_S) (H : Heap) (lo : List Loc) (ls : Array Slot) (h : Md_part_181 v5 z = some (r0, z0)) (P : pj_P B A K z H lo) (hl : lv_has ls 7 [(5, .int v5)]) : pj_W K H lo 181 ls [] := by
  unfold Md_part_181 at h
  refine pj_iload C dd_Md_part_181 hl 0 rfl ?_
  exact pj_iret C Q P h dd_Md_part_183
set_option maxHeartbeats 4000000 in
set_option maxRecDepth 100000 in
theorem bt_Md_part_60 {B : pj_B} {A : Nat → Prop} {K : pj_K} {r0 : Int32} {z0 : pj_S} (hB : B.2.2.2.1 = pj_LM) (C : pj_C B A K cX11_part 7 RX11 3) (Q : pj_Qi B A K (some .int) r0 z0) (s60 : Int32 → Int32 → Int32 → Int32 → Int32 → Int32 → pj_S → Option (Int32 × pj_S)) (k60 : ∀ (v1 : Int32) (v2 : Int32) (v3 : Int32) (v4 : Int32) (v5 : Int32) (v6 : Int32) (z : pj_S) (H : Heap) (lo : List Loc) (ls : Array Slot), s60 v1 v2 v3 v4 v5 v6 z = some (r0, z0) → pj_P B A K z H lo → lv_has ls 7 [(0, .ref (B.2.1 0)), (1, .int v1), (2, .int v2), (3, .int v3), (4, .int v4), (5, .int v5), (6, .int v6)] → pj_W K H lo 60 ls []) (v1 : Int32) (v2 : Int32) (v3 : Int32) (v4 : Int32) (v5 : Int32) (v6 : Int32) (z : pj_S) (H : Heap) (lo : List Loc) (ls : Array Slot) (h : Md_part_60 s60 v1 v2 v3 v4 v5 v6 z = some (r0, z0)) (P : pj_P B A K z H lo) (hl : lv_has ls 7 [(0, .ref (B.2.1 0)), (1, .int v1), (2, .int v2), (3, .int v3), (4, .int v4), (5, .int v5), (6, .int v6)]) : pj_W K H lo 60 ls [] := by
  unfold Md_part_60 at h
  refine pj_iload C dd_Md_part_60 hl 6 rfl ?_
  refine pj_iconst (v := (nI 1)) C dd_Md_part_62 rfl ?_
  refine pj_iadd C dd_Md_part_63 ?_
  refine pj_aload_n C dd_Md_part_64 rfl hl 0 rfl ?_
  refine pj_getR C P 0 (LM0 hB) rfl fl_Md_7 dd_Md_part_65 ?_
  refine pj_iconst (v := (nI 0)) C dd_Md_part_68 rfl ?_
  refine pj_iald C P 1 (LM1 hB) h dd_Md_part_69 (fun h => ?_)
  refine pj_aload_n C dd_Md_part_70 rfl hl 0 rfl ?_
  refine pj_getR C P 0 (LM0 hB) rfl fl_Md_7 dd_Md_part_71 ?_
  refine pj_iconst (v := (nI 1)) C dd_Md_part_74 rfl ?_
  refine pj_iald C P 1 (LM1 hB) h dd_Md_part_75 (fun h => ?_)
  refine pj_imul C dd_Md_part_76 ?_
  refine pj_ic_ge C h dd_Md_part_77 (fun h => ?_) (fun h => ?_)
  · exact bt_Md_part_181 hB C Q _ _ _ _ _ h P (lv_sub hl [5] rfl)
  · refine pj_iload C dd_Md_part_80 hl 5 rfl ?_
    refine pj_aload_n C dd_Md_part_82 rfl hl 0 rfl ?_
    refine pj_getR C P 0 (LM0 hB) rfl fl_Md_7 dd_Md_part_83 ?_
    refine pj_sipush (v := (nI 202)) C dd_Md_part_86 rfl ?_
    refine pj_iload C dd_Md_part_89 hl 6 rfl ?_
    refine pj_iadd C dd_Md_part_91 ?_
    refine pj_iald C P 1 (LM1 hB) h dd_Md_part_92 (fun h => ?_)
    refine pj_if_ne C h dd_Md_part_93 (fun h => ?_) (fun h => ?_)
    · exact bt_Md_part_171 hB C Q s60 k60 _ _ _ _ _ _ _ _ _ _ h P (lv_sub hl [0, 1, 2, 3, 4, 6] rfl)
    · refine pj_aload_n C dd_Md_part_96 rfl hl 0 rfl ?_
      refine pj_getR C P 0 (LM0 hB) rfl fl_Md_7 dd_Md_part_97 ?_
      refine pj_sipush (v := (nI 1490)) C dd_Md_part_100 rfl ?_
      refine pj_aload_n C dd_Md_part_103 rfl hl 0 rfl ?_
      refine pj_iload C dd_Md_part_104 hl 6 rfl ?_
      obtain ⟨r3, z2, e1, h⟩ := pj_cE h
      refine pj_cVi (st := [.int (nI 1490), .ref (B.2.1 1), .int v5]) [.int v6] C P 0 (LM0 hB) rfl (ct_Md_stitchAt hB e1) cl_Md_258 rfl (by decide) (by decide) hl.1 (Nat.le_of_ble_eq_true rfl) dd_Md_part_106 (fun H lo P => ?_)
      refine pj_iadd C dd_Md_part_109 ?_
      refine pj_iald C P 1 (LM1 hB) h dd_Md_part_110 (fun h => ?_)
      refine pj_if_ne C h dd_Md_part_111 (fun h => ?_) (fun h => ?_)
      · exact bt_Md_part_171 hB C Q s60 k60 _ _ _ _ _ _ _ _ _ _ h P (lv_sub hl [0, 1, 2, 3, 4, 6] rfl)
      · refine pj_aload_n C dd_Md_part_114 rfl hl 0 rfl ?_
        refine pj_getR C P 0 (LM0 hB) rfl fl_Md_7 dd_Md_part_115 ?_
        refine pj_sipush (v := (nI 1490)) C dd_Md_part_118 rfl ?_
        refine pj_aload_n C dd_Md_part_121 rfl hl 0 rfl ?_
        refine pj_iload C dd_Md_part_122 hl 6 rfl ?_
        refine pj_iconst (v := (nI 1)) C dd_Md_part_124 rfl ?_
        refine pj_iadd C dd_Md_part_125 ?_
        obtain ⟨r6, z5, e4, h⟩ := pj_cE h
        refine pj_cVi (st := [.int (nI 1490), .ref (B.2.1 1), .int v5]) [.int (v6 + (nI 1))] C P 0 (LM0 hB) rfl (ct_Md_stitchAt hB e4) cl_Md_258 rfl (by decide) (by decide) hl.1 (Nat.le_of_ble_eq_true rfl) dd_Md_part_126 (fun H lo P => ?_)
        refine pj_iadd C dd_Md_part_129 ?_
        refine pj_iald C P 1 (LM1 hB) h dd_Md_part_130 (fun h => ?_)
        refine pj_if_ne C h dd_Md_part_131 (fun h => ?_) (fun h => ?_)
        · exact bt_Md_part_171 hB C Q s60 k60 _ _ _ _ _ _ _ _ _ _ h P (lv_sub hl [0, 1, 2, 3, 4, 6] rfl)
        · refine pj_aload_n C dd_Md_part_134 rfl hl 0 rfl ?_
          refine pj_iload C dd_Md_part_135 hl 6 rfl ?_
          obtain ⟨r9, z8, e7, h⟩ := pj_cE h
          refine pj_cVi (st := [.int v5]) [.int v6] C P 0 (LM0 hB) rfl (ct_Md_stitchAt hB e7) cl_Md_258 rfl (by decide) (by decide) hl.1 (Nat.le_of_ble_eq_true rfl) dd_Md_part_137 (fun H lo P => ?_)
          refine pj_iload_n C dd_Md_part_140 rfl hl 1 rfl ?_
          refine pj_iload_n C dd_Md_part_141 rfl hl 2 rfl ?_
          refine pj_iload_n C dd_Md_part_142 rfl hl 3 rfl ?_
          refine pj_iload C dd_Md_part_143 hl 4 rfl ?_
          obtain ⟨r12, z11, e10, h⟩ := pj_cE h
          refine pj_cSi (st := [.int v5]) [.int r9, .int v1, .int v2, .int v3, .int v4] C P (ct_Md_isInsideM hB e10) cl_Md_311 rfl (by decide) (by decide) hl.1 (Nat.le_of_ble_eq_true rfl) dd_Md_part_145 (fun H lo P => ?_)
          refine pj_aload_n C dd_Md_part_148 rfl hl 0 rfl ?_
          refine pj_iload C dd_Md_part_149 hl 6 rfl ?_
          refine pj_iconst (v := (nI 1)) C dd_Md_part_151 rfl ?_
          refine pj_iadd C dd_Md_part_152 ?_
          obtain ⟨r15, z14, e13, h⟩ := pj_cE h
          refine pj_cVi (st := [.int r12, .int v5]) [.int (v6 + (nI 1))] C P 0 (LM0 hB) rfl (ct_Md_stitchAt hB e13) cl_Md_258 rfl (by decide) (by decide) hl.1 (Nat.le_of_ble_eq_true rfl) dd_Md_part_153 (fun H lo P => ?_)
          refine pj_iload_n C dd_Md_part_156 rfl hl 1 rfl ?_
          refine pj_iload_n C dd_Md_part_157 rfl hl 2 rfl ?_
          refine pj_iload_n C dd_Md_part_158 rfl hl 3 rfl ?_
          refine pj_iload C dd_Md_part_159 hl 4 rfl ?_
          obtain ⟨r18, z17, e16, h⟩ := pj_cE h
          refine pj_cSi (st := [.int r12, .int v5]) [.int r15, .int v1, .int v2, .int v3, .int v4] C P (ct_Md_isInsideM hB e16) cl_Md_311 rfl (by decide) (by decide) hl.1 (Nat.le_of_ble_eq_true rfl) dd_Md_part_161 (fun H lo P => ?_)
          refine pj_ic_eq C h dd_Md_part_164 (fun h => ?_) (fun h => ?_)
          · exact bt_Md_part_171 hB C Q s60 k60 _ _ _ _ _ _ _ _ _ _ h P (lv_sub hl [0, 1, 2, 3, 4, 6] rfl)
          · refine pj_iconst (v := (nI 1)) C dd_Md_part_167 rfl ?_
            refine pj_goto C dd_Md_part_168 ?_
            exact bt_Md_part_172 hB C Q s60 k60 _ _ _ _ _ _ _ _ _ _ _ h P (lv_sub hl [0, 1, 2, 3, 4, 6] rfl)
theorem lt_Md_part_60 {B : pj_B} {A : Nat → Prop} {K : pj_K} {r0 : Int32} {z0 : pj_S} (hB : B.2.2.2.1 = pj_LM) (C : pj_C B A K cX11_part 7 RX11 3) (Q : pj_Qi B A K (some .int) r0 z0)  : ∀ (n : Nat) (v1 : Int32) (v2 : Int32) (v3 : Int32) (v4 : Int32) (v5 : Int32) (v6 : Int32) (z : pj_S) (H : Heap) (lo : List Loc) (ls : Array Slot), pj_lp6 Md_part_60 n v1 v2 v3 v4 v5 v6 z = some (r0, z0) → pj_P B A K z H lo → lv_has ls 7 [(0, .ref (B.2.1 0)), (1, .int v1), (2, .int v2), (3, .int v3), (4, .int v4), (5, .int v5), (6, .int v6)] → pj_W K H lo 60 ls [] := by
  intro n
  induction n with
  | zero => intro v1 v2 v3 v4 v5 v6 z H lo ls h; rw [pj_lp6_0] at h; cases h
  | succ n ih =>
    intro v1 v2 v3 v4 v5 v6 z H lo ls h P hl
    rw [pj_lp6_s] at h
    exact bt_Md_part_60 hB C Q   (pj_lp6 Md_part_60 n) ih v1 v2 v3 v4 v5 v6 z H lo ls h P hl
set_option maxHeartbeats 4000000 in
set_option maxRecDepth 100000 in
theorem ct_Md_part {l : Launch} {B : pj_B} (hB : B.2.2.2.1 = pj_LM) {v1 : Int32} {v2 : Int32} {v3 : Int32} {v4 : Int32} {z : pj_S} {r0 : Int32} {z0 : pj_S} (h : Md_part v1 v2 v3 v4 z = some (r0, z0)) : pj_Mi l yX11_part cX11_part 7 (some .int) 3 [.ref (B.2.1 0), .int v1, .int v2, .int v3, .int v4] B z r0 z0 := by
  refine pj_meti (own := RX11) (by decide +kernel) rfl (Nat.le_of_ble_eq_true rfl) ?_
  intro A K hK C Q H lo ls P hl
  have hl : lv_has ls 7 [(0, .ref (B.2.1 0)), (1, .int v1), (2, .int v2), (3, .int v3), (4, .int v4)] := hl
  unfold Md_part at h
  refine pj_iload_n C dd_Md_part_0 rfl hl 1 rfl ?_
  refine pj_iconst (v := (nI 0)) C dd_Md_part_1 rfl ?_
  refine pj_iload_n C dd_Md_part_2 rfl hl 2 rfl ?_
  obtain ⟨r3, z2, e1, h⟩ := pj_cE h
  refine pj_cSi (st := []) [.int v1, .int (nI 0), .int v2] C P (ct_Md_isInM hB e1) cl_Md_70 rfl (by decide) (by decide) hl.1 (Nat.le_of_ble_eq_true rfl) dd_Md_part_3 (fun H lo P => ?_)
  refine pj_if_eq C h dd_Md_part_6 (fun h => ?_) (fun h => ?_)
  · refine pj_iconst (v := (-1 : Int32)) C dd_Md_part_52 rfl ?_
    exact pj_iret C Q P h dd_Md_part_53
  · refine pj_iload_n C dd_Md_part_9 rfl hl 2 rfl ?_
    refine pj_iconst (v := (nI 0)) C dd_Md_part_10 rfl ?_
    refine pj_aload_n C dd_Md_part_11 rfl hl 0 rfl ?_
    refine pj_getR C P 0 (LM0 hB) rfl fl_Md_7 dd_Md_part_12 ?_
    refine pj_iconst (v := (nI 0)) C dd_Md_part_15 rfl ?_
    refine pj_iald C P 1 (LM1 hB) h dd_Md_part_16 (fun h => ?_)
    refine pj_iconst (v := (nI 1)) C dd_Md_part_17 rfl ?_
    refine pj_isub C dd_Md_part_18 ?_
    obtain ⟨r6, z5, e4, h⟩ := pj_cE h
    refine pj_cSi (st := []) [.int v2, .int (nI 0), .int ((z2.1 1 (Int32.toNatClampNeg (nI 0))) - (nI 1))] C P (ct_Md_isInM hB e4) cl_Md_70 rfl (by decide) (by decide) hl.1 (Nat.le_of_ble_eq_true rfl) dd_Md_part_19 (fun H lo P => ?_)
    refine pj_if_eq C h dd_Md_part_22 (fun h => ?_) (fun h => ?_)
    · refine pj_iconst (v := (-1 : Int32)) C dd_Md_part_52 rfl ?_
      exact pj_iret C Q P h dd_Md_part_53
    · refine pj_iload_n C dd_Md_part_25 rfl hl 3 rfl ?_
      refine pj_iconst (v := (nI 0)) C dd_Md_part_26 rfl ?_
      refine pj_iload C dd_Md_part_27 hl 4 rfl ?_
      obtain ⟨r9, z8, e7, h⟩ := pj_cE h
      refine pj_cSi (st := []) [.int v3, .int (nI 0), .int v4] C P (ct_Md_isInM hB e7) cl_Md_70 rfl (by decide) (by decide) hl.1 (Nat.le_of_ble_eq_true rfl) dd_Md_part_29 (fun H lo P => ?_)
      refine pj_if_eq C h dd_Md_part_32 (fun h => ?_) (fun h => ?_)
      · refine pj_iconst (v := (-1 : Int32)) C dd_Md_part_52 rfl ?_
        exact pj_iret C Q P h dd_Md_part_53
      · refine pj_iload C dd_Md_part_35 hl 4 rfl ?_
        refine pj_iconst (v := (nI 0)) C dd_Md_part_37 rfl ?_
        refine pj_aload_n C dd_Md_part_38 rfl hl 0 rfl ?_
        refine pj_getR C P 0 (LM0 hB) rfl fl_Md_7 dd_Md_part_39 ?_
        refine pj_iconst (v := (nI 1)) C dd_Md_part_42 rfl ?_
        refine pj_iald C P 1 (LM1 hB) h dd_Md_part_43 (fun h => ?_)
        refine pj_iconst (v := (nI 1)) C dd_Md_part_44 rfl ?_
        refine pj_isub C dd_Md_part_45 ?_
        obtain ⟨r12, z11, e10, h⟩ := pj_cE h
        refine pj_cSi (st := []) [.int v4, .int (nI 0), .int ((z8.1 1 (Int32.toNatClampNeg (nI 1))) - (nI 1))] C P (ct_Md_isInM hB e10) cl_Md_70 rfl (by decide) (by decide) hl.1 (Nat.le_of_ble_eq_true rfl) dd_Md_part_46 (fun H lo P => ?_)
        refine pj_if_ne C h dd_Md_part_49 (fun h => ?_) (fun h => ?_)
        · refine pj_iconst (v := (nI 0)) C dd_Md_part_54 rfl ?_
          refine pj_istore [(5, .int (nI 0)), (0, .ref (B.2.1 0)), (1, .int v1), (2, .int v2), (3, .int v3), (4, .int v4)] C dd_Md_part_55 hl (by decide) rfl (fun ls hl => ?_)
          refine pj_iconst (v := (nI 0)) C dd_Md_part_57 rfl ?_
          refine pj_istore [(6, .int (nI 0)), (5, .int (nI 0)), (0, .ref (B.2.1 0)), (1, .int v1), (2, .int v2), (3, .int v3), (4, .int v4)] C dd_Md_part_58 hl (by decide) rfl (fun ls hl => ?_)
          exact lt_Md_part_60 hB C Q 4000 _ _ _ _ _ _ _ _ _ _ h P (lv_sub hl [2, 3, 4, 5, 6, 1, 0] rfl)
        · refine pj_iconst (v := (-1 : Int32)) C dd_Md_part_52 rfl ?_
          exact pj_iret C Q P h dd_Md_part_53
theorem dd_Md_join_0 : pj_d cX11_join 0 (.iload_n 1) 1 1 := ⟨by decide +kernel, rfl⟩
theorem dd_Md_join_1 : pj_d cX11_join 1 (.iconst 1) 1 2 := ⟨by decide +kernel, rfl⟩
theorem dd_Md_join_2 : pj_dj cX11_join 2 (.if_icmp .ge 5) 5 5 7 := ⟨by decide +kernel, rfl, by decide⟩
theorem dd_Md_join_5 : pj_d cX11_join 5 (.iconst (-1)) 1 6 := ⟨by decide +kernel, rfl⟩
theorem dd_Md_join_6 : pj_d cX11_join 6 (.ireturn) 1 7 := ⟨by decide +kernel, rfl⟩
theorem dd_Md_join_7 : pj_d cX11_join 7 (.iconst 0) 1 8 := ⟨by decide +kernel, rfl⟩
theorem dd_Md_join_8 : pj_d cX11_join 8 (.istore_n 2) 1 9 := ⟨by decide +kernel, rfl⟩
theorem dd_Md_join_9 : pj_d cX11_join 9 (.iconst 0) 1 10 := ⟨by decide +kernel, rfl⟩
theorem dd_Md_join_10 : pj_d cX11_join 10 (.istore_n 3) 1 11 := ⟨by decide +kernel, rfl⟩
theorem dd_Md_join_11 : pj_d cX11_join 11 (.iconst 0) 1 12 := ⟨by decide +kernel, rfl⟩
theorem dd_Md_join_12 : pj_d cX11_join 12 (.istore 4) 2 14 := ⟨by decide +kernel, rfl⟩
theorem dd_Md_join_14 : pj_d cX11_join 14 (.iload_n 3) 1 15 := ⟨by decide +kernel, rfl⟩
theorem dd_Md_join_15 : pj_d cX11_join 15 (.iload_n 1) 1 16 := ⟨by decide +kernel, rfl⟩
theorem dd_Md_join_16 : pj_dj cX11_join 16 (.if_icmp .ge 108) 108 19 124 := ⟨by decide +kernel, rfl, by decide⟩
theorem dd_Md_join_19 : pj_d cX11_join 19 (.iload 4) 2 21 := ⟨by decide +kernel, rfl⟩
theorem dd_Md_join_21 : pj_d cX11_join 21 (.aload_n 0) 1 22 := ⟨by decide +kernel, rfl⟩
theorem dd_Md_join_22 : pj_d cX11_join 22 (.getfield 7) 3 25 := ⟨by decide +kernel, rfl⟩
theorem dd_Md_join_25 : pj_d cX11_join 25 (.iconst 3) 1 26 := ⟨by decide +kernel, rfl⟩
theorem dd_Md_join_26 : pj_d cX11_join 26 (.iaload) 1 27 := ⟨by decide +kernel, rfl⟩
theorem dd_Md_join_27 : pj_dj cX11_join 27 (.if_icmp .ge 97) 97 30 124 := ⟨by decide +kernel, rfl, by decide⟩
theorem dd_Md_join_30 : pj_d cX11_join 30 (.iconst (-1)) 1 31 := ⟨by decide +kernel, rfl⟩
theorem dd_Md_join_31 : pj_d cX11_join 31 (.istore 5) 2 33 := ⟨by decide +kernel, rfl⟩
theorem dd_Md_join_33 : pj_d cX11_join 33 (.iconst 0) 1 34 := ⟨by decide +kernel, rfl⟩
theorem dd_Md_join_34 : pj_d cX11_join 34 (.istore 6) 2 36 := ⟨by decide +kernel, rfl⟩
theorem dd_Md_join_36 : pj_d cX11_join 36 (.iload 6) 2 38 := ⟨by decide +kernel, rfl⟩
theorem dd_Md_join_38 : pj_d cX11_join 38 (.aload_n 0) 1 39 := ⟨by decide +kernel, rfl⟩
theorem dd_Md_join_39 : pj_d cX11_join 39 (.getfield 7) 3 42 := ⟨by decide +kernel, rfl⟩
theorem dd_Md_join_42 : pj_d cX11_join 42 (.iconst 3) 1 43 := ⟨by decide +kernel, rfl⟩
theorem dd_Md_join_43 : pj_d cX11_join 43 (.iaload) 1 44 := ⟨by decide +kernel, rfl⟩
theorem dd_Md_join_44 : pj_dj cX11_join 44 (.if_icmp .ge 53) 53 47 97 := ⟨by decide +kernel, rfl, by decide⟩
theorem dd_Md_join_47 : pj_d cX11_join 47 (.iload_n 2) 1 48 := ⟨by decide +kernel, rfl⟩
theorem dd_Md_join_48 : pj_d cX11_join 48 (.iload 6) 2 50 := ⟨by decide +kernel, rfl⟩
theorem dd_Md_join_50 : pj_d cX11_join 50 (.ishr) 1 51 := ⟨by decide +kernel, rfl⟩
theorem dd_Md_join_51 : pj_d cX11_join 51 (.iconst 1) 1 52 := ⟨by decide +kernel, rfl⟩
theorem dd_Md_join_52 : pj_d cX11_join 52 (.iand) 1 53 := ⟨by decide +kernel, rfl⟩
theorem dd_Md_join_53 : pj_dj cX11_join 53 (.ifCond .ne 38) 38 56 91 := ⟨by decide +kernel, rfl, by decide⟩
theorem dd_Md_join_56 : pj_d cX11_join 56 (.iload 5) 2 58 := ⟨by decide +kernel, rfl⟩
theorem dd_Md_join_58 : pj_d cX11_join 58 (.iconst (-1)) 1 59 := ⟨by decide +kernel, rfl⟩
theorem dd_Md_join_59 : pj_dj cX11_join 59 (.if_icmp .eq 28) 28 62 87 := ⟨by decide +kernel, rfl, by decide⟩
theorem dd_Md_join_62 : pj_d cX11_join 62 (.aload_n 0) 1 63 := ⟨by decide +kernel, rfl⟩
theorem dd_Md_join_63 : pj_d cX11_join 63 (.getfield 7) 3 66 := ⟨by decide +kernel, rfl⟩
theorem dd_Md_join_66 : pj_d cX11_join 66 (.sipush 270) 3 69 := ⟨by decide +kernel, rfl⟩
theorem dd_Md_join_69 : pj_d cX11_join 69 (.iload 6) 2 71 := ⟨by decide +kernel, rfl⟩
theorem dd_Md_join_71 : pj_d cX11_join 71 (.iadd) 1 72 := ⟨by decide +kernel, rfl⟩
theorem dd_Md_join_72 : pj_d cX11_join 72 (.iaload) 1 73 := ⟨by decide +kernel, rfl⟩
theorem dd_Md_join_73 : pj_d cX11_join 73 (.aload_n 0) 1 74 := ⟨by decide +kernel, rfl⟩
theorem dd_Md_join_74 : pj_d cX11_join 74 (.getfield 7) 3 77 := ⟨by decide +kernel, rfl⟩
theorem dd_Md_join_77 : pj_d cX11_join 77 (.sipush 270) 3 80 := ⟨by decide +kernel, rfl⟩
theorem dd_Md_join_80 : pj_d cX11_join 80 (.iload 5) 2 82 := ⟨by decide +kernel, rfl⟩
theorem dd_Md_join_82 : pj_d cX11_join 82 (.iadd) 1 83 := ⟨by decide +kernel, rfl⟩
theorem dd_Md_join_83 : pj_d cX11_join 83 (.iaload) 1 84 := ⟨by decide +kernel, rfl⟩
theorem dd_Md_join_84 : pj_dj cX11_join 84 (.if_icmp .le 7) 7 87 91 := ⟨by decide +kernel, rfl, by decide⟩
theorem dd_Md_join_87 : pj_d cX11_join 87 (.iload 6) 2 89 := ⟨by decide +kernel, rfl⟩
theorem dd_Md_join_89 : pj_d cX11_join 89 (.istore 5) 2 91 := ⟨by decide +kernel, rfl⟩
theorem dd_Md_join_91 : pj_d cX11_join 91 (.iinc 6 1) 3 94 := ⟨by decide +kernel, rfl⟩
theorem dd_Md_join_94 : pj_dj cX11_join 94 (.goto (-58)) (-58) 97 36 := ⟨by decide +kernel, rfl, by decide⟩
theorem dd_Md_join_97 : pj_d cX11_join 97 (.iload_n 2) 1 98 := ⟨by decide +kernel, rfl⟩
theorem dd_Md_join_98 : pj_d cX11_join 98 (.iconst 1) 1 99 := ⟨by decide +kernel, rfl⟩
theorem dd_Md_join_99 : pj_d cX11_join 99 (.iload 5) 2 101 := ⟨by decide +kernel, rfl⟩
theorem dd_Md_join_101 : pj_d cX11_join 101 (.ishl) 1 102 := ⟨by decide +kernel, rfl⟩
theorem dd_Md_join_102 : pj_d cX11_join 102 (.ior) 1 103 := ⟨by decide +kernel, rfl⟩
theorem dd_Md_join_103 : pj_d cX11_join 103 (.istore_n 2) 1 104 := ⟨by decide +kernel, rfl⟩
theorem dd_Md_join_104 : pj_d cX11_join 104 (.iload_n 3) 1 105 := ⟨by decide +kernel, rfl⟩
theorem dd_Md_join_105 : pj_d cX11_join 105 (.aload_n 0) 1 106 := ⟨by decide +kernel, rfl⟩
theorem dd_Md_join_106 : pj_d cX11_join 106 (.getfield 7) 3 109 := ⟨by decide +kernel, rfl⟩
theorem dd_Md_join_109 : pj_d cX11_join 109 (.sipush 270) 3 112 := ⟨by decide +kernel, rfl⟩
theorem dd_Md_join_112 : pj_d cX11_join 112 (.iload 5) 2 114 := ⟨by decide +kernel, rfl⟩
theorem dd_Md_join_114 : pj_d cX11_join 114 (.iadd) 1 115 := ⟨by decide +kernel, rfl⟩
theorem dd_Md_join_115 : pj_d cX11_join 115 (.iaload) 1 116 := ⟨by decide +kernel, rfl⟩
theorem dd_Md_join_116 : pj_d cX11_join 116 (.iadd) 1 117 := ⟨by decide +kernel, rfl⟩
theorem dd_Md_join_117 : pj_d cX11_join 117 (.istore_n 3) 1 118 := ⟨by decide +kernel, rfl⟩
theorem dd_Md_join_118 : pj_d cX11_join 118 (.iinc 4 1) 3 121 := ⟨by decide +kernel, rfl⟩
theorem dd_Md_join_121 : pj_dj cX11_join 121 (.goto (-107)) (-107) 124 14 := ⟨by decide +kernel, rfl, by decide⟩
theorem dd_Md_join_124 : pj_d cX11_join 124 (.iload_n 3) 1 125 := ⟨by decide +kernel, rfl⟩
theorem dd_Md_join_125 : pj_d cX11_join 125 (.iload_n 1) 1 126 := ⟨by decide +kernel, rfl⟩
theorem dd_Md_join_126 : pj_dj cX11_join 126 (.if_icmp .lt 8) 8 129 134 := ⟨by decide +kernel, rfl, by decide⟩
theorem dd_Md_join_129 : pj_d cX11_join 129 (.iload 4) 2 131 := ⟨by decide +kernel, rfl⟩
theorem dd_Md_join_131 : pj_dj cX11_join 131 (.goto 4) 4 134 135 := ⟨by decide +kernel, rfl, by decide⟩
theorem dd_Md_join_134 : pj_d cX11_join 134 (.iconst (-1)) 1 135 := ⟨by decide +kernel, rfl⟩
theorem dd_Md_join_135 : pj_d cX11_join 135 (.ireturn) 1 136 := ⟨by decide +kernel, rfl⟩
set_option maxHeartbeats 4000000 in
set_option maxRecDepth 100000 in
theorem bt_Md_join_97 {B : pj_B} {A : Nat → Prop} {K : pj_K} {r0 : Int32} {z0 : pj_S} (hB : B.2.2.2.1 = pj_LM) (C : pj_C B A K cX11_join 7 RX11 1) (Q : pj_Qi B A K (some .int) r0 z0) (s14 : Int32 → Int32 → Int32 → Int32 → pj_S → Option (Int32 × pj_S)) (k14 : ∀ (v1 : Int32) (v2 : Int32) (v3 : Int32) (v4 : Int32) (z : pj_S) (H : Heap) (lo : List Loc) (ls : Array Slot), s14 v1 v2 v3 v4 z = some (r0, z0) → pj_P B A K z H lo → lv_has ls 7 [(0, .ref (B.2.1 0)), (1, .int v1), (2, .int v2), (3, .int v3), (4, .int v4)] → pj_W K H lo 14 ls []) (v1 : Int32) (v2 : Int32) (v3 : Int32) (v4 : Int32) (v5 : Int32) (z : pj_S) (H : Heap) (lo : List Loc) (ls : Array Slot) (h : Md_join_97 s14 v1 v2 v3 v4 v5 z = some (r0, z0)) (P : pj_P B A K z H lo) (hl : lv_has ls 7 [(0, .ref (B.2.1 0)), (1, .int v1), (2, .int v2), (3, .int v3), (4, .int v4), (5, .int v5)]) : pj_W K H lo 97 ls [] := by
  unfold Md_join_97 at h
  refine pj_iload_n C dd_Md_join_97 rfl hl 2 rfl ?_
  refine pj_iconst (v := (nI 1)) C dd_Md_join_98 rfl ?_
  refine pj_iload C dd_Md_join_99 hl 5 rfl ?_
  refine pj_ishl C dd_Md_join_101 ?_
  refine pj_ior C dd_Md_join_102 ?_
  refine pj_istb_n [(0, .ref (B.2.1 0)), (1, .int v1), (3, .int v3), (4, .int v4), (5, .int v5)] C h dd_Md_join_103 rfl hl (by decide) rfl (fun x1 ls h hl => ?_)
  refine pj_iload_n C dd_Md_join_104 rfl hl 3 rfl ?_
  refine pj_aload_n C dd_Md_join_105 rfl hl 1 rfl ?_
  refine pj_getR C P 0 (LM0 hB) rfl fl_Md_7 dd_Md_join_106 ?_
  refine pj_sipush (v := (nI 270)) C dd_Md_join_109 rfl ?_
  refine pj_iload C dd_Md_join_112 hl 5 rfl ?_
  refine pj_iadd C dd_Md_join_114 ?_
  refine pj_iald C P 1 (LM1 hB) h dd_Md_join_115 (fun h => ?_)
  refine pj_iadd C dd_Md_join_116 ?_
  refine pj_istb_n [(2, .int x1), (0, .ref (B.2.1 0)), (1, .int v1), (4, .int v4), (5, .int v5)] C h dd_Md_join_117 rfl hl (by decide) rfl (fun x2 ls h hl => ?_)
  refine pj_iinc (v := (nI 1)) [(3, .int x2), (2, .int x1), (0, .ref (B.2.1 0)), (1, .int v1), (5, .int v5)] C h rfl dd_Md_join_118 hl 4 rfl (by decide) rfl (fun x3 ls h hl => ?_)
  refine pj_goto C dd_Md_join_121 ?_
  exact k14 _ _ _ _ _ _ _ _ h P (lv_sub hl [3, 4, 2, 1, 0] rfl)
set_option maxHeartbeats 4000000 in
set_option maxRecDepth 100000 in
theorem bt_Md_join_91 {B : pj_B} {A : Nat → Prop} {K : pj_K} {r0 : Int32} {z0 : pj_S} (hB : B.2.2.2.1 = pj_LM) (C : pj_C B A K cX11_join 7 RX11 1) (Q : pj_Qi B A K (some .int) r0 z0) (s14 : Int32 → Int32 → Int32 → Int32 → pj_S → Option (Int32 × pj_S)) (k14 : ∀ (v1 : Int32) (v2 : Int32) (v3 : Int32) (v4 : Int32) (z : pj_S) (H : Heap) (lo : List Loc) (ls : Array Slot), s14 v1 v2 v3 v4 z = some (r0, z0) → pj_P B A K z H lo → lv_has ls 7 [(0, .ref (B.2.1 0)), (1, .int v1), (2, .int v2), (3, .int v3), (4, .int v4)] → pj_W K H lo 14 ls []) (s36 : Int32 → Int32 → Int32 → Int32 → Int32 → Int32 → pj_S → Option (Int32 × pj_S)) (k36 : ∀ (v1 : Int32) (v2 : Int32) (v3 : Int32) (v4 : Int32) (v5 : Int32) (v6 : Int32) (z : pj_S) (H : Heap) (lo : List Loc) (ls : Array Slot), s36 v1 v2 v3 v4 v5 v6 z = some (r0, z0) → pj_P B A K z H lo → lv_has ls 7 [(0, .ref (B.2.1 0)), (1, .int v1), (2, .int v2), (3, .int v3), (4, .int v4), (5, .int v5), (6, .int v6)] → pj_W K H lo 36 ls []) (v1 : Int32) (v2 : Int32) (v3 : Int32) (v4 : Int32) (v5 : Int32) (v6 : Int32) (z : pj_S) (H : Heap) (lo : List Loc) (ls : Array Slot) (h : Md_join_91 s14 s36 v1 v2 v3 v4 v5 v6 z = some (r0, z0)) (P : pj_P B A K z H lo) (hl : lv_has ls 7 [(0, .ref (B.2.1 0)), (1, .int v1), (2, .int v2), (3, .int v3), (4, .int v4), (5, .int v5), (6, .int v6)]) : pj_W K H lo 91 ls [] := by
  unfold Md_join_91 at h
  refine pj_iinc (v := (nI 1)) [(0, .ref (B.2.1 0)), (1, .int v1), (2, .int v2), (3, .int v3), (4, .int v4), (5, .int v5)] C h rfl dd_Md_join_91 hl 6 rfl (by decide) rfl (fun x1 ls h hl => ?_)
  refine pj_goto C dd_Md_join_94 ?_
  exact k36 _ _ _ _ _ _ _ _ _ _ h P (lv_sub hl [1, 2, 3, 4, 5, 6, 0] rfl)
set_option maxHeartbeats 4000000 in
set_option maxRecDepth 100000 in
theorem bt_Md_join_87 {B : pj_B} {A : Nat → Prop} {K : pj_K} {r0 : Int32} {z0 : pj_S} (hB : B.2.2.2.1 = pj_LM) (C : pj_C B A K cX11_join 7 RX11 1) (Q : pj_Qi B A K (some .int) r0 z0) (s14 : Int32 → Int32 → Int32 → Int32 → pj_S → Option (Int32 × pj_S)) (k14 : ∀ (v1 : Int32) (v2 : Int32) (v3 : Int32) (v4 : Int32) (z : pj_S) (H : Heap) (lo : List Loc) (ls : Array Slot), s14 v1 v2 v3 v4 z = some (r0, z0) → pj_P B A K z H lo → lv_has ls 7 [(0, .ref (B.2.1 0)), (1, .int v1), (2, .int v2), (3, .int v3), (4, .int v4)] → pj_W K H lo 14 ls []) (s36 : Int32 → Int32 → Int32 → Int32 → Int32 → Int32 → pj_S → Option (Int32 × pj_S)) (k36 : ∀ (v1 : Int32) (v2 : Int32) (v3 : Int32) (v4 : Int32) (v5 : Int32) (v6 : Int32) (z : pj_S) (H : Heap) (lo : List Loc) (ls : Array Slot), s36 v1 v2 v3 v4 v5 v6 z = some (r0, z0) → pj_P B A K z H lo → lv_has ls 7 [(0, .ref (B.2.1 0)), (1, .int v1), (2, .int v2), (3, .int v3), (4, .int v4), (5, .int v5), (6, .int v6)] → pj_W K H lo 36 ls []) (v1 : Int32) (v2 : Int32) (v3 : Int32) (v4 : Int32) (v6 : Int32) (z : pj_S) (H : Heap) (lo : List Loc) (ls : Array Slot) (h : Md_join_87 s14 s36 v1 v2 v3 v4 v6 z = some (r0, z0)) (P : pj_P B A K z H lo) (hl : lv_has ls 7 [(0, .ref (B.2.1 0)), (1, .int v1), (2, .int v2), (3, .int v3), (4, .int v4), (6, .int v6)]) : pj_W K H lo 87 ls [] := by
  unfold Md_join_87 at h
  refine pj_iload C dd_Md_join_87 hl 5 rfl ?_
  refine pj_istore [(5, .int v6), (0, .ref (B.2.1 0)), (1, .int v1), (2, .int v2), (3, .int v3), (4, .int v4), (6, .int v6)] C dd_Md_join_89 hl (by decide) rfl (fun ls hl => ?_)
  exact bt_Md_join_91 hB C Q s14 k14 s36 k36 _ _ _ _ _ _ _ _ _ _ h P (lv_sub hl [1, 2, 3, 4, 5, 0, 6] rfl)
set_option maxHeartbeats 4000000 in
set_option maxRecDepth 100000 in
theorem bt_Md_join_36 {B : pj_B} {A : Nat → Prop} {K : pj_K} {r0 : Int32} {z0 : pj_S} (hB : B.2.2.2.1 = pj_LM) (C : pj_C B A K cX11_join 7 RX11 1) (Q : pj_Qi B A K (some .int) r0 z0) (s14 : Int32 → Int32 → Int32 → Int32 → pj_S → Option (Int32 × pj_S)) (k14 : ∀ (v1 : Int32) (v2 : Int32) (v3 : Int32) (v4 : Int32) (z : pj_S) (H : Heap) (lo : List Loc) (ls : Array Slot), s14 v1 v2 v3 v4 z = some (r0, z0) → pj_P B A K z H lo → lv_has ls 7 [(0, .ref (B.2.1 0)), (1, .int v1), (2, .int v2), (3, .int v3), (4, .int v4)] → pj_W K H lo 14 ls []) (s36 : Int32 → Int32 → Int32 → Int32 → Int32 → Int32 → pj_S → Option (Int32 × pj_S)) (k36 : ∀ (v1 : Int32) (v2 : Int32) (v3 : Int32) (v4 : Int32) (v5 : Int32) (v6 : Int32) (z : pj_S) (H : Heap) (lo : List Loc) (ls : Array Slot), s36 v1 v2 v3 v4 v5 v6 z = some (r0, z0) → pj_P B A K z H lo → lv_has ls 7 [(0, .ref (B.2.1 0)), (1, .int v1), (2, .int v2), (3, .int v3), (4, .int v4), (5, .int v5), (6, .int v6)] → pj_W K H lo 36 ls []) (v1 : Int32) (v2 : Int32) (v3 : Int32) (v4 : Int32) (v5 : Int32) (v6 : Int32) (z : pj_S) (H : Heap) (lo : List Loc) (ls : Array Slot) (h : Md_join_36 s14 s36 v1 v2 v3 v4 v5 v6 z = some (r0, z0)) (P : pj_P B A K z H lo) (hl : lv_has ls 7 [(0, .ref (B.2.1 0)), (1, .int v1), (2, .int v2), (3, .int v3), (4, .int v4), (5, .int v5), (6, .int v6)]) : pj_W K H lo 36 ls [] := by
  unfold Md_join_36 at h
  refine pj_iload C dd_Md_join_36 hl 6 rfl ?_
  refine pj_aload_n C dd_Md_join_38 rfl hl 0 rfl ?_
  refine pj_getR C P 0 (LM0 hB) rfl fl_Md_7 dd_Md_join_39 ?_
  refine pj_iconst (v := (nI 3)) C dd_Md_join_42 rfl ?_
  refine pj_iald C P 1 (LM1 hB) h dd_Md_join_43 (fun h => ?_)
  refine pj_ic_ge C h dd_Md_join_44 (fun h => ?_) (fun h => ?_)
  · exact bt_Md_join_97 hB C Q s14 k14 _ _ _ _ _ _ _ _ _ h P (lv_sub hl [0, 1, 2, 3, 4, 5] rfl)
  · refine pj_iload_n C dd_Md_join_47 rfl hl 2 rfl ?_
    refine pj_iload C dd_Md_join_48 hl 6 rfl ?_
    refine pj_ishr C dd_Md_join_50 ?_
    refine pj_iconst (v := (nI 1)) C dd_Md_join_51 rfl ?_
    refine pj_iand C dd_Md_join_52 ?_
    refine pj_if_ne C h dd_Md_join_53 (fun h => ?_) (fun h => ?_)
    · exact bt_Md_join_91 hB C Q s14 k14 s36 k36 _ _ _ _ _ _ _ _ _ _ h P (lv_sub hl [0, 1, 2, 3, 4, 5, 6] rfl)
    · refine pj_iload C dd_Md_join_56 hl 5 rfl ?_
      refine pj_iconst (v := (-1 : Int32)) C dd_Md_join_58 rfl ?_
      refine pj_ic_eq C h dd_Md_join_59 (fun h => ?_) (fun h => ?_)
      · exact bt_Md_join_87 hB C Q s14 k14 s36 k36 _ _ _ _ _ _ _ _ _ h P (lv_sub hl [0, 1, 2, 3, 4, 6] rfl)
      · refine pj_aload_n C dd_Md_join_62 rfl hl 0 rfl ?_
        refine pj_getR C P 0 (LM0 hB) rfl fl_Md_7 dd_Md_join_63 ?_
        refine pj_sipush (v := (nI 270)) C dd_Md_join_66 rfl ?_
        refine pj_iload C dd_Md_join_69 hl 6 rfl ?_
        refine pj_iadd C dd_Md_join_71 ?_
        refine pj_iald C P 1 (LM1 hB) h dd_Md_join_72 (fun h => ?_)
        refine pj_aload_n C dd_Md_join_73 rfl hl 0 rfl ?_
        refine pj_getR C P 0 (LM0 hB) rfl fl_Md_7 dd_Md_join_74 ?_
        refine pj_sipush (v := (nI 270)) C dd_Md_join_77 rfl ?_
        refine pj_iload C dd_Md_join_80 hl 5 rfl ?_
        refine pj_iadd C dd_Md_join_82 ?_
        refine pj_iald C P 1 (LM1 hB) h dd_Md_join_83 (fun h => ?_)
        refine pj_ic_le C h dd_Md_join_84 (fun h => ?_) (fun h => ?_)
        · exact bt_Md_join_91 hB C Q s14 k14 s36 k36 _ _ _ _ _ _ _ _ _ _ h P (lv_sub hl [0, 1, 2, 3, 4, 5, 6] rfl)
        · exact bt_Md_join_87 hB C Q s14 k14 s36 k36 _ _ _ _ _ _ _ _ _ h P (lv_sub hl [0, 1, 2, 3, 4, 6] rfl)
theorem lt_Md_join_36 {B : pj_B} {A : Nat → Prop} {K : pj_K} {r0 : Int32} {z0 : pj_S} (hB : B.2.2.2.1 = pj_LM) (C : pj_C B A K cX11_join 7 RX11 1) (Q : pj_Qi B A K (some .int) r0 z0) (s14 : Int32 → Int32 → Int32 → Int32 → pj_S → Option (Int32 × pj_S)) (k14 : ∀ (v1 : Int32) (v2 : Int32) (v3 : Int32) (v4 : Int32) (z : pj_S) (H : Heap) (lo : List Loc) (ls : Array Slot), s14 v1 v2 v3 v4 z = some (r0, z0) → pj_P B A K z H lo → lv_has ls 7 [(0, .ref (B.2.1 0)), (1, .int v1), (2, .int v2), (3, .int v3), (4, .int v4)] → pj_W K H lo 14 ls []) : ∀ (n : Nat) (v1 : Int32) (v2 : Int32) (v3 : Int32) (v4 : Int32) (v5 : Int32) (v6 : Int32) (z : pj_S) (H : Heap) (lo : List Loc) (ls : Array Slot), pj_lp6 (Md_join_36 s14) n v1 v2 v3 v4 v5 v6 z = some (r0, z0) → pj_P B A K z H lo → lv_has ls 7 [(0, .ref (B.2.1 0)), (1, .int v1), (2, .int v2), (3, .int v3), (4, .int v4), (5, .int v5), (6, .int v6)] → pj_W K H lo 36 ls [] := by
  intro n
  induction n with
  | zero => intro v1 v2 v3 v4 v5 v6 z H lo ls h; rw [pj_lp6_0] at h; cases h
  | succ n ih =>
    intro v1 v2 v3 v4 v5 v6 z H lo ls h P hl
    rw [pj_lp6_s] at h
    exact bt_Md_join_36 hB C Q  s14 k14 (pj_lp6 (Md_join_36 s14) n) ih v1 v2 v3 v4 v5 v6 z H lo ls h P hl
set_option maxHeartbeats 4000000 in
set_option maxRecDepth 100000 in
theorem bt_Md_join_124 {B : pj_B} {A : Nat → Prop} {K : pj_K} {r0 : Int32} {z0 : pj_S} (hB : B.2.2.2.1 = pj_LM) (C : pj_C B A K cX11_join 7 RX11 1) (Q : pj_Qi B A K (some .int) r0 z0)  (v1 : Int32) (v3 : Int32) (v4 : Int32) (z : pj_S) (H : Heap) (lo : List Loc) (ls : Array Slot) (h : Md_join_124 v1 v3 v4 z = some (r0, z0)) (P : pj_P B A K z H lo) (hl : lv_has ls 7 [(1, .int v1), (3, .int v3), (4, .int v4)]) : pj_W K H lo 124 ls [] := by
  unfold Md_join_124 at h
  refine pj_iload_n C dd_Md_join_124 rfl hl 1 rfl ?_
  refine pj_iload_n C dd_Md_join_125 rfl hl 0 rfl ?_
  refine pj_ic_lt C h dd_Md_join_126 (fun h => ?_) (fun h => ?_)
  · refine pj_iconst (v := (-1 : Int32)) C dd_Md_join_134 rfl ?_
    exact pj_iret C Q P h dd_Md_join_135
  · refine pj_iload C dd_Md_join_129 hl 2 rfl ?_
    refine pj_goto C dd_Md_join_131 ?_
    exact pj_iret C Q P h dd_Md_join_135
set_option maxHeartbeats 4000000 in
set_option maxRecDepth 100000 in
theorem bt_Md_join_14 {B : pj_B} {A : Nat → Prop} {K : pj_K} {r0 : Int32} {z0 : pj_S} (hB : B.2.2.2.1 = pj_LM) (C : pj_C B A K cX11_join 7 RX11 1) (Q : pj_Qi B A K (some .int) r0 z0) (s14 : Int32 → Int32 → Int32 → Int32 → pj_S → Option (Int32 × pj_S)) (k14 : ∀ (v1 : Int32) (v2 : Int32) (v3 : Int32) (v4 : Int32) (z : pj_S) (H : Heap) (lo : List Loc) (ls : Array Slot), s14 v1 v2 v3 v4 z = some (r0, z0) → pj_P B A K z H lo → lv_has ls 7 [(0, .ref (B.2.1 0)), (1, .int v1), (2, .int v2), (3, .int v3), (4, .int v4)] → pj_W K H lo 14 ls []) (v1 : Int32) (v2 : Int32) (v3 : Int32) (v4 : Int32) (z : pj_S) (H : Heap) (lo : List Loc) (ls : Array Slot) (h : Md_join_14 s14 v1 v2 v3 v4 z = some (r0, z0)) (P : pj_P B A K z H lo) (hl : lv_has ls 7 [(0, .ref (B.2.1 0)), (1, .int v1), (2, .int v2), (3, .int v3), (4, .int v4)]) : pj_W K H lo 14 ls [] := by
  unfold Md_join_14 at h
  refine pj_iload_n C dd_Md_join_14 rfl hl 3 rfl ?_
  refine pj_iload_n C dd_Md_join_15 rfl hl 1 rfl ?_
  refine pj_ic_ge C h dd_Md_join_16 (fun h => ?_) (fun h => ?_)
  · exact bt_Md_join_124 hB C Q _ _ _ _ _ _ _ h P (lv_sub hl [1, 3, 4] rfl)
  · refine pj_iload C dd_Md_join_19 hl 4 rfl ?_
    refine pj_aload_n C dd_Md_join_21 rfl hl 0 rfl ?_
    refine pj_getR C P 0 (LM0 hB) rfl fl_Md_7 dd_Md_join_22 ?_
    refine pj_iconst (v := (nI 3)) C dd_Md_join_25 rfl ?_
    refine pj_iald C P 1 (LM1 hB) h dd_Md_join_26 (fun h => ?_)
    refine pj_ic_ge C h dd_Md_join_27 (fun h => ?_) (fun h => ?_)
    · exact bt_Md_join_124 hB C Q _ _ _ _ _ _ _ h P (lv_sub hl [1, 3, 4] rfl)
    · refine pj_iconst (v := (-1 : Int32)) C dd_Md_join_30 rfl ?_
      refine pj_istore [(5, .int (-1 : Int32)), (0, .ref (B.2.1 0)), (1, .int v1), (2, .int v2), (3, .int v3), (4, .int v4)] C dd_Md_join_31 hl (by decide) rfl (fun ls hl => ?_)
      refine pj_iconst (v := (nI 0)) C dd_Md_join_33 rfl ?_
      refine pj_istore [(6, .int (nI 0)), (5, .int (-1 : Int32)), (0, .ref (B.2.1 0)), (1, .int v1), (2, .int v2), (3, .int v3), (4, .int v4)] C dd_Md_join_34 hl (by decide) rfl (fun ls hl => ?_)
      exact lt_Md_join_36 hB C Q s14 k14 4000 _ _ _ _ _ _ _ _ _ _ h P (lv_sub hl [2, 3, 4, 5, 6, 1, 0] rfl)
theorem lt_Md_join_14 {B : pj_B} {A : Nat → Prop} {K : pj_K} {r0 : Int32} {z0 : pj_S} (hB : B.2.2.2.1 = pj_LM) (C : pj_C B A K cX11_join 7 RX11 1) (Q : pj_Qi B A K (some .int) r0 z0)  : ∀ (n : Nat) (v1 : Int32) (v2 : Int32) (v3 : Int32) (v4 : Int32) (z : pj_S) (H : Heap) (lo : List Loc) (ls : Array Slot), pj_lp4 Md_join_14 n v1 v2 v3 v4 z = some (r0, z0) → pj_P B A K z H lo → lv_has ls 7 [(0, .ref (B.2.1 0)), (1, .int v1), (2, .int v2), (3, .int v3), (4, .int v4)] → pj_W K H lo 14 ls [] := by
  intro n
  induction n with
  | zero => intro v1 v2 v3 v4 z H lo ls h; rw [pj_lp4_0] at h; cases h
  | succ n ih =>
    intro v1 v2 v3 v4 z H lo ls h P hl
    rw [pj_lp4_s] at h
    exact bt_Md_join_14 hB C Q   (pj_lp4 Md_join_14 n) ih v1 v2 v3 v4 z H lo ls h P hl
set_option maxHeartbeats 4000000 in
set_option maxRecDepth 100000 in
theorem ct_Md_join {l : Launch} {B : pj_B} (hB : B.2.2.2.1 = pj_LM) {v1 : Int32} {z : pj_S} {r0 : Int32} {z0 : pj_S} (h : Md_join v1 z = some (r0, z0)) : pj_Mi l yX11_join cX11_join 7 (some .int) 1 [.ref (B.2.1 0), .int v1] B z r0 z0 := by
  refine pj_meti (own := RX11) (by decide +kernel) rfl (Nat.le_of_ble_eq_true rfl) ?_
  intro A K hK C Q H lo ls P hl
  have hl : lv_has ls 7 [(0, .ref (B.2.1 0)), (1, .int v1)] := hl
  unfold Md_join at h
  refine pj_iload_n C dd_Md_join_0 rfl hl 1 rfl ?_
  refine pj_iconst (v := (nI 1)) C dd_Md_join_1 rfl ?_
  refine pj_ic_ge C h dd_Md_join_2 (fun h => ?_) (fun h => ?_)
  · refine pj_iconst (v := (nI 0)) C dd_Md_join_7 rfl ?_
    refine pj_istore_n [(2, .int (nI 0)), (0, .ref (B.2.1 0)), (1, .int v1)] C dd_Md_join_8 rfl hl (by decide) rfl (fun ls hl => ?_)
    refine pj_iconst (v := (nI 0)) C dd_Md_join_9 rfl ?_
    refine pj_istore_n [(3, .int (nI 0)), (2, .int (nI 0)), (0, .ref (B.2.1 0)), (1, .int v1)] C dd_Md_join_10 rfl hl (by decide) rfl (fun ls hl => ?_)
    refine pj_iconst (v := (nI 0)) C dd_Md_join_11 rfl ?_
    refine pj_istore [(4, .int (nI 0)), (3, .int (nI 0)), (2, .int (nI 0)), (0, .ref (B.2.1 0)), (1, .int v1)] C dd_Md_join_12 hl (by decide) rfl (fun ls hl => ?_)
    exact lt_Md_join_14 hB C Q 4000 _ _ _ _ _ _ _ _ h P (lv_sub hl [3, 4, 2, 1, 0] rfl)
  · refine pj_iconst (v := (-1 : Int32)) C dd_Md_join_5 rfl ?_
    exact pj_iret C Q P h dd_Md_join_6
theorem dd_Md_quiet_0 : pj_d cX11_quiet 0 (.aload_n 0) 1 1 := ⟨by decide +kernel, rfl⟩
theorem dd_Md_quiet_1 : pj_d cX11_quiet 1 (.invokevirtual 267) 3 4 := ⟨by decide +kernel, rfl⟩
theorem dd_Md_quiet_4 : pj_d cX11_quiet 4 (.aload_n 0) 1 5 := ⟨by decide +kernel, rfl⟩
theorem dd_Md_quiet_5 : pj_d cX11_quiet 5 (.invokevirtual 270) 3 8 := ⟨by decide +kernel, rfl⟩
theorem dd_Md_quiet_8 : pj_d cX11_quiet 8 (.ldc_w 315) 3 11 := ⟨by decide +kernel, rfl⟩
theorem dd_Md_quiet_11 : pj_d cX11_quiet 11 (.istore_n 1) 1 12 := ⟨by decide +kernel, rfl⟩
theorem dd_Md_quiet_12 : pj_d cX11_quiet 12 (.iconst 0) 1 13 := ⟨by decide +kernel, rfl⟩
theorem dd_Md_quiet_13 : pj_d cX11_quiet 13 (.istore_n 2) 1 14 := ⟨by decide +kernel, rfl⟩
theorem dd_Md_quiet_14 : pj_d cX11_quiet 14 (.iload_n 2) 1 15 := ⟨by decide +kernel, rfl⟩
theorem dd_Md_quiet_15 : pj_d cX11_quiet 15 (.bipush 64) 2 17 := ⟨by decide +kernel, rfl⟩
theorem dd_Md_quiet_17 : pj_dj cX11_quiet 17 (.if_icmp .ge 33) 33 20 50 := ⟨by decide +kernel, rfl, by decide⟩
theorem dd_Md_quiet_20 : pj_d cX11_quiet 20 (.aload_n 0) 1 21 := ⟨by decide +kernel, rfl⟩
theorem dd_Md_quiet_21 : pj_d cX11_quiet 21 (.iload_n 2) 1 22 := ⟨by decide +kernel, rfl⟩
theorem dd_Md_quiet_22 : pj_d cX11_quiet 22 (.invokevirtual 220) 3 25 := ⟨by decide +kernel, rfl⟩
theorem dd_Md_quiet_25 : pj_dj cX11_quiet 25 (.ifCond .eq 19) 19 28 44 := ⟨by decide +kernel, rfl, by decide⟩
theorem dd_Md_quiet_28 : pj_d cX11_quiet 28 (.iload_n 1) 1 29 := ⟨by decide +kernel, rfl⟩
theorem dd_Md_quiet_29 : pj_d cX11_quiet 29 (.sipush 1000) 3 32 := ⟨by decide +kernel, rfl⟩
theorem dd_Md_quiet_32 : pj_d cX11_quiet 32 (.aload_n 0) 1 33 := ⟨by decide +kernel, rfl⟩
theorem dd_Md_quiet_33 : pj_d cX11_quiet 33 (.iload_n 2) 1 34 := ⟨by decide +kernel, rfl⟩
theorem dd_Md_quiet_34 : pj_d cX11_quiet 34 (.invokevirtual 280) 3 37 := ⟨by decide +kernel, rfl⟩
theorem dd_Md_quiet_37 : pj_d cX11_quiet 37 (.isub) 1 38 := ⟨by decide +kernel, rfl⟩
theorem dd_Md_quiet_38 : pj_d cX11_quiet 38 (.imul) 1 39 := ⟨by decide +kernel, rfl⟩
theorem dd_Md_quiet_39 : pj_d cX11_quiet 39 (.sipush 1000) 3 42 := ⟨by decide +kernel, rfl⟩
theorem dd_Md_quiet_42 : pj_d cX11_quiet 42 (.idiv) 1 43 := ⟨by decide +kernel, rfl⟩
theorem dd_Md_quiet_43 : pj_d cX11_quiet 43 (.istore_n 1) 1 44 := ⟨by decide +kernel, rfl⟩
theorem dd_Md_quiet_44 : pj_d cX11_quiet 44 (.iinc 2 1) 3 47 := ⟨by decide +kernel, rfl⟩
theorem dd_Md_quiet_47 : pj_dj cX11_quiet 47 (.goto (-33)) (-33) 50 14 := ⟨by decide +kernel, rfl, by decide⟩
theorem dd_Md_quiet_50 : pj_d cX11_quiet 50 (.iload_n 1) 1 51 := ⟨by decide +kernel, rfl⟩
theorem dd_Md_quiet_51 : pj_d cX11_quiet 51 (.ireturn) 1 52 := ⟨by decide +kernel, rfl⟩
set_option maxHeartbeats 4000000 in
set_option maxRecDepth 100000 in
theorem bt_Md_quiet_44 {B : pj_B} {A : Nat → Prop} {K : pj_K} {r0 : Int32} {z0 : pj_S} (hB : B.2.2.2.1 = pj_LM) (C : pj_C B A K cX11_quiet 3 RX11 4) (Q : pj_Qi B A K (some .int) r0 z0) (s14 : Int32 → Int32 → pj_S → Option (Int32 × pj_S)) (k14 : ∀ (v1 : Int32) (v2 : Int32) (z : pj_S) (H : Heap) (lo : List Loc) (ls : Array Slot), s14 v1 v2 z = some (r0, z0) → pj_P B A K z H lo → lv_has ls 3 [(0, .ref (B.2.1 0)), (1, .int v1), (2, .int v2)] → pj_W K H lo 14 ls []) (v1 : Int32) (v2 : Int32) (z : pj_S) (H : Heap) (lo : List Loc) (ls : Array Slot) (h : Md_quiet_44 s14 v1 v2 z = some (r0, z0)) (P : pj_P B A K z H lo) (hl : lv_has ls 3 [(0, .ref (B.2.1 0)), (1, .int v1), (2, .int v2)]) : pj_W K H lo 44 ls [] := by
  unfold Md_quiet_44 at h
  refine pj_iinc (v := (nI 1)) [(0, .ref (B.2.1 0)), (1, .int v1)] C h rfl dd_Md_quiet_44 hl 2 rfl (by decide) rfl (fun x1 ls h hl => ?_)
  refine pj_goto C dd_Md_quiet_47 ?_
  exact k14 _ _ _ _ _ _ h P (lv_sub hl [1, 2, 0] rfl)
set_option maxHeartbeats 4000000 in
set_option maxRecDepth 100000 in
theorem bt_Md_quiet_14 {B : pj_B} {A : Nat → Prop} {K : pj_K} {r0 : Int32} {z0 : pj_S} (hB : B.2.2.2.1 = pj_LM) (C : pj_C B A K cX11_quiet 3 RX11 4) (Q : pj_Qi B A K (some .int) r0 z0) (s14 : Int32 → Int32 → pj_S → Option (Int32 × pj_S)) (k14 : ∀ (v1 : Int32) (v2 : Int32) (z : pj_S) (H : Heap) (lo : List Loc) (ls : Array Slot), s14 v1 v2 z = some (r0, z0) → pj_P B A K z H lo → lv_has ls 3 [(0, .ref (B.2.1 0)), (1, .int v1), (2, .int v2)] → pj_W K H lo 14 ls []) (v1 : Int32) (v2 : Int32) (z : pj_S) (H : Heap) (lo : List Loc) (ls : Array Slot) (h : Md_quiet_14 s14 v1 v2 z = some (r0, z0)) (P : pj_P B A K z H lo) (hl : lv_has ls 3 [(0, .ref (B.2.1 0)), (1, .int v1), (2, .int v2)]) : pj_W K H lo 14 ls [] := by
  unfold Md_quiet_14 at h
  refine pj_iload_n C dd_Md_quiet_14 rfl hl 2 rfl ?_
  refine pj_bipush (v := (nI 64)) C dd_Md_quiet_15 rfl ?_
  refine pj_ic_ge C h dd_Md_quiet_17 (fun h => ?_) (fun h => ?_)
  · refine pj_iload_n C dd_Md_quiet_50 rfl hl 1 rfl ?_
    exact pj_iret C Q P h dd_Md_quiet_51
  · refine pj_aload_n C dd_Md_quiet_20 rfl hl 0 rfl ?_
    refine pj_iload_n C dd_Md_quiet_21 rfl hl 2 rfl ?_
    obtain ⟨r3, z2, e1, h⟩ := pj_cE h
    refine pj_cVi (st := []) [.int v2] C P 0 (LM0 hB) rfl (ct_Md_isLoose hB e1) cl_Md_220 rfl (by decide) (by decide) hl.1 (Nat.le_of_ble_eq_true rfl) dd_Md_quiet_22 (fun H lo P => ?_)
    refine pj_if_eq C h dd_Md_quiet_25 (fun h => ?_) (fun h => ?_)
    · exact bt_Md_quiet_44 hB C Q s14 k14 _ _ _ _ _ _ h P (lv_sub hl [0, 1, 2] rfl)
    · refine pj_iload_n C dd_Md_quiet_28 rfl hl 1 rfl ?_
      refine pj_sipush (v := (nI 1000)) C dd_Md_quiet_29 rfl ?_
      refine pj_aload_n C dd_Md_quiet_32 rfl hl 0 rfl ?_
      refine pj_iload_n C dd_Md_quiet_33 rfl hl 2 rfl ?_
      obtain ⟨r6, z5, e4, h⟩ := pj_cE h
      refine pj_cVi (st := [.int (nI 1000), .int v1]) [.int v2] C P 0 (LM0 hB) rfl (ct_Md_oddsOf hB e4) cl_Md_280 rfl (by decide) (by decide) hl.1 (Nat.le_of_ble_eq_true rfl) dd_Md_quiet_34 (fun H lo P => ?_)
      refine pj_isub C dd_Md_quiet_37 ?_
      refine pj_imul C dd_Md_quiet_38 ?_
      refine pj_sipush (v := (nI 1000)) C dd_Md_quiet_39 rfl ?_
      refine pj_idiv C h dd_Md_quiet_42 (fun h => ?_)
      refine pj_istb_n [(0, .ref (B.2.1 0)), (2, .int v2)] C h dd_Md_quiet_43 rfl hl (by decide) rfl (fun x7 ls h hl => ?_)
      exact bt_Md_quiet_44 hB C Q s14 k14 _ _ _ _ _ _ h P (lv_sub hl [1, 0, 2] rfl)
theorem lt_Md_quiet_14 {B : pj_B} {A : Nat → Prop} {K : pj_K} {r0 : Int32} {z0 : pj_S} (hB : B.2.2.2.1 = pj_LM) (C : pj_C B A K cX11_quiet 3 RX11 4) (Q : pj_Qi B A K (some .int) r0 z0)  : ∀ (n : Nat) (v1 : Int32) (v2 : Int32) (z : pj_S) (H : Heap) (lo : List Loc) (ls : Array Slot), pj_lp2 Md_quiet_14 n v1 v2 z = some (r0, z0) → pj_P B A K z H lo → lv_has ls 3 [(0, .ref (B.2.1 0)), (1, .int v1), (2, .int v2)] → pj_W K H lo 14 ls [] := by
  intro n
  induction n with
  | zero => intro v1 v2 z H lo ls h; rw [pj_lp2_0] at h; cases h
  | succ n ih =>
    intro v1 v2 z H lo ls h P hl
    rw [pj_lp2_s] at h
    exact bt_Md_quiet_14 hB C Q   (pj_lp2 Md_quiet_14 n) ih v1 v2 z H lo ls h P hl
set_option maxHeartbeats 4000000 in
set_option maxRecDepth 100000 in
theorem ct_Md_quiet {l : Launch} {B : pj_B} (hB : B.2.2.2.1 = pj_LM)  {z : pj_S} {r0 : Int32} {z0 : pj_S} (h : Md_quiet z = some (r0, z0)) : pj_Mi l yX11_quiet cX11_quiet 3 (some .int) 4 [.ref (B.2.1 0)] B z r0 z0 := by
  refine pj_meti (own := RX11) (by decide +kernel) rfl (Nat.le_of_ble_eq_true rfl) ?_
  intro A K hK C Q H lo ls P hl
  have hl : lv_has ls 3 [(0, .ref (B.2.1 0))] := hl
  unfold Md_quiet at h
  refine pj_aload_n C dd_Md_quiet_0 rfl hl 0 rfl ?_
  obtain ⟨r3, z2, e1, h⟩ := pj_cE h
  refine pj_cVv (st := []) [] C P 0 (LM0 hB) rfl (ct_Md_laysNow hB e1) cl_Md_267 rfl (by decide) (by decide) hl.1 (Nat.le_of_ble_eq_true rfl) dd_Md_quiet_1 (fun H lo P => ?_)
  refine pj_aload_n C dd_Md_quiet_4 rfl hl 0 rfl ?_
  obtain ⟨r6, z5, e4, h⟩ := pj_cE h
  refine pj_cVv (st := []) [] C P 0 (LM0 hB) rfl (ct_Md_laysHolders hB e4) cl_Md_270 rfl (by decide) (by decide) hl.1 (Nat.le_of_ble_eq_true rfl) dd_Md_quiet_5 (fun H lo P => ?_)
  refine pj_ldcw (v := (nI 1000000)) C co_Md_315 dd_Md_quiet_8 ?_
  refine pj_istore_n [(1, .int (nI 1000000)), (0, .ref (B.2.1 0))] C dd_Md_quiet_11 rfl hl (by decide) rfl (fun ls hl => ?_)
  refine pj_iconst (v := (nI 0)) C dd_Md_quiet_12 rfl ?_
  refine pj_istore_n [(2, .int (nI 0)), (1, .int (nI 1000000)), (0, .ref (B.2.1 0))] C dd_Md_quiet_13 rfl hl (by decide) rfl (fun ls hl => ?_)
  exact lt_Md_quiet_14 hB C Q 4000 _ _ _ _ _ _ h P (lv_sub hl [2, 1, 0] rfl)
theorem dd_Md_isSoBy_0 : pj_d cX11_isSoBy 0 (.aload_n 0) 1 1 := ⟨by decide +kernel, rfl⟩
theorem dd_Md_isSoBy_1 : pj_d cX11_isSoBy 1 (.invokevirtual 267) 3 4 := ⟨by decide +kernel, rfl⟩
theorem dd_Md_isSoBy_4 : pj_d cX11_isSoBy 4 (.iconst 0) 1 5 := ⟨by decide +kernel, rfl⟩
theorem dd_Md_isSoBy_5 : pj_d cX11_isSoBy 5 (.istore_n 2) 1 6 := ⟨by decide +kernel, rfl⟩
theorem dd_Md_isSoBy_6 : pj_d cX11_isSoBy 6 (.iload_n 2) 1 7 := ⟨by decide +kernel, rfl⟩
theorem dd_Md_isSoBy_7 : pj_d cX11_isSoBy 7 (.bipush 64) 2 9 := ⟨by decide +kernel, rfl⟩
theorem dd_Md_isSoBy_9 : pj_dj cX11_isSoBy 9 (.if_icmp .ge 28) 28 12 37 := ⟨by decide +kernel, rfl, by decide⟩
theorem dd_Md_isSoBy_12 : pj_d cX11_isSoBy 12 (.aload_n 0) 1 13 := ⟨by decide +kernel, rfl⟩
theorem dd_Md_isSoBy_13 : pj_d cX11_isSoBy 13 (.getfield 38) 3 16 := ⟨by decide +kernel, rfl⟩
theorem dd_Md_isSoBy_16 : pj_d cX11_isSoBy 16 (.iload_n 2) 1 17 := ⟨by decide +kernel, rfl⟩
theorem dd_Md_isSoBy_17 : pj_d cX11_isSoBy 17 (.aload_n 0) 1 18 := ⟨by decide +kernel, rfl⟩
theorem dd_Md_isSoBy_18 : pj_d cX11_isSoBy 18 (.iload_n 2) 1 19 := ⟨by decide +kernel, rfl⟩
theorem dd_Md_isSoBy_19 : pj_d cX11_isSoBy 19 (.invokevirtual 63) 3 22 := ⟨by decide +kernel, rfl⟩
theorem dd_Md_isSoBy_22 : pj_dj cX11_isSoBy 22 (.ifCond .eq 7) 7 25 29 := ⟨by decide +kernel, rfl, by decide⟩
theorem dd_Md_isSoBy_25 : pj_d cX11_isSoBy 25 (.iconst 1) 1 26 := ⟨by decide +kernel, rfl⟩
theorem dd_Md_isSoBy_26 : pj_dj cX11_isSoBy 26 (.goto 4) 4 29 30 := ⟨by decide +kernel, rfl, by decide⟩
theorem dd_Md_isSoBy_29 : pj_d cX11_isSoBy 29 (.iconst 0) 1 30 := ⟨by decide +kernel, rfl⟩
theorem dd_Md_isSoBy_30 : pj_d cX11_isSoBy 30 (.iastore) 1 31 := ⟨by decide +kernel, rfl⟩
theorem dd_Md_isSoBy_31 : pj_d cX11_isSoBy 31 (.iinc 2 1) 3 34 := ⟨by decide +kernel, rfl⟩
theorem dd_Md_isSoBy_34 : pj_dj cX11_isSoBy 34 (.goto (-28)) (-28) 37 6 := ⟨by decide +kernel, rfl, by decide⟩
theorem dd_Md_isSoBy_37 : pj_d cX11_isSoBy 37 (.aload_n 0) 1 38 := ⟨by decide +kernel, rfl⟩
theorem dd_Md_isSoBy_38 : pj_d cX11_isSoBy 38 (.invokevirtual 270) 3 41 := ⟨by decide +kernel, rfl⟩
theorem dd_Md_isSoBy_41 : pj_d cX11_isSoBy 41 (.aload_n 0) 1 42 := ⟨by decide +kernel, rfl⟩
theorem dd_Md_isSoBy_42 : pj_d cX11_isSoBy 42 (.iload_n 1) 1 43 := ⟨by decide +kernel, rfl⟩
theorem dd_Md_isSoBy_43 : pj_d cX11_isSoBy 43 (.invokevirtual 223) 3 46 := ⟨by decide +kernel, rfl⟩
theorem dd_Md_isSoBy_46 : pj_d cX11_isSoBy 46 (.aload_n 0) 1 47 := ⟨by decide +kernel, rfl⟩
theorem dd_Md_isSoBy_47 : pj_d cX11_isSoBy 47 (.invokevirtual 292) 3 50 := ⟨by decide +kernel, rfl⟩
theorem dd_Md_isSoBy_50 : pj_d cX11_isSoBy 50 (.pop) 1 51 := ⟨by decide +kernel, rfl⟩
theorem dd_Md_isSoBy_51 : pj_d cX11_isSoBy 51 (.iconst 0) 1 52 := ⟨by decide +kernel, rfl⟩
theorem dd_Md_isSoBy_52 : pj_d cX11_isSoBy 52 (.istore_n 2) 1 53 := ⟨by decide +kernel, rfl⟩
theorem dd_Md_isSoBy_53 : pj_d cX11_isSoBy 53 (.iload_n 2) 1 54 := ⟨by decide +kernel, rfl⟩
theorem dd_Md_isSoBy_54 : pj_d cX11_isSoBy 54 (.bipush 64) 2 56 := ⟨by decide +kernel, rfl⟩
theorem dd_Md_isSoBy_56 : pj_dj cX11_isSoBy 56 (.if_icmp .ge 29) 29 59 85 := ⟨by decide +kernel, rfl, by decide⟩
theorem dd_Md_isSoBy_59 : pj_d cX11_isSoBy 59 (.aload_n 0) 1 60 := ⟨by decide +kernel, rfl⟩
theorem dd_Md_isSoBy_60 : pj_d cX11_isSoBy 60 (.getfield 38) 3 63 := ⟨by decide +kernel, rfl⟩
theorem dd_Md_isSoBy_63 : pj_d cX11_isSoBy 63 (.iload_n 2) 1 64 := ⟨by decide +kernel, rfl⟩
theorem dd_Md_isSoBy_64 : pj_d cX11_isSoBy 64 (.iaload) 1 65 := ⟨by decide +kernel, rfl⟩
theorem dd_Md_isSoBy_65 : pj_d cX11_isSoBy 65 (.aload_n 0) 1 66 := ⟨by decide +kernel, rfl⟩
theorem dd_Md_isSoBy_66 : pj_d cX11_isSoBy 66 (.getfield 7) 3 69 := ⟨by decide +kernel, rfl⟩
theorem dd_Md_isSoBy_69 : pj_d cX11_isSoBy 69 (.bipush 74) 2 71 := ⟨by decide +kernel, rfl⟩
theorem dd_Md_isSoBy_71 : pj_d cX11_isSoBy 71 (.iload_n 2) 1 72 := ⟨by decide +kernel, rfl⟩
theorem dd_Md_isSoBy_72 : pj_d cX11_isSoBy 72 (.iadd) 1 73 := ⟨by decide +kernel, rfl⟩
theorem dd_Md_isSoBy_73 : pj_d cX11_isSoBy 73 (.iaload) 1 74 := ⟨by decide +kernel, rfl⟩
theorem dd_Md_isSoBy_74 : pj_dj cX11_isSoBy 74 (.if_icmp .eq 5) 5 77 79 := ⟨by decide +kernel, rfl, by decide⟩
theorem dd_Md_isSoBy_77 : pj_d cX11_isSoBy 77 (.iconst 0) 1 78 := ⟨by decide +kernel, rfl⟩
theorem dd_Md_isSoBy_78 : pj_d cX11_isSoBy 78 (.ireturn) 1 79 := ⟨by decide +kernel, rfl⟩
theorem dd_Md_isSoBy_79 : pj_d cX11_isSoBy 79 (.iinc 2 1) 3 82 := ⟨by decide +kernel, rfl⟩
theorem dd_Md_isSoBy_82 : pj_dj cX11_isSoBy 82 (.goto (-29)) (-29) 85 53 := ⟨by decide +kernel, rfl, by decide⟩
theorem dd_Md_isSoBy_85 : pj_d cX11_isSoBy 85 (.iconst 1) 1 86 := ⟨by decide +kernel, rfl⟩
theorem dd_Md_isSoBy_86 : pj_d cX11_isSoBy 86 (.ireturn) 1 87 := ⟨by decide +kernel, rfl⟩
set_option maxHeartbeats 4000000 in
set_option maxRecDepth 100000 in
theorem bt_Md_isSoBy_53 {B : pj_B} {A : Nat → Prop} {K : pj_K} {r0 : Int32} {z0 : pj_S} (hB : B.2.2.2.1 = pj_LM) (C : pj_C B A K cX11_isSoBy 3 RX11 5) (Q : pj_Qi B A K (some .boolean) r0 z0) (s53 : Int32 → pj_S → Option (Int32 × pj_S)) (k53 : ∀ (v2 : Int32) (z : pj_S) (H : Heap) (lo : List Loc) (ls : Array Slot), s53 v2 z = some (r0, z0) → pj_P B A K z H lo → lv_has ls 3 [(0, .ref (B.2.1 0)), (2, .int v2)] → pj_W K H lo 53 ls []) (v2 : Int32) (z : pj_S) (H : Heap) (lo : List Loc) (ls : Array Slot) (h : Md_isSoBy_53 s53 v2 z = some (r0, z0)) (P : pj_P B A K z H lo) (hl : lv_has ls 3 [(0, .ref (B.2.1 0)), (2, .int v2)]) : pj_W K H lo 53 ls [] := by
  unfold Md_isSoBy_53 at h
  refine pj_iload_n C dd_Md_isSoBy_53 rfl hl 1 rfl ?_
  refine pj_bipush (v := (nI 64)) C dd_Md_isSoBy_54 rfl ?_
  refine pj_ic_ge C h dd_Md_isSoBy_56 (fun h => ?_) (fun h => ?_)
  · refine pj_iconst (v := (nI 1)) C dd_Md_isSoBy_85 rfl ?_
    exact pj_zret C Q P h dd_Md_isSoBy_86
  · refine pj_aload_n C dd_Md_isSoBy_59 rfl hl 0 rfl ?_
    refine pj_getR C P 0 (LM0 hB) rfl fl_Md_38 dd_Md_isSoBy_60 ?_
    refine pj_iload_n C dd_Md_isSoBy_63 rfl hl 1 rfl ?_
    refine pj_iald C P 9 (LM9 hB) h dd_Md_isSoBy_64 (fun h => ?_)
    refine pj_aload_n C dd_Md_isSoBy_65 rfl hl 0 rfl ?_
    refine pj_getR C P 0 (LM0 hB) rfl fl_Md_7 dd_Md_isSoBy_66 ?_
    refine pj_bipush (v := (nI 74)) C dd_Md_isSoBy_69 rfl ?_
    refine pj_iload_n C dd_Md_isSoBy_71 rfl hl 1 rfl ?_
    refine pj_iadd C dd_Md_isSoBy_72 ?_
    refine pj_iald C P 1 (LM1 hB) h dd_Md_isSoBy_73 (fun h => ?_)
    refine pj_ic_eq C h dd_Md_isSoBy_74 (fun h => ?_) (fun h => ?_)
    · refine pj_iinc (v := (nI 1)) [(0, .ref (B.2.1 0))] C h rfl dd_Md_isSoBy_79 hl 1 rfl (by decide) rfl (fun x1 ls h hl => ?_)
      refine pj_goto C dd_Md_isSoBy_82 ?_
      exact k53 _ _ _ _ _ h P (lv_sub hl [1, 0] rfl)
    · refine pj_iconst (v := (nI 0)) C dd_Md_isSoBy_77 rfl ?_
      exact pj_zret C Q P h dd_Md_isSoBy_78
theorem lt_Md_isSoBy_53 {B : pj_B} {A : Nat → Prop} {K : pj_K} {r0 : Int32} {z0 : pj_S} (hB : B.2.2.2.1 = pj_LM) (C : pj_C B A K cX11_isSoBy 3 RX11 5) (Q : pj_Qi B A K (some .boolean) r0 z0)  : ∀ (n : Nat) (v2 : Int32) (z : pj_S) (H : Heap) (lo : List Loc) (ls : Array Slot), pj_lp1 Md_isSoBy_53 n v2 z = some (r0, z0) → pj_P B A K z H lo → lv_has ls 3 [(0, .ref (B.2.1 0)), (2, .int v2)] → pj_W K H lo 53 ls [] := by
  intro n
  induction n with
  | zero => intro v2 z H lo ls h; rw [pj_lp1_0] at h; cases h
  | succ n ih =>
    intro v2 z H lo ls h P hl
    rw [pj_lp1_s] at h
    exact bt_Md_isSoBy_53 hB C Q   (pj_lp1 Md_isSoBy_53 n) ih v2 z H lo ls h P hl
set_option maxHeartbeats 4000000 in
set_option maxRecDepth 100000 in
theorem bt_Md_isSoBy_37 {B : pj_B} {A : Nat → Prop} {K : pj_K} {r0 : Int32} {z0 : pj_S} (hB : B.2.2.2.1 = pj_LM) (C : pj_C B A K cX11_isSoBy 3 RX11 5) (Q : pj_Qi B A K (some .boolean) r0 z0)  (v1 : Int32) (z : pj_S) (H : Heap) (lo : List Loc) (ls : Array Slot) (h : Md_isSoBy_37 v1 z = some (r0, z0)) (P : pj_P B A K z H lo) (hl : lv_has ls 3 [(0, .ref (B.2.1 0)), (1, .int v1)]) : pj_W K H lo 37 ls [] := by
  unfold Md_isSoBy_37 at h
  refine pj_aload_n C dd_Md_isSoBy_37 rfl hl 0 rfl ?_
  obtain ⟨r3, z2, e1, h⟩ := pj_cE h
  refine pj_cVv (st := []) [] C P 0 (LM0 hB) rfl (ct_Md_laysHolders hB e1) cl_Md_270 rfl (by decide) (by decide) hl.1 (Nat.le_of_ble_eq_true rfl) dd_Md_isSoBy_38 (fun H lo P => ?_)
  refine pj_aload_n C dd_Md_isSoBy_41 rfl hl 0 rfl ?_
  refine pj_iload_n C dd_Md_isSoBy_42 rfl hl 1 rfl ?_
  obtain ⟨r6, z5, e4, h⟩ := pj_cE h
  refine pj_cVv (st := []) [.int v1] C P 0 (LM0 hB) rfl (ct_Md_goes hB e4) cl_Md_223 rfl (by decide) (by decide) hl.1 (Nat.le_of_ble_eq_true rfl) dd_Md_isSoBy_43 (fun H lo P => ?_)
  refine pj_aload_n C dd_Md_isSoBy_46 rfl hl 0 rfl ?_
  obtain ⟨r9, z8, e7, h⟩ := pj_cE h
  refine pj_cVi (st := []) [] C P 0 (LM0 hB) rfl (ct_Md_allRun hB e7) cl_Md_292 rfl (by decide) (by decide) hl.1 (Nat.le_of_ble_eq_true rfl) dd_Md_isSoBy_47 (fun H lo P => ?_)
  refine pj_pop C dd_Md_isSoBy_50 rfl ?_
  refine pj_iconst (v := (nI 0)) C dd_Md_isSoBy_51 rfl ?_
  refine pj_istore_n [(2, .int (nI 0)), (0, .ref (B.2.1 0)), (1, .int v1)] C dd_Md_isSoBy_52 rfl hl (by decide) rfl (fun ls hl => ?_)
  exact lt_Md_isSoBy_53 hB C Q 4000 _ _ _ _ _ h P (lv_sub hl [1, 0] rfl)
set_option maxHeartbeats 4000000 in
set_option maxRecDepth 100000 in
theorem bt_Md_isSoBy_30 {B : pj_B} {A : Nat → Prop} {K : pj_K} {r0 : Int32} {z0 : pj_S} (hB : B.2.2.2.1 = pj_LM) (C : pj_C B A K cX11_isSoBy 3 RX11 5) (Q : pj_Qi B A K (some .boolean) r0 z0) (s6 : Int32 → Int32 → pj_S → Option (Int32 × pj_S)) (k6 : ∀ (v1 : Int32) (v2 : Int32) (z : pj_S) (H : Heap) (lo : List Loc) (ls : Array Slot), s6 v1 v2 z = some (r0, z0) → pj_P B A K z H lo → lv_has ls 3 [(0, .ref (B.2.1 0)), (1, .int v1), (2, .int v2)] → pj_W K H lo 6 ls []) (v1 : Int32) (v2 : Int32) (t0 : Int32) (t1 : Int32) (z : pj_S) (H : Heap) (lo : List Loc) (ls : Array Slot) (h : Md_isSoBy_30 s6 v1 v2 t0 t1 z = some (r0, z0)) (P : pj_P B A K z H lo) (hl : lv_has ls 3 [(0, .ref (B.2.1 0)), (1, .int v1), (2, .int v2)]) : pj_W K H lo 30 ls [.int t0, .int t1, .ref (B.2.1 9)] := by
  unfold Md_isSoBy_30 at h
  refine pj_iast C P 9 (LM9 hB) h dd_Md_isSoBy_30 (fun H lo z1 h P => ?_)
  refine pj_iinc (v := (nI 1)) [(0, .ref (B.2.1 0)), (1, .int v1)] C h rfl dd_Md_isSoBy_31 hl 2 rfl (by decide) rfl (fun x2 ls h hl => ?_)
  refine pj_goto C dd_Md_isSoBy_34 ?_
  exact k6 _ _ _ _ _ _ h P (lv_sub hl [1, 2, 0] rfl)
set_option maxHeartbeats 4000000 in
set_option maxRecDepth 100000 in
theorem bt_Md_isSoBy_6 {B : pj_B} {A : Nat → Prop} {K : pj_K} {r0 : Int32} {z0 : pj_S} (hB : B.2.2.2.1 = pj_LM) (C : pj_C B A K cX11_isSoBy 3 RX11 5) (Q : pj_Qi B A K (some .boolean) r0 z0) (s6 : Int32 → Int32 → pj_S → Option (Int32 × pj_S)) (k6 : ∀ (v1 : Int32) (v2 : Int32) (z : pj_S) (H : Heap) (lo : List Loc) (ls : Array Slot), s6 v1 v2 z = some (r0, z0) → pj_P B A K z H lo → lv_has ls 3 [(0, .ref (B.2.1 0)), (1, .int v1), (2, .int v2)] → pj_W K H lo 6 ls []) (v1 : Int32) (v2 : Int32) (z : pj_S) (H : Heap) (lo : List Loc) (ls : Array Slot) (h : Md_isSoBy_6 s6 v1 v2 z = some (r0, z0)) (P : pj_P B A K z H lo) (hl : lv_has ls 3 [(0, .ref (B.2.1 0)), (1, .int v1), (2, .int v2)]) : pj_W K H lo 6 ls [] := by
  unfold Md_isSoBy_6 at h
  refine pj_iload_n C dd_Md_isSoBy_6 rfl hl 2 rfl ?_
  refine pj_bipush (v := (nI 64)) C dd_Md_isSoBy_7 rfl ?_
  refine pj_ic_ge C h dd_Md_isSoBy_9 (fun h => ?_) (fun h => ?_)
  · exact bt_Md_isSoBy_37 hB C Q _ _ _ _ _ h P (lv_sub hl [0, 1] rfl)
  · refine pj_aload_n C dd_Md_isSoBy_12 rfl hl 0 rfl ?_
    refine pj_getR C P 0 (LM0 hB) rfl fl_Md_38 dd_Md_isSoBy_13 ?_
    refine pj_iload_n C dd_Md_isSoBy_16 rfl hl 2 rfl ?_
    refine pj_aload_n C dd_Md_isSoBy_17 rfl hl 0 rfl ?_
    refine pj_iload_n C dd_Md_isSoBy_18 rfl hl 2 rfl ?_
    obtain ⟨r3, z2, e1, h⟩ := pj_cE h
    refine pj_cVi (st := [.int v2, .ref (B.2.1 9)]) [.int v2] C P 0 (LM0 hB) rfl (ct_Md_isStitch hB e1) cl_Md_63 rfl (by decide) (by decide) hl.1 (Nat.le_of_ble_eq_true rfl) dd_Md_isSoBy_19 (fun H lo P => ?_)
    refine pj_if_eq C h dd_Md_isSoBy_22 (fun h => ?_) (fun h => ?_)
    · refine pj_iconst (v := (nI 0)) C dd_Md_isSoBy_29 rfl ?_
      exact bt_Md_isSoBy_30 hB C Q s6 k6 _ _ _ _ _ _ _ _ h P (lv_sub hl [0, 1, 2] rfl)
    · refine pj_iconst (v := (nI 1)) C dd_Md_isSoBy_25 rfl ?_
      refine pj_goto C dd_Md_isSoBy_26 ?_
      exact bt_Md_isSoBy_30 hB C Q s6 k6 _ _ _ _ _ _ _ _ h P (lv_sub hl [0, 1, 2] rfl)
theorem lt_Md_isSoBy_6 {B : pj_B} {A : Nat → Prop} {K : pj_K} {r0 : Int32} {z0 : pj_S} (hB : B.2.2.2.1 = pj_LM) (C : pj_C B A K cX11_isSoBy 3 RX11 5) (Q : pj_Qi B A K (some .boolean) r0 z0)  : ∀ (n : Nat) (v1 : Int32) (v2 : Int32) (z : pj_S) (H : Heap) (lo : List Loc) (ls : Array Slot), pj_lp2 Md_isSoBy_6 n v1 v2 z = some (r0, z0) → pj_P B A K z H lo → lv_has ls 3 [(0, .ref (B.2.1 0)), (1, .int v1), (2, .int v2)] → pj_W K H lo 6 ls [] := by
  intro n
  induction n with
  | zero => intro v1 v2 z H lo ls h; rw [pj_lp2_0] at h; cases h
  | succ n ih =>
    intro v1 v2 z H lo ls h P hl
    rw [pj_lp2_s] at h
    exact bt_Md_isSoBy_6 hB C Q   (pj_lp2 Md_isSoBy_6 n) ih v1 v2 z H lo ls h P hl
set_option maxHeartbeats 4000000 in
set_option maxRecDepth 100000 in
theorem ct_Md_isSoBy {l : Launch} {B : pj_B} (hB : B.2.2.2.1 = pj_LM) {v1 : Int32} {z : pj_S} {r0 : Int32} {z0 : pj_S} (h : Md_isSoBy v1 z = some (r0, z0)) : pj_Mi l yX11_isSoBy cX11_isSoBy 3 (some .boolean) 5 [.ref (B.2.1 0), .int v1] B z r0 z0 := by
  refine pj_meti (own := RX11) (by decide +kernel) rfl (Nat.le_of_ble_eq_true rfl) ?_
  intro A K hK C Q H lo ls P hl
  have hl : lv_has ls 3 [(0, .ref (B.2.1 0)), (1, .int v1)] := hl
  unfold Md_isSoBy at h
  refine pj_aload_n C dd_Md_isSoBy_0 rfl hl 0 rfl ?_
  obtain ⟨r3, z2, e1, h⟩ := pj_cE h
  refine pj_cVv (st := []) [] C P 0 (LM0 hB) rfl (ct_Md_laysNow hB e1) cl_Md_267 rfl (by decide) (by decide) hl.1 (Nat.le_of_ble_eq_true rfl) dd_Md_isSoBy_1 (fun H lo P => ?_)
  refine pj_iconst (v := (nI 0)) C dd_Md_isSoBy_4 rfl ?_
  refine pj_istore_n [(2, .int (nI 0)), (0, .ref (B.2.1 0)), (1, .int v1)] C dd_Md_isSoBy_5 rfl hl (by decide) rfl (fun ls hl => ?_)
  exact lt_Md_isSoBy_6 hB C Q 4000 _ _ _ _ _ _ h P (lv_sub hl [1, 2, 0] rfl)
theorem dd_Md_first_0 : pj_d cX11_first 0 (.iload_n 1) 1 1 := ⟨by decide +kernel, rfl⟩
theorem dd_Md_first_1 : pj_d cX11_first 1 (.iconst 0) 1 2 := ⟨by decide +kernel, rfl⟩
theorem dd_Md_first_2 : pj_d cX11_first 2 (.iconst 1) 1 3 := ⟨by decide +kernel, rfl⟩
theorem dd_Md_first_3 : pj_d cX11_first 3 (.invokestatic 70) 3 6 := ⟨by decide +kernel, rfl⟩
theorem dd_Md_first_6 : pj_dj cX11_first 6 (.ifCond .ne 5) 5 9 11 := ⟨by decide +kernel, rfl, by decide⟩
theorem dd_Md_first_9 : pj_d cX11_first 9 (.iconst (-1)) 1 10 := ⟨by decide +kernel, rfl⟩
theorem dd_Md_first_10 : pj_d cX11_first 10 (.ireturn) 1 11 := ⟨by decide +kernel, rfl⟩
theorem dd_Md_first_11 : pj_d cX11_first 11 (.iconst 0) 1 12 := ⟨by decide +kernel, rfl⟩
theorem dd_Md_first_12 : pj_d cX11_first 12 (.istore_n 2) 1 13 := ⟨by decide +kernel, rfl⟩
theorem dd_Md_first_13 : pj_d cX11_first 13 (.iconst (-1)) 1 14 := ⟨by decide +kernel, rfl⟩
theorem dd_Md_first_14 : pj_d cX11_first 14 (.istore_n 3) 1 15 := ⟨by decide +kernel, rfl⟩
theorem dd_Md_first_15 : pj_d cX11_first 15 (.iconst 0) 1 16 := ⟨by decide +kernel, rfl⟩
theorem dd_Md_first_16 : pj_d cX11_first 16 (.istore 4) 2 18 := ⟨by decide +kernel, rfl⟩
theorem dd_Md_first_18 : pj_d cX11_first 18 (.iload 4) 2 20 := ⟨by decide +kernel, rfl⟩
theorem dd_Md_first_20 : pj_d cX11_first 20 (.bipush 64) 2 22 := ⟨by decide +kernel, rfl⟩
theorem dd_Md_first_22 : pj_dj cX11_first 22 (.if_icmp .ge 44) 44 25 66 := ⟨by decide +kernel, rfl, by decide⟩
theorem dd_Md_first_25 : pj_d cX11_first 25 (.aload_n 0) 1 26 := ⟨by decide +kernel, rfl⟩
theorem dd_Md_first_26 : pj_d cX11_first 26 (.iload 4) 2 28 := ⟨by decide +kernel, rfl⟩
theorem dd_Md_first_28 : pj_d cX11_first 28 (.invokevirtual 63) 3 31 := ⟨by decide +kernel, rfl⟩
theorem dd_Md_first_31 : pj_dj cX11_first 31 (.ifCond .eq 29) 29 34 60 := ⟨by decide +kernel, rfl, by decide⟩
theorem dd_Md_first_34 : pj_d cX11_first 34 (.aload_n 0) 1 35 := ⟨by decide +kernel, rfl⟩
theorem dd_Md_first_35 : pj_d cX11_first 35 (.iload 4) 2 37 := ⟨by decide +kernel, rfl⟩
theorem dd_Md_first_37 : pj_d cX11_first 37 (.invokevirtual 316) 3 40 := ⟨by decide +kernel, rfl⟩
theorem dd_Md_first_40 : pj_dj cX11_first 40 (.ifCond .ne 6) 6 43 46 := ⟨by decide +kernel, rfl, by decide⟩
theorem dd_Md_first_43 : pj_dj cX11_first 43 (.goto 17) 17 46 60 := ⟨by decide +kernel, rfl, by decide⟩
theorem dd_Md_first_46 : pj_d cX11_first 46 (.iload_n 2) 1 47 := ⟨by decide +kernel, rfl⟩
theorem dd_Md_first_47 : pj_dj cX11_first 47 (.ifCond .ne 8) 8 50 55 := ⟨by decide +kernel, rfl, by decide⟩
theorem dd_Md_first_50 : pj_d cX11_first 50 (.iload 4) 2 52 := ⟨by decide +kernel, rfl⟩
theorem dd_Md_first_52 : pj_dj cX11_first 52 (.goto 4) 4 55 56 := ⟨by decide +kernel, rfl, by decide⟩
theorem dd_Md_first_55 : pj_d cX11_first 55 (.iload_n 3) 1 56 := ⟨by decide +kernel, rfl⟩
theorem dd_Md_first_56 : pj_d cX11_first 56 (.istore_n 3) 1 57 := ⟨by decide +kernel, rfl⟩
theorem dd_Md_first_57 : pj_d cX11_first 57 (.iinc 2 1) 3 60 := ⟨by decide +kernel, rfl⟩
theorem dd_Md_first_60 : pj_d cX11_first 60 (.iinc 4 1) 3 63 := ⟨by decide +kernel, rfl⟩
theorem dd_Md_first_63 : pj_dj cX11_first 63 (.goto (-45)) (-45) 66 18 := ⟨by decide +kernel, rfl, by decide⟩
theorem dd_Md_first_66 : pj_d cX11_first 66 (.iload_n 1) 1 67 := ⟨by decide +kernel, rfl⟩
theorem dd_Md_first_67 : pj_dj cX11_first 67 (.ifCond .ne 7) 7 70 74 := ⟨by decide +kernel, rfl, by decide⟩
theorem dd_Md_first_70 : pj_d cX11_first 70 (.iload_n 2) 1 71 := ⟨by decide +kernel, rfl⟩
theorem dd_Md_first_71 : pj_dj cX11_first 71 (.goto 4) 4 74 75 := ⟨by decide +kernel, rfl, by decide⟩
theorem dd_Md_first_74 : pj_d cX11_first 74 (.iload_n 3) 1 75 := ⟨by decide +kernel, rfl⟩
theorem dd_Md_first_75 : pj_d cX11_first 75 (.ireturn) 1 76 := ⟨by decide +kernel, rfl⟩
set_option maxHeartbeats 4000000 in
set_option maxRecDepth 100000 in
theorem bt_Md_first_60 {B : pj_B} {A : Nat → Prop} {K : pj_K} {r0 : Int32} {z0 : pj_S} (hB : B.2.2.2.1 = pj_LM) (C : pj_C B A K cX11_first 5 RX11 6) (Q : pj_Qi B A K (some .int) r0 z0) (s18 : Int32 → Int32 → Int32 → Int32 → pj_S → Option (Int32 × pj_S)) (k18 : ∀ (v1 : Int32) (v2 : Int32) (v3 : Int32) (v4 : Int32) (z : pj_S) (H : Heap) (lo : List Loc) (ls : Array Slot), s18 v1 v2 v3 v4 z = some (r0, z0) → pj_P B A K z H lo → lv_has ls 5 [(0, .ref (B.2.1 0)), (1, .int v1), (2, .int v2), (3, .int v3), (4, .int v4)] → pj_W K H lo 18 ls []) (v1 : Int32) (v2 : Int32) (v3 : Int32) (v4 : Int32) (z : pj_S) (H : Heap) (lo : List Loc) (ls : Array Slot) (h : Md_first_60 s18 v1 v2 v3 v4 z = some (r0, z0)) (P : pj_P B A K z H lo) (hl : lv_has ls 5 [(0, .ref (B.2.1 0)), (1, .int v1), (2, .int v2), (3, .int v3), (4, .int v4)]) : pj_W K H lo 60 ls [] := by
  unfold Md_first_60 at h
  refine pj_iinc (v := (nI 1)) [(0, .ref (B.2.1 0)), (1, .int v1), (2, .int v2), (3, .int v3)] C h rfl dd_Md_first_60 hl 4 rfl (by decide) rfl (fun x1 ls h hl => ?_)
  refine pj_goto C dd_Md_first_63 ?_
  exact k18 _ _ _ _ _ _ _ _ h P (lv_sub hl [1, 2, 3, 4, 0] rfl)
set_option maxHeartbeats 4000000 in
set_option maxRecDepth 100000 in
theorem bt_Md_first_56 {B : pj_B} {A : Nat → Prop} {K : pj_K} {r0 : Int32} {z0 : pj_S} (hB : B.2.2.2.1 = pj_LM) (C : pj_C B A K cX11_first 5 RX11 6) (Q : pj_Qi B A K (some .int) r0 z0) (s18 : Int32 → Int32 → Int32 → Int32 → pj_S → Option (Int32 × pj_S)) (k18 : ∀ (v1 : Int32) (v2 : Int32) (v3 : Int32) (v4 : Int32) (z : pj_S) (H : Heap) (lo : List Loc) (ls : Array Slot), s18 v1 v2 v3 v4 z = some (r0, z0) → pj_P B A K z H lo → lv_has ls 5 [(0, .ref (B.2.1 0)), (1, .int v1), (2, .int v2), (3, .int v3), (4, .int v4)] → pj_W K H lo 18 ls []) (v1 : Int32) (v2 : Int32) (v4 : Int32) (t0 : Int32) (z : pj_S) (H : Heap) (lo : List Loc) (ls : Array Slot) (h : Md_first_56 s18 v1 v2 v4 t0 z = some (r0, z0)) (P : pj_P B A K z H lo) (hl : lv_has ls 5 [(0, .ref (B.2.1 0)), (1, .int v1), (2, .int v2), (4, .int v4)]) : pj_W K H lo 56 ls [.int t0] := by
  unfold Md_first_56 at h
  refine pj_istore_n [(3, .int t0), (0, .ref (B.2.1 0)), (1, .int v1), (2, .int v2), (4, .int v4)] C dd_Md_first_56 rfl hl (by decide) rfl (fun ls hl => ?_)
  refine pj_iinc (v := (nI 1)) [(3, .int t0), (0, .ref (B.2.1 0)), (1, .int v1), (4, .int v4)] C h rfl dd_Md_first_57 hl 3 rfl (by decide) rfl (fun x1 ls h hl => ?_)
  exact bt_Md_first_60 hB C Q s18 k18 _ _ _ _ _ _ _ _ h P (lv_sub hl [2, 3, 0, 1, 4] rfl)
set_option maxHeartbeats 4000000 in
set_option maxRecDepth 100000 in
theorem bt_Md_first_66 {B : pj_B} {A : Nat → Prop} {K : pj_K} {r0 : Int32} {z0 : pj_S} (hB : B.2.2.2.1 = pj_LM) (C : pj_C B A K cX11_first 5 RX11 6) (Q : pj_Qi B A K (some .int) r0 z0)  (v1 : Int32) (v2 : Int32) (v3 : Int32) (z : pj_S) (H : Heap) (lo : List Loc) (ls : Array Slot) (h : Md_first_66 v1 v2 v3 z = some (r0, z0)) (P : pj_P B A K z H lo) (hl : lv_has ls 5 [(1, .int v1), (2, .int v2), (3, .int v3)]) : pj_W K H lo 66 ls [] := by
  unfold Md_first_66 at h
  refine pj_iload_n C dd_Md_first_66 rfl hl 0 rfl ?_
  refine pj_if_ne C h dd_Md_first_67 (fun h => ?_) (fun h => ?_)
  · refine pj_iload_n C dd_Md_first_74 rfl hl 2 rfl ?_
    exact pj_iret C Q P h dd_Md_first_75
  · refine pj_iload_n C dd_Md_first_70 rfl hl 1 rfl ?_
    refine pj_goto C dd_Md_first_71 ?_
    exact pj_iret C Q P h dd_Md_first_75
set_option maxHeartbeats 4000000 in
set_option maxRecDepth 100000 in
theorem bt_Md_first_18 {B : pj_B} {A : Nat → Prop} {K : pj_K} {r0 : Int32} {z0 : pj_S} (hB : B.2.2.2.1 = pj_LM) (C : pj_C B A K cX11_first 5 RX11 6) (Q : pj_Qi B A K (some .int) r0 z0) (s18 : Int32 → Int32 → Int32 → Int32 → pj_S → Option (Int32 × pj_S)) (k18 : ∀ (v1 : Int32) (v2 : Int32) (v3 : Int32) (v4 : Int32) (z : pj_S) (H : Heap) (lo : List Loc) (ls : Array Slot), s18 v1 v2 v3 v4 z = some (r0, z0) → pj_P B A K z H lo → lv_has ls 5 [(0, .ref (B.2.1 0)), (1, .int v1), (2, .int v2), (3, .int v3), (4, .int v4)] → pj_W K H lo 18 ls []) (v1 : Int32) (v2 : Int32) (v3 : Int32) (v4 : Int32) (z : pj_S) (H : Heap) (lo : List Loc) (ls : Array Slot) (h : Md_first_18 s18 v1 v2 v3 v4 z = some (r0, z0)) (P : pj_P B A K z H lo) (hl : lv_has ls 5 [(0, .ref (B.2.1 0)), (1, .int v1), (2, .int v2), (3, .int v3), (4, .int v4)]) : pj_W K H lo 18 ls [] := by
  unfold Md_first_18 at h
  refine pj_iload C dd_Md_first_18 hl 4 rfl ?_
  refine pj_bipush (v := (nI 64)) C dd_Md_first_20 rfl ?_
  refine pj_ic_ge C h dd_Md_first_22 (fun h => ?_) (fun h => ?_)
  · exact bt_Md_first_66 hB C Q _ _ _ _ _ _ _ h P (lv_sub hl [1, 2, 3] rfl)
  · refine pj_aload_n C dd_Md_first_25 rfl hl 0 rfl ?_
    refine pj_iload C dd_Md_first_26 hl 4 rfl ?_
    obtain ⟨r3, z2, e1, h⟩ := pj_cE h
    refine pj_cVi (st := []) [.int v4] C P 0 (LM0 hB) rfl (ct_Md_isStitch hB e1) cl_Md_63 rfl (by decide) (by decide) hl.1 (Nat.le_of_ble_eq_true rfl) dd_Md_first_28 (fun H lo P => ?_)
    refine pj_if_eq C h dd_Md_first_31 (fun h => ?_) (fun h => ?_)
    · exact bt_Md_first_60 hB C Q s18 k18 _ _ _ _ _ _ _ _ h P (lv_sub hl [0, 1, 2, 3, 4] rfl)
    · refine pj_aload_n C dd_Md_first_34 rfl hl 0 rfl ?_
      refine pj_iload C dd_Md_first_35 hl 4 rfl ?_
      obtain ⟨r6, z5, e4, h⟩ := pj_cE h
      refine pj_cVi (st := []) [.int v4] C P 0 (LM0 hB) rfl (ct_Md_isSoBy hB e4) cl_Md_316 rfl (by decide) (by decide) hl.1 (Nat.le_of_ble_eq_true rfl) dd_Md_first_37 (fun H lo P => ?_)
      refine pj_if_ne C h dd_Md_first_40 (fun h => ?_) (fun h => ?_)
      · refine pj_iload_n C dd_Md_first_46 rfl hl 2 rfl ?_
        refine pj_if_ne C h dd_Md_first_47 (fun h => ?_) (fun h => ?_)
        · refine pj_iload_n C dd_Md_first_55 rfl hl 3 rfl ?_
          exact bt_Md_first_56 hB C Q s18 k18 _ _ _ _ _ _ _ _ h P (lv_sub hl [0, 1, 2, 4] rfl)
        · refine pj_iload C dd_Md_first_50 hl 4 rfl ?_
          refine pj_goto C dd_Md_first_52 ?_
          exact bt_Md_first_56 hB C Q s18 k18 _ _ _ _ _ _ _ _ h P (lv_sub hl [0, 1, 2, 4] rfl)
      · refine pj_goto C dd_Md_first_43 ?_
        exact bt_Md_first_60 hB C Q s18 k18 _ _ _ _ _ _ _ _ h P (lv_sub hl [0, 1, 2, 3, 4] rfl)
theorem lt_Md_first_18 {B : pj_B} {A : Nat → Prop} {K : pj_K} {r0 : Int32} {z0 : pj_S} (hB : B.2.2.2.1 = pj_LM) (C : pj_C B A K cX11_first 5 RX11 6) (Q : pj_Qi B A K (some .int) r0 z0)  : ∀ (n : Nat) (v1 : Int32) (v2 : Int32) (v3 : Int32) (v4 : Int32) (z : pj_S) (H : Heap) (lo : List Loc) (ls : Array Slot), pj_lp4 Md_first_18 n v1 v2 v3 v4 z = some (r0, z0) → pj_P B A K z H lo → lv_has ls 5 [(0, .ref (B.2.1 0)), (1, .int v1), (2, .int v2), (3, .int v3), (4, .int v4)] → pj_W K H lo 18 ls [] := by
  intro n
  induction n with
  | zero => intro v1 v2 v3 v4 z H lo ls h; rw [pj_lp4_0] at h; cases h
  | succ n ih =>
    intro v1 v2 v3 v4 z H lo ls h P hl
    rw [pj_lp4_s] at h
    exact bt_Md_first_18 hB C Q   (pj_lp4 Md_first_18 n) ih v1 v2 v3 v4 z H lo ls h P hl
set_option maxHeartbeats 4000000 in
set_option maxRecDepth 100000 in
theorem ct_Md_first {l : Launch} {B : pj_B} (hB : B.2.2.2.1 = pj_LM) {v1 : Int32} {z : pj_S} {r0 : Int32} {z0 : pj_S} (h : Md_first v1 z = some (r0, z0)) : pj_Mi l yX11_first cX11_first 5 (some .int) 6 [.ref (B.2.1 0), .int v1] B z r0 z0 := by
  refine pj_meti (own := RX11) (by decide +kernel) rfl (Nat.le_of_ble_eq_true rfl) ?_
  intro A K hK C Q H lo ls P hl
  have hl : lv_has ls 5 [(0, .ref (B.2.1 0)), (1, .int v1)] := hl
  unfold Md_first at h
  refine pj_iload_n C dd_Md_first_0 rfl hl 1 rfl ?_
  refine pj_iconst (v := (nI 0)) C dd_Md_first_1 rfl ?_
  refine pj_iconst (v := (nI 1)) C dd_Md_first_2 rfl ?_
  obtain ⟨r3, z2, e1, h⟩ := pj_cE h
  refine pj_cSi (st := []) [.int v1, .int (nI 0), .int (nI 1)] C P (ct_Md_isInM hB e1) cl_Md_70 rfl (by decide) (by decide) hl.1 (Nat.le_of_ble_eq_true rfl) dd_Md_first_3 (fun H lo P => ?_)
  refine pj_if_ne C h dd_Md_first_6 (fun h => ?_) (fun h => ?_)
  · refine pj_iconst (v := (nI 0)) C dd_Md_first_11 rfl ?_
    refine pj_istore_n [(2, .int (nI 0)), (0, .ref (B.2.1 0)), (1, .int v1)] C dd_Md_first_12 rfl hl (by decide) rfl (fun ls hl => ?_)
    refine pj_iconst (v := (-1 : Int32)) C dd_Md_first_13 rfl ?_
    refine pj_istore_n [(3, .int (-1 : Int32)), (2, .int (nI 0)), (0, .ref (B.2.1 0)), (1, .int v1)] C dd_Md_first_14 rfl hl (by decide) rfl (fun ls hl => ?_)
    refine pj_iconst (v := (nI 0)) C dd_Md_first_15 rfl ?_
    refine pj_istore [(4, .int (nI 0)), (3, .int (-1 : Int32)), (2, .int (nI 0)), (0, .ref (B.2.1 0)), (1, .int v1)] C dd_Md_first_16 hl (by decide) rfl (fun ls hl => ?_)
    exact lt_Md_first_18 hB C Q 4000 _ _ _ _ _ _ _ _ h P (lv_sub hl [3, 4, 2, 1, 0] rfl)
  · refine pj_iconst (v := (-1 : Int32)) C dd_Md_first_9 rfl ?_
    exact pj_iret C Q P h dd_Md_first_10
theorem dd_Md_undo_0 : pj_d cX11_undo 0 (.aload_n 0) 1 1 := ⟨by decide +kernel, rfl⟩
theorem dd_Md_undo_1 : pj_d cX11_undo 1 (.getfield 67) 3 4 := ⟨by decide +kernel, rfl⟩
theorem dd_Md_undo_4 : pj_dj cX11_undo 4 (.ifCond .ne 5) 5 7 9 := ⟨by decide +kernel, rfl, by decide⟩
theorem dd_Md_undo_7 : pj_d cX11_undo 7 (.iconst 0) 1 8 := ⟨by decide +kernel, rfl⟩
theorem dd_Md_undo_8 : pj_d cX11_undo 8 (.ireturn) 1 9 := ⟨by decide +kernel, rfl⟩
theorem dd_Md_undo_9 : pj_d cX11_undo 9 (.aload_n 0) 1 10 := ⟨by decide +kernel, rfl⟩
theorem dd_Md_undo_10 : pj_d cX11_undo 10 (.dup) 1 11 := ⟨by decide +kernel, rfl⟩
theorem dd_Md_undo_11 : pj_d cX11_undo 11 (.getfield 67) 3 14 := ⟨by decide +kernel, rfl⟩
theorem dd_Md_undo_14 : pj_d cX11_undo 14 (.iconst 1) 1 15 := ⟨by decide +kernel, rfl⟩
theorem dd_Md_undo_15 : pj_d cX11_undo 15 (.isub) 1 16 := ⟨by decide +kernel, rfl⟩
theorem dd_Md_undo_16 : pj_d cX11_undo 16 (.putfield 67) 3 19 := ⟨by decide +kernel, rfl⟩
theorem dd_Md_undo_19 : pj_d cX11_undo 19 (.sipush 196) 3 22 := ⟨by decide +kernel, rfl⟩
theorem dd_Md_undo_22 : pj_d cX11_undo 22 (.aload_n 0) 1 23 := ⟨by decide +kernel, rfl⟩
theorem dd_Md_undo_23 : pj_d cX11_undo 23 (.getfield 67) 3 26 := ⟨by decide +kernel, rfl⟩
theorem dd_Md_undo_26 : pj_d cX11_undo 26 (.imul) 1 27 := ⟨by decide +kernel, rfl⟩
theorem dd_Md_undo_27 : pj_d cX11_undo 27 (.istore_n 1) 1 28 := ⟨by decide +kernel, rfl⟩
theorem dd_Md_undo_28 : pj_d cX11_undo 28 (.iconst 0) 1 29 := ⟨by decide +kernel, rfl⟩
theorem dd_Md_undo_29 : pj_d cX11_undo 29 (.istore_n 2) 1 30 := ⟨by decide +kernel, rfl⟩
theorem dd_Md_undo_30 : pj_d cX11_undo 30 (.iload_n 2) 1 31 := ⟨by decide +kernel, rfl⟩
theorem dd_Md_undo_31 : pj_d cX11_undo 31 (.iconst 4) 1 32 := ⟨by decide +kernel, rfl⟩
theorem dd_Md_undo_32 : pj_dj cX11_undo 32 (.if_icmp .ge 25) 25 35 57 := ⟨by decide +kernel, rfl, by decide⟩
theorem dd_Md_undo_35 : pj_d cX11_undo 35 (.aload_n 0) 1 36 := ⟨by decide +kernel, rfl⟩
theorem dd_Md_undo_36 : pj_d cX11_undo 36 (.getfield 7) 3 39 := ⟨by decide +kernel, rfl⟩
theorem dd_Md_undo_39 : pj_d cX11_undo 39 (.iconst 3) 1 40 := ⟨by decide +kernel, rfl⟩
theorem dd_Md_undo_40 : pj_d cX11_undo 40 (.iload_n 2) 1 41 := ⟨by decide +kernel, rfl⟩
theorem dd_Md_undo_41 : pj_d cX11_undo 41 (.iadd) 1 42 := ⟨by decide +kernel, rfl⟩
theorem dd_Md_undo_42 : pj_d cX11_undo 42 (.aload_n 0) 1 43 := ⟨by decide +kernel, rfl⟩
theorem dd_Md_undo_43 : pj_d cX11_undo 43 (.getfield 16) 3 46 := ⟨by decide +kernel, rfl⟩
theorem dd_Md_undo_46 : pj_d cX11_undo 46 (.iload_n 1) 1 47 := ⟨by decide +kernel, rfl⟩
theorem dd_Md_undo_47 : pj_d cX11_undo 47 (.iload_n 2) 1 48 := ⟨by decide +kernel, rfl⟩
theorem dd_Md_undo_48 : pj_d cX11_undo 48 (.iadd) 1 49 := ⟨by decide +kernel, rfl⟩
theorem dd_Md_undo_49 : pj_d cX11_undo 49 (.iaload) 1 50 := ⟨by decide +kernel, rfl⟩
theorem dd_Md_undo_50 : pj_d cX11_undo 50 (.iastore) 1 51 := ⟨by decide +kernel, rfl⟩
theorem dd_Md_undo_51 : pj_d cX11_undo 51 (.iinc 2 1) 3 54 := ⟨by decide +kernel, rfl⟩
theorem dd_Md_undo_54 : pj_dj cX11_undo 54 (.goto (-24)) (-24) 57 30 := ⟨by decide +kernel, rfl, by decide⟩
theorem dd_Md_undo_57 : pj_d cX11_undo 57 (.iconst 0) 1 58 := ⟨by decide +kernel, rfl⟩
theorem dd_Md_undo_58 : pj_d cX11_undo 58 (.istore_n 2) 1 59 := ⟨by decide +kernel, rfl⟩
theorem dd_Md_undo_59 : pj_d cX11_undo 59 (.iload_n 2) 1 60 := ⟨by decide +kernel, rfl⟩
theorem dd_Md_undo_60 : pj_d cX11_undo 60 (.bipush 64) 2 62 := ⟨by decide +kernel, rfl⟩
theorem dd_Md_undo_62 : pj_dj cX11_undo 62 (.if_icmp .ge 71) 71 65 133 := ⟨by decide +kernel, rfl, by decide⟩
theorem dd_Md_undo_65 : pj_d cX11_undo 65 (.aload_n 0) 1 66 := ⟨by decide +kernel, rfl⟩
theorem dd_Md_undo_66 : pj_d cX11_undo 66 (.getfield 7) 3 69 := ⟨by decide +kernel, rfl⟩
theorem dd_Md_undo_69 : pj_d cX11_undo 69 (.bipush 74) 2 71 := ⟨by decide +kernel, rfl⟩
theorem dd_Md_undo_71 : pj_d cX11_undo 71 (.iload_n 2) 1 72 := ⟨by decide +kernel, rfl⟩
theorem dd_Md_undo_72 : pj_d cX11_undo 72 (.iadd) 1 73 := ⟨by decide +kernel, rfl⟩
theorem dd_Md_undo_73 : pj_d cX11_undo 73 (.aload_n 0) 1 74 := ⟨by decide +kernel, rfl⟩
theorem dd_Md_undo_74 : pj_d cX11_undo 74 (.getfield 16) 3 77 := ⟨by decide +kernel, rfl⟩
theorem dd_Md_undo_77 : pj_d cX11_undo 77 (.iload_n 1) 1 78 := ⟨by decide +kernel, rfl⟩
theorem dd_Md_undo_78 : pj_d cX11_undo 78 (.iconst 4) 1 79 := ⟨by decide +kernel, rfl⟩
theorem dd_Md_undo_79 : pj_d cX11_undo 79 (.iadd) 1 80 := ⟨by decide +kernel, rfl⟩
theorem dd_Md_undo_80 : pj_d cX11_undo 80 (.iload_n 2) 1 81 := ⟨by decide +kernel, rfl⟩
theorem dd_Md_undo_81 : pj_d cX11_undo 81 (.iadd) 1 82 := ⟨by decide +kernel, rfl⟩
theorem dd_Md_undo_82 : pj_d cX11_undo 82 (.iaload) 1 83 := ⟨by decide +kernel, rfl⟩
theorem dd_Md_undo_83 : pj_d cX11_undo 83 (.iastore) 1 84 := ⟨by decide +kernel, rfl⟩
theorem dd_Md_undo_84 : pj_d cX11_undo 84 (.aload_n 0) 1 85 := ⟨by decide +kernel, rfl⟩
theorem dd_Md_undo_85 : pj_d cX11_undo 85 (.getfield 7) 3 88 := ⟨by decide +kernel, rfl⟩
theorem dd_Md_undo_88 : pj_d cX11_undo 88 (.sipush 202) 3 91 := ⟨by decide +kernel, rfl⟩
theorem dd_Md_undo_91 : pj_d cX11_undo 91 (.iload_n 2) 1 92 := ⟨by decide +kernel, rfl⟩
theorem dd_Md_undo_92 : pj_d cX11_undo 92 (.iadd) 1 93 := ⟨by decide +kernel, rfl⟩
theorem dd_Md_undo_93 : pj_d cX11_undo 93 (.aload_n 0) 1 94 := ⟨by decide +kernel, rfl⟩
theorem dd_Md_undo_94 : pj_d cX11_undo 94 (.getfield 16) 3 97 := ⟨by decide +kernel, rfl⟩
theorem dd_Md_undo_97 : pj_d cX11_undo 97 (.iload_n 1) 1 98 := ⟨by decide +kernel, rfl⟩
theorem dd_Md_undo_98 : pj_d cX11_undo 98 (.bipush 68) 2 100 := ⟨by decide +kernel, rfl⟩
theorem dd_Md_undo_100 : pj_d cX11_undo 100 (.iadd) 1 101 := ⟨by decide +kernel, rfl⟩
theorem dd_Md_undo_101 : pj_d cX11_undo 101 (.iload_n 2) 1 102 := ⟨by decide +kernel, rfl⟩
theorem dd_Md_undo_102 : pj_d cX11_undo 102 (.iadd) 1 103 := ⟨by decide +kernel, rfl⟩
theorem dd_Md_undo_103 : pj_d cX11_undo 103 (.iaload) 1 104 := ⟨by decide +kernel, rfl⟩
theorem dd_Md_undo_104 : pj_d cX11_undo 104 (.iastore) 1 105 := ⟨by decide +kernel, rfl⟩
theorem dd_Md_undo_105 : pj_d cX11_undo 105 (.aload_n 0) 1 106 := ⟨by decide +kernel, rfl⟩
theorem dd_Md_undo_106 : pj_d cX11_undo 106 (.getfield 7) 3 109 := ⟨by decide +kernel, rfl⟩
theorem dd_Md_undo_109 : pj_d cX11_undo 109 (.sipush 1490) 3 112 := ⟨by decide +kernel, rfl⟩
theorem dd_Md_undo_112 : pj_d cX11_undo 112 (.iload_n 2) 1 113 := ⟨by decide +kernel, rfl⟩
theorem dd_Md_undo_113 : pj_d cX11_undo 113 (.iadd) 1 114 := ⟨by decide +kernel, rfl⟩
theorem dd_Md_undo_114 : pj_d cX11_undo 114 (.aload_n 0) 1 115 := ⟨by decide +kernel, rfl⟩
theorem dd_Md_undo_115 : pj_d cX11_undo 115 (.getfield 16) 3 118 := ⟨by decide +kernel, rfl⟩
theorem dd_Md_undo_118 : pj_d cX11_undo 118 (.iload_n 1) 1 119 := ⟨by decide +kernel, rfl⟩
theorem dd_Md_undo_119 : pj_d cX11_undo 119 (.sipush 132) 3 122 := ⟨by decide +kernel, rfl⟩
theorem dd_Md_undo_122 : pj_d cX11_undo 122 (.iadd) 1 123 := ⟨by decide +kernel, rfl⟩
theorem dd_Md_undo_123 : pj_d cX11_undo 123 (.iload_n 2) 1 124 := ⟨by decide +kernel, rfl⟩
theorem dd_Md_undo_124 : pj_d cX11_undo 124 (.iadd) 1 125 := ⟨by decide +kernel, rfl⟩
theorem dd_Md_undo_125 : pj_d cX11_undo 125 (.iaload) 1 126 := ⟨by decide +kernel, rfl⟩
theorem dd_Md_undo_126 : pj_d cX11_undo 126 (.iastore) 1 127 := ⟨by decide +kernel, rfl⟩
theorem dd_Md_undo_127 : pj_d cX11_undo 127 (.iinc 2 1) 3 130 := ⟨by decide +kernel, rfl⟩
theorem dd_Md_undo_130 : pj_dj cX11_undo 130 (.goto (-71)) (-71) 133 59 := ⟨by decide +kernel, rfl, by decide⟩
theorem dd_Md_undo_133 : pj_d cX11_undo 133 (.iconst 1) 1 134 := ⟨by decide +kernel, rfl⟩
theorem dd_Md_undo_134 : pj_d cX11_undo 134 (.ireturn) 1 135 := ⟨by decide +kernel, rfl⟩
set_option maxHeartbeats 4000000 in
set_option maxRecDepth 100000 in
theorem bt_Md_undo_59 {B : pj_B} {A : Nat → Prop} {K : pj_K} {r0 : Int32} {z0 : pj_S} (hB : B.2.2.2.1 = pj_LM) (C : pj_C B A K cX11_undo 3 RX11 1) (Q : pj_Qi B A K (some .boolean) r0 z0) (s59 : Int32 → Int32 → pj_S → Option (Int32 × pj_S)) (k59 : ∀ (v1 : Int32) (v2 : Int32) (z : pj_S) (H : Heap) (lo : List Loc) (ls : Array Slot), s59 v1 v2 z = some (r0, z0) → pj_P B A K z H lo → lv_has ls 3 [(0, .ref (B.2.1 0)), (1, .int v1), (2, .int v2)] → pj_W K H lo 59 ls []) (v1 : Int32) (v2 : Int32) (z : pj_S) (H : Heap) (lo : List Loc) (ls : Array Slot) (h : Md_undo_59 s59 v1 v2 z = some (r0, z0)) (P : pj_P B A K z H lo) (hl : lv_has ls 3 [(0, .ref (B.2.1 0)), (1, .int v1), (2, .int v2)]) : pj_W K H lo 59 ls [] := by
  unfold Md_undo_59 at h
  refine pj_iload_n C dd_Md_undo_59 rfl hl 2 rfl ?_
  refine pj_bipush (v := (nI 64)) C dd_Md_undo_60 rfl ?_
  refine pj_ic_ge C h dd_Md_undo_62 (fun h => ?_) (fun h => ?_)
  · refine pj_iconst (v := (nI 1)) C dd_Md_undo_133 rfl ?_
    exact pj_zret C Q P h dd_Md_undo_134
  · refine pj_aload_n C dd_Md_undo_65 rfl hl 0 rfl ?_
    refine pj_getR C P 0 (LM0 hB) rfl fl_Md_7 dd_Md_undo_66 ?_
    refine pj_bipush (v := (nI 74)) C dd_Md_undo_69 rfl ?_
    refine pj_iload_n C dd_Md_undo_71 rfl hl 2 rfl ?_
    refine pj_iadd C dd_Md_undo_72 ?_
    refine pj_aload_n C dd_Md_undo_73 rfl hl 0 rfl ?_
    refine pj_getR C P 0 (LM0 hB) rfl fl_Md_16 dd_Md_undo_74 ?_
    refine pj_iload_n C dd_Md_undo_77 rfl hl 1 rfl ?_
    refine pj_iconst (v := (nI 4)) C dd_Md_undo_78 rfl ?_
    refine pj_iadd C dd_Md_undo_79 ?_
    refine pj_iload_n C dd_Md_undo_80 rfl hl 2 rfl ?_
    refine pj_iadd C dd_Md_undo_81 ?_
    refine pj_iald C P 3 (LM3 hB) h dd_Md_undo_82 (fun h => ?_)
    refine pj_iast C P 1 (LM1 hB) h dd_Md_undo_83 (fun H lo z1 h P => ?_)
    refine pj_aload_n C dd_Md_undo_84 rfl hl 0 rfl ?_
    refine pj_getR C P 0 (LM0 hB) rfl fl_Md_7 dd_Md_undo_85 ?_
    refine pj_sipush (v := (nI 202)) C dd_Md_undo_88 rfl ?_
    refine pj_iload_n C dd_Md_undo_91 rfl hl 2 rfl ?_
    refine pj_iadd C dd_Md_undo_92 ?_
    refine pj_aload_n C dd_Md_undo_93 rfl hl 0 rfl ?_
    refine pj_getR C P 0 (LM0 hB) rfl fl_Md_16 dd_Md_undo_94 ?_
    refine pj_iload_n C dd_Md_undo_97 rfl hl 1 rfl ?_
    refine pj_bipush (v := (nI 68)) C dd_Md_undo_98 rfl ?_
    refine pj_iadd C dd_Md_undo_100 ?_
    refine pj_iload_n C dd_Md_undo_101 rfl hl 2 rfl ?_
    refine pj_iadd C dd_Md_undo_102 ?_
    refine pj_iald C P 3 (LM3 hB) h dd_Md_undo_103 (fun h => ?_)
    refine pj_iast C P 1 (LM1 hB) h dd_Md_undo_104 (fun H lo z2 h P => ?_)
    refine pj_aload_n C dd_Md_undo_105 rfl hl 0 rfl ?_
    refine pj_getR C P 0 (LM0 hB) rfl fl_Md_7 dd_Md_undo_106 ?_
    refine pj_sipush (v := (nI 1490)) C dd_Md_undo_109 rfl ?_
    refine pj_iload_n C dd_Md_undo_112 rfl hl 2 rfl ?_
    refine pj_iadd C dd_Md_undo_113 ?_
    refine pj_aload_n C dd_Md_undo_114 rfl hl 0 rfl ?_
    refine pj_getR C P 0 (LM0 hB) rfl fl_Md_16 dd_Md_undo_115 ?_
    refine pj_iload_n C dd_Md_undo_118 rfl hl 1 rfl ?_
    refine pj_sipush (v := (nI 132)) C dd_Md_undo_119 rfl ?_
    refine pj_iadd C dd_Md_undo_122 ?_
    refine pj_iload_n C dd_Md_undo_123 rfl hl 2 rfl ?_
    refine pj_iadd C dd_Md_undo_124 ?_
    refine pj_iald C P 3 (LM3 hB) h dd_Md_undo_125 (fun h => ?_)
    refine pj_iast C P 1 (LM1 hB) h dd_Md_undo_126 (fun H lo z3 h P => ?_)
    refine pj_iinc (v := (nI 1)) [(0, .ref (B.2.1 0)), (1, .int v1)] C h rfl dd_Md_undo_127 hl 2 rfl (by decide) rfl (fun x4 ls h hl => ?_)
    refine pj_goto C dd_Md_undo_130 ?_
    exact k59 _ _ _ _ _ _ h P (lv_sub hl [1, 2, 0] rfl)
theorem lt_Md_undo_59 {B : pj_B} {A : Nat → Prop} {K : pj_K} {r0 : Int32} {z0 : pj_S} (hB : B.2.2.2.1 = pj_LM) (C : pj_C B A K cX11_undo 3 RX11 1) (Q : pj_Qi B A K (some .boolean) r0 z0)  : ∀ (n : Nat) (v1 : Int32) (v2 : Int32) (z : pj_S) (H : Heap) (lo : List Loc) (ls : Array Slot), pj_lp2 Md_undo_59 n v1 v2 z = some (r0, z0) → pj_P B A K z H lo → lv_has ls 3 [(0, .ref (B.2.1 0)), (1, .int v1), (2, .int v2)] → pj_W K H lo 59 ls [] := by
  intro n
  induction n with
  | zero => intro v1 v2 z H lo ls h; rw [pj_lp2_0] at h; cases h
  | succ n ih =>
    intro v1 v2 z H lo ls h P hl
    rw [pj_lp2_s] at h
    exact bt_Md_undo_59 hB C Q   (pj_lp2 Md_undo_59 n) ih v1 v2 z H lo ls h P hl
set_option maxHeartbeats 4000000 in
set_option maxRecDepth 100000 in
theorem bt_Md_undo_57 {B : pj_B} {A : Nat → Prop} {K : pj_K} {r0 : Int32} {z0 : pj_S} (hB : B.2.2.2.1 = pj_LM) (C : pj_C B A K cX11_undo 3 RX11 1) (Q : pj_Qi B A K (some .boolean) r0 z0)  (v1 : Int32) (z : pj_S) (H : Heap) (lo : List Loc) (ls : Array Slot) (h : Md_undo_57 v1 z = some (r0, z0)) (P : pj_P B A K z H lo) (hl : lv_has ls 3 [(0, .ref (B.2.1 0)), (1, .int v1)]) : pj_W K H lo 57 ls [] := by
  unfold Md_undo_57 at h
  refine pj_iconst (v := (nI 0)) C dd_Md_undo_57 rfl ?_
  refine pj_istore_n [(2, .int (nI 0)), (0, .ref (B.2.1 0)), (1, .int v1)] C dd_Md_undo_58 rfl hl (by decide) rfl (fun ls hl => ?_)
  exact lt_Md_undo_59 hB C Q 4000 _ _ _ _ _ _ h P (lv_sub hl [1, 2, 0] rfl)
set_option maxHeartbeats 4000000 in
set_option maxRecDepth 100000 in
theorem bt_Md_undo_30 {B : pj_B} {A : Nat → Prop} {K : pj_K} {r0 : Int32} {z0 : pj_S} (hB : B.2.2.2.1 = pj_LM) (C : pj_C B A K cX11_undo 3 RX11 1) (Q : pj_Qi B A K (some .boolean) r0 z0) (s30 : Int32 → Int32 → pj_S → Option (Int32 × pj_S)) (k30 : ∀ (v1 : Int32) (v2 : Int32) (z : pj_S) (H : Heap) (lo : List Loc) (ls : Array Slot), s30 v1 v2 z = some (r0, z0) → pj_P B A K z H lo → lv_has ls 3 [(0, .ref (B.2.1 0)), (1, .int v1), (2, .int v2)] → pj_W K H lo 30 ls []) (v1 : Int32) (v2 : Int32) (z : pj_S) (H : Heap) (lo : List Loc) (ls : Array Slot) (h : Md_undo_30 s30 v1 v2 z = some (r0, z0)) (P : pj_P B A K z H lo) (hl : lv_has ls 3 [(0, .ref (B.2.1 0)), (1, .int v1), (2, .int v2)]) : pj_W K H lo 30 ls [] := by
  unfold Md_undo_30 at h
  refine pj_iload_n C dd_Md_undo_30 rfl hl 2 rfl ?_
  refine pj_iconst (v := (nI 4)) C dd_Md_undo_31 rfl ?_
  refine pj_ic_ge C h dd_Md_undo_32 (fun h => ?_) (fun h => ?_)
  · exact bt_Md_undo_57 hB C Q _ _ _ _ _ h P (lv_sub hl [0, 1] rfl)
  · refine pj_aload_n C dd_Md_undo_35 rfl hl 0 rfl ?_
    refine pj_getR C P 0 (LM0 hB) rfl fl_Md_7 dd_Md_undo_36 ?_
    refine pj_iconst (v := (nI 3)) C dd_Md_undo_39 rfl ?_
    refine pj_iload_n C dd_Md_undo_40 rfl hl 2 rfl ?_
    refine pj_iadd C dd_Md_undo_41 ?_
    refine pj_aload_n C dd_Md_undo_42 rfl hl 0 rfl ?_
    refine pj_getR C P 0 (LM0 hB) rfl fl_Md_16 dd_Md_undo_43 ?_
    refine pj_iload_n C dd_Md_undo_46 rfl hl 1 rfl ?_
    refine pj_iload_n C dd_Md_undo_47 rfl hl 2 rfl ?_
    refine pj_iadd C dd_Md_undo_48 ?_
    refine pj_iald C P 3 (LM3 hB) h dd_Md_undo_49 (fun h => ?_)
    refine pj_iast C P 1 (LM1 hB) h dd_Md_undo_50 (fun H lo z1 h P => ?_)
    refine pj_iinc (v := (nI 1)) [(0, .ref (B.2.1 0)), (1, .int v1)] C h rfl dd_Md_undo_51 hl 2 rfl (by decide) rfl (fun x2 ls h hl => ?_)
    refine pj_goto C dd_Md_undo_54 ?_
    exact k30 _ _ _ _ _ _ h P (lv_sub hl [1, 2, 0] rfl)
theorem lt_Md_undo_30 {B : pj_B} {A : Nat → Prop} {K : pj_K} {r0 : Int32} {z0 : pj_S} (hB : B.2.2.2.1 = pj_LM) (C : pj_C B A K cX11_undo 3 RX11 1) (Q : pj_Qi B A K (some .boolean) r0 z0)  : ∀ (n : Nat) (v1 : Int32) (v2 : Int32) (z : pj_S) (H : Heap) (lo : List Loc) (ls : Array Slot), pj_lp2 Md_undo_30 n v1 v2 z = some (r0, z0) → pj_P B A K z H lo → lv_has ls 3 [(0, .ref (B.2.1 0)), (1, .int v1), (2, .int v2)] → pj_W K H lo 30 ls [] := by
  intro n
  induction n with
  | zero => intro v1 v2 z H lo ls h; rw [pj_lp2_0] at h; cases h
  | succ n ih =>
    intro v1 v2 z H lo ls h P hl
    rw [pj_lp2_s] at h
    exact bt_Md_undo_30 hB C Q   (pj_lp2 Md_undo_30 n) ih v1 v2 z H lo ls h P hl
set_option maxHeartbeats 4000000 in
set_option maxRecDepth 100000 in
theorem ct_Md_undo {l : Launch} {B : pj_B} (hB : B.2.2.2.1 = pj_LM)  {z : pj_S} {r0 : Int32} {z0 : pj_S} (h : Md_undo z = some (r0, z0)) : pj_Mi l yX11_undo cX11_undo 3 (some .boolean) 1 [.ref (B.2.1 0)] B z r0 z0 := by
  refine pj_meti (own := RX11) (by decide +kernel) rfl (Nat.le_of_ble_eq_true rfl) ?_
  intro A K hK C Q H lo ls P hl
  have hl : lv_has ls 3 [(0, .ref (B.2.1 0))] := hl
  unfold Md_undo at h
  refine pj_aload_n C dd_Md_undo_0 rfl hl 0 rfl ?_
  refine pj_getI C P 0 (LM0 hB) rfl fl_Md_67 dd_Md_undo_1 ?_
  refine pj_if_ne C h dd_Md_undo_4 (fun h => ?_) (fun h => ?_)
  · refine pj_aload_n C dd_Md_undo_9 rfl hl 0 rfl ?_
    refine pj_dup C dd_Md_undo_10 rfl ?_
    refine pj_getI C P 0 (LM0 hB) rfl fl_Md_67 dd_Md_undo_11 ?_
    refine pj_iconst (v := (nI 1)) C dd_Md_undo_14 rfl ?_
    refine pj_isub C dd_Md_undo_15 ?_
    refine pj_putI C P 0 (LM0 hB) rfl fl_Md_67 rfl fy_11_3 h dd_Md_undo_16 (fun H lo z1 h P => ?_)
    refine pj_sipush (v := (nI 196)) C dd_Md_undo_19 rfl ?_
    refine pj_aload_n C dd_Md_undo_22 rfl hl 0 rfl ?_
    refine pj_getI C P 0 (LM0 hB) rfl fl_Md_67 dd_Md_undo_23 ?_
    refine pj_imul C dd_Md_undo_26 ?_
    refine pj_istb_n [(0, .ref (B.2.1 0))] C h dd_Md_undo_27 rfl hl (by decide) rfl (fun x2 ls h hl => ?_)
    refine pj_iconst (v := (nI 0)) C dd_Md_undo_28 rfl ?_
    refine pj_istore_n [(2, .int (nI 0)), (1, .int x2), (0, .ref (B.2.1 0))] C dd_Md_undo_29 rfl hl (by decide) rfl (fun ls hl => ?_)
    exact lt_Md_undo_30 hB C Q 4000 _ _ _ _ _ _ h P (lv_sub hl [2, 1, 0] rfl)
  · refine pj_iconst (v := (nI 0)) C dd_Md_undo_7 rfl ?_
    exact pj_zret C Q P h dd_Md_undo_8
theorem dd_Md_image_0 : pj_d cX11_image 0 (.iload_n 1) 1 1 := ⟨by decide +kernel, rfl⟩
theorem dd_Md_image_1 : pj_dj cX11_image 1 (.ifCond .ne 12) 12 4 13 := ⟨by decide +kernel, rfl, by decide⟩
theorem dd_Md_image_4 : pj_d cX11_image 4 (.aload_n 0) 1 5 := ⟨by decide +kernel, rfl⟩
theorem dd_Md_image_5 : pj_d cX11_image 5 (.getfield 319) 3 8 := ⟨by decide +kernel, rfl⟩
theorem dd_Md_image_8 : pj_dj cX11_image 8 (.ifCond .ne 5) 5 11 13 := ⟨by decide +kernel, rfl, by decide⟩
theorem dd_Md_image_11 : pj_d cX11_image 11 (.iconst 0) 1 12 := ⟨by decide +kernel, rfl⟩
theorem dd_Md_image_12 : pj_d cX11_image 12 (.ireturn) 1 13 := ⟨by decide +kernel, rfl⟩
theorem dd_Md_image_13 : pj_d cX11_image 13 (.iconst 0) 1 14 := ⟨by decide +kernel, rfl⟩
theorem dd_Md_image_14 : pj_d cX11_image 14 (.istore_n 2) 1 15 := ⟨by decide +kernel, rfl⟩
theorem dd_Md_image_15 : pj_d cX11_image 15 (.iload_n 2) 1 16 := ⟨by decide +kernel, rfl⟩
theorem dd_Md_image_16 : pj_d cX11_image 16 (.sipush 1554) 3 19 := ⟨by decide +kernel, rfl⟩
theorem dd_Md_image_19 : pj_dj cX11_image 19 (.if_icmp .ge 40) 40 22 59 := ⟨by decide +kernel, rfl, by decide⟩
theorem dd_Md_image_22 : pj_d cX11_image 22 (.iload_n 1) 1 23 := ⟨by decide +kernel, rfl⟩
theorem dd_Md_image_23 : pj_dj cX11_image 23 (.ifCond .eq 18) 18 26 41 := ⟨by decide +kernel, rfl, by decide⟩
theorem dd_Md_image_26 : pj_d cX11_image 26 (.aload_n 0) 1 27 := ⟨by decide +kernel, rfl⟩
theorem dd_Md_image_27 : pj_d cX11_image 27 (.getfield 13) 3 30 := ⟨by decide +kernel, rfl⟩
theorem dd_Md_image_30 : pj_d cX11_image 30 (.iload_n 2) 1 31 := ⟨by decide +kernel, rfl⟩
theorem dd_Md_image_31 : pj_d cX11_image 31 (.aload_n 0) 1 32 := ⟨by decide +kernel, rfl⟩
theorem dd_Md_image_32 : pj_d cX11_image 32 (.getfield 7) 3 35 := ⟨by decide +kernel, rfl⟩
theorem dd_Md_image_35 : pj_d cX11_image 35 (.iload_n 2) 1 36 := ⟨by decide +kernel, rfl⟩
theorem dd_Md_image_36 : pj_d cX11_image 36 (.iaload) 1 37 := ⟨by decide +kernel, rfl⟩
theorem dd_Md_image_37 : pj_d cX11_image 37 (.iastore) 1 38 := ⟨by decide +kernel, rfl⟩
theorem dd_Md_image_38 : pj_dj cX11_image 38 (.goto 15) 15 41 53 := ⟨by decide +kernel, rfl, by decide⟩
theorem dd_Md_image_41 : pj_d cX11_image 41 (.aload_n 0) 1 42 := ⟨by decide +kernel, rfl⟩
theorem dd_Md_image_42 : pj_d cX11_image 42 (.getfield 7) 3 45 := ⟨by decide +kernel, rfl⟩
theorem dd_Md_image_45 : pj_d cX11_image 45 (.iload_n 2) 1 46 := ⟨by decide +kernel, rfl⟩
theorem dd_Md_image_46 : pj_d cX11_image 46 (.aload_n 0) 1 47 := ⟨by decide +kernel, rfl⟩
theorem dd_Md_image_47 : pj_d cX11_image 47 (.getfield 13) 3 50 := ⟨by decide +kernel, rfl⟩
theorem dd_Md_image_50 : pj_d cX11_image 50 (.iload_n 2) 1 51 := ⟨by decide +kernel, rfl⟩
theorem dd_Md_image_51 : pj_d cX11_image 51 (.iaload) 1 52 := ⟨by decide +kernel, rfl⟩
theorem dd_Md_image_52 : pj_d cX11_image 52 (.iastore) 1 53 := ⟨by decide +kernel, rfl⟩
theorem dd_Md_image_53 : pj_d cX11_image 53 (.iinc 2 1) 3 56 := ⟨by decide +kernel, rfl⟩
theorem dd_Md_image_56 : pj_dj cX11_image 56 (.goto (-41)) (-41) 59 15 := ⟨by decide +kernel, rfl, by decide⟩
theorem dd_Md_image_59 : pj_d cX11_image 59 (.iload_n 1) 1 60 := ⟨by decide +kernel, rfl⟩
theorem dd_Md_image_60 : pj_dj cX11_image 60 (.ifCond .ne 8) 8 63 68 := ⟨by decide +kernel, rfl, by decide⟩
theorem dd_Md_image_63 : pj_d cX11_image 63 (.aload_n 0) 1 64 := ⟨by decide +kernel, rfl⟩
theorem dd_Md_image_64 : pj_d cX11_image 64 (.iconst 0) 1 65 := ⟨by decide +kernel, rfl⟩
theorem dd_Md_image_65 : pj_d cX11_image 65 (.putfield 67) 3 68 := ⟨by decide +kernel, rfl⟩
theorem dd_Md_image_68 : pj_d cX11_image 68 (.aload_n 0) 1 69 := ⟨by decide +kernel, rfl⟩
theorem dd_Md_image_69 : pj_d cX11_image 69 (.iconst 1) 1 70 := ⟨by decide +kernel, rfl⟩
theorem dd_Md_image_70 : pj_d cX11_image 70 (.putfield 319) 3 73 := ⟨by decide +kernel, rfl⟩
theorem dd_Md_image_73 : pj_d cX11_image 73 (.iconst 1) 1 74 := ⟨by decide +kernel, rfl⟩
theorem dd_Md_image_74 : pj_d cX11_image 74 (.ireturn) 1 75 := ⟨by decide +kernel, rfl⟩
set_option maxHeartbeats 4000000 in
set_option maxRecDepth 100000 in
theorem bt_Md_image_53 {B : pj_B} {A : Nat → Prop} {K : pj_K} {r0 : Int32} {z0 : pj_S} (hB : B.2.2.2.1 = pj_LM) (C : pj_C B A K cX11_image 3 RX11 1) (Q : pj_Qi B A K (some .boolean) r0 z0) (s15 : Int32 → Int32 → pj_S → Option (Int32 × pj_S)) (k15 : ∀ (v1 : Int32) (v2 : Int32) (z : pj_S) (H : Heap) (lo : List Loc) (ls : Array Slot), s15 v1 v2 z = some (r0, z0) → pj_P B A K z H lo → lv_has ls 3 [(0, .ref (B.2.1 0)), (1, .int v1), (2, .int v2)] → pj_W K H lo 15 ls []) (v1 : Int32) (v2 : Int32) (z : pj_S) (H : Heap) (lo : List Loc) (ls : Array Slot) (h : Md_image_53 s15 v1 v2 z = some (r0, z0)) (P : pj_P B A K z H lo) (hl : lv_has ls 3 [(0, .ref (B.2.1 0)), (1, .int v1), (2, .int v2)]) : pj_W K H lo 53 ls [] := by
  unfold Md_image_53 at h
  refine pj_iinc (v := (nI 1)) [(0, .ref (B.2.1 0)), (1, .int v1)] C h rfl dd_Md_image_53 hl 2 rfl (by decide) rfl (fun x1 ls h hl => ?_)
  refine pj_goto C dd_Md_image_56 ?_
  exact k15 _ _ _ _ _ _ h P (lv_sub hl [1, 2, 0] rfl)
set_option maxHeartbeats 4000000 in
set_option maxRecDepth 100000 in
theorem bt_Md_image_68 {B : pj_B} {A : Nat → Prop} {K : pj_K} {r0 : Int32} {z0 : pj_S} (hB : B.2.2.2.1 = pj_LM) (C : pj_C B A K cX11_image 3 RX11 1) (Q : pj_Qi B A K (some .boolean) r0 z0)   (z : pj_S) (H : Heap) (lo : List Loc) (ls : Array Slot) (h : Md_image_68 z = some (r0, z0)) (P : pj_P B A K z H lo) (hl : lv_has ls 3 [(0, .ref (B.2.1 0))]) : pj_W K H lo 68 ls [] := by
  unfold Md_image_68 at h
  refine pj_aload_n C dd_Md_image_68 rfl hl 0 rfl ?_
  refine pj_iconst (v := (nI 1)) C dd_Md_image_69 rfl ?_
  refine pj_putZ C P 0 (LM0 hB) rfl fl_Md_319 rfl fy_11_4 h dd_Md_image_70 (fun H lo z1 h P => ?_)
  refine pj_iconst (v := (nI 1)) C dd_Md_image_73 rfl ?_
  exact pj_zret C Q P h dd_Md_image_74
set_option maxHeartbeats 4000000 in
set_option maxRecDepth 100000 in
theorem bt_Md_image_59 {B : pj_B} {A : Nat → Prop} {K : pj_K} {r0 : Int32} {z0 : pj_S} (hB : B.2.2.2.1 = pj_LM) (C : pj_C B A K cX11_image 3 RX11 1) (Q : pj_Qi B A K (some .boolean) r0 z0)  (v1 : Int32) (z : pj_S) (H : Heap) (lo : List Loc) (ls : Array Slot) (h : Md_image_59 v1 z = some (r0, z0)) (P : pj_P B A K z H lo) (hl : lv_has ls 3 [(0, .ref (B.2.1 0)), (1, .int v1)]) : pj_W K H lo 59 ls [] := by
  unfold Md_image_59 at h
  refine pj_iload_n C dd_Md_image_59 rfl hl 1 rfl ?_
  refine pj_if_ne C h dd_Md_image_60 (fun h => ?_) (fun h => ?_)
  · exact bt_Md_image_68 hB C Q _ _ _ _ h P (lv_sub hl [0] rfl)
  · refine pj_aload_n C dd_Md_image_63 rfl hl 0 rfl ?_
    refine pj_iconst (v := (nI 0)) C dd_Md_image_64 rfl ?_
    refine pj_putI C P 0 (LM0 hB) rfl fl_Md_67 rfl fy_11_3 h dd_Md_image_65 (fun H lo z1 h P => ?_)
    exact bt_Md_image_68 hB C Q _ _ _ _ h P (lv_sub hl [0] rfl)
set_option maxHeartbeats 4000000 in
set_option maxRecDepth 100000 in
theorem bt_Md_image_15 {B : pj_B} {A : Nat → Prop} {K : pj_K} {r0 : Int32} {z0 : pj_S} (hB : B.2.2.2.1 = pj_LM) (C : pj_C B A K cX11_image 3 RX11 1) (Q : pj_Qi B A K (some .boolean) r0 z0) (s15 : Int32 → Int32 → pj_S → Option (Int32 × pj_S)) (k15 : ∀ (v1 : Int32) (v2 : Int32) (z : pj_S) (H : Heap) (lo : List Loc) (ls : Array Slot), s15 v1 v2 z = some (r0, z0) → pj_P B A K z H lo → lv_has ls 3 [(0, .ref (B.2.1 0)), (1, .int v1), (2, .int v2)] → pj_W K H lo 15 ls []) (v1 : Int32) (v2 : Int32) (z : pj_S) (H : Heap) (lo : List Loc) (ls : Array Slot) (h : Md_image_15 s15 v1 v2 z = some (r0, z0)) (P : pj_P B A K z H lo) (hl : lv_has ls 3 [(0, .ref (B.2.1 0)), (1, .int v1), (2, .int v2)]) : pj_W K H lo 15 ls [] := by
  unfold Md_image_15 at h
  refine pj_iload_n C dd_Md_image_15 rfl hl 2 rfl ?_
  refine pj_sipush (v := (nI 1554)) C dd_Md_image_16 rfl ?_
  refine pj_ic_ge C h dd_Md_image_19 (fun h => ?_) (fun h => ?_)
  · exact bt_Md_image_59 hB C Q _ _ _ _ _ h P (lv_sub hl [0, 1] rfl)
  · refine pj_iload_n C dd_Md_image_22 rfl hl 1 rfl ?_
    refine pj_if_eq C h dd_Md_image_23 (fun h => ?_) (fun h => ?_)
    · refine pj_aload_n C dd_Md_image_41 rfl hl 0 rfl ?_
      refine pj_getR C P 0 (LM0 hB) rfl fl_Md_7 dd_Md_image_42 ?_
      refine pj_iload_n C dd_Md_image_45 rfl hl 2 rfl ?_
      refine pj_aload_n C dd_Md_image_46 rfl hl 0 rfl ?_
      refine pj_getR C P 0 (LM0 hB) rfl fl_Md_13 dd_Md_image_47 ?_
      refine pj_iload_n C dd_Md_image_50 rfl hl 2 rfl ?_
      refine pj_iald C P 2 (LM2 hB) h dd_Md_image_51 (fun h => ?_)
      refine pj_iast C P 1 (LM1 hB) h dd_Md_image_52 (fun H lo z1 h P => ?_)
      exact bt_Md_image_53 hB C Q s15 k15 _ _ _ _ _ _ h P (lv_sub hl [0, 1, 2] rfl)
    · refine pj_aload_n C dd_Md_image_26 rfl hl 0 rfl ?_
      refine pj_getR C P 0 (LM0 hB) rfl fl_Md_13 dd_Md_image_27 ?_
      refine pj_iload_n C dd_Md_image_30 rfl hl 2 rfl ?_
      refine pj_aload_n C dd_Md_image_31 rfl hl 0 rfl ?_
      refine pj_getR C P 0 (LM0 hB) rfl fl_Md_7 dd_Md_image_32 ?_
      refine pj_iload_n C dd_Md_image_35 rfl hl 2 rfl ?_
      refine pj_iald C P 1 (LM1 hB) h dd_Md_image_36 (fun h => ?_)
      refine pj_iast C P 2 (LM2 hB) h dd_Md_image_37 (fun H lo z2 h P => ?_)
      refine pj_goto C dd_Md_image_38 ?_
      exact bt_Md_image_53 hB C Q s15 k15 _ _ _ _ _ _ h P (lv_sub hl [0, 1, 2] rfl)
theorem lt_Md_image_15 {B : pj_B} {A : Nat → Prop} {K : pj_K} {r0 : Int32} {z0 : pj_S} (hB : B.2.2.2.1 = pj_LM) (C : pj_C B A K cX11_image 3 RX11 1) (Q : pj_Qi B A K (some .boolean) r0 z0)  : ∀ (n : Nat) (v1 : Int32) (v2 : Int32) (z : pj_S) (H : Heap) (lo : List Loc) (ls : Array Slot), pj_lp2 Md_image_15 n v1 v2 z = some (r0, z0) → pj_P B A K z H lo → lv_has ls 3 [(0, .ref (B.2.1 0)), (1, .int v1), (2, .int v2)] → pj_W K H lo 15 ls [] := by
  intro n
  induction n with
  | zero => intro v1 v2 z H lo ls h; rw [pj_lp2_0] at h; cases h
  | succ n ih =>
    intro v1 v2 z H lo ls h P hl
    rw [pj_lp2_s] at h
    exact bt_Md_image_15 hB C Q   (pj_lp2 Md_image_15 n) ih v1 v2 z H lo ls h P hl
set_option maxHeartbeats 4000000 in
set_option maxRecDepth 100000 in
theorem bt_Md_image_13 {B : pj_B} {A : Nat → Prop} {K : pj_K} {r0 : Int32} {z0 : pj_S} (hB : B.2.2.2.1 = pj_LM) (C : pj_C B A K cX11_image 3 RX11 1) (Q : pj_Qi B A K (some .boolean) r0 z0)  (v1 : Int32) (z : pj_S) (H : Heap) (lo : List Loc) (ls : Array Slot) (h : Md_image_13 v1 z = some (r0, z0)) (P : pj_P B A K z H lo) (hl : lv_has ls 3 [(0, .ref (B.2.1 0)), (1, .int v1)]) : pj_W K H lo 13 ls [] := by
  unfold Md_image_13 at h
  refine pj_iconst (v := (nI 0)) C dd_Md_image_13 rfl ?_
  refine pj_istore_n [(2, .int (nI 0)), (0, .ref (B.2.1 0)), (1, .int v1)] C dd_Md_image_14 rfl hl (by decide) rfl (fun ls hl => ?_)
  exact lt_Md_image_15 hB C Q 4000 _ _ _ _ _ _ h P (lv_sub hl [1, 2, 0] rfl)
set_option maxHeartbeats 4000000 in
set_option maxRecDepth 100000 in
theorem ct_Md_image {l : Launch} {B : pj_B} (hB : B.2.2.2.1 = pj_LM) {v1 : Int32} {z : pj_S} {r0 : Int32} {z0 : pj_S} (h : Md_image v1 z = some (r0, z0)) : pj_Mi l yX11_image cX11_image 3 (some .boolean) 1 [.ref (B.2.1 0), .int v1] B z r0 z0 := by
  refine pj_meti (own := RX11) (by decide +kernel) rfl (Nat.le_of_ble_eq_true rfl) ?_
  intro A K hK C Q H lo ls P hl
  have hl : lv_has ls 3 [(0, .ref (B.2.1 0)), (1, .int v1)] := hl
  unfold Md_image at h
  refine pj_iload_n C dd_Md_image_0 rfl hl 1 rfl ?_
  refine pj_if_ne C h dd_Md_image_1 (fun h => ?_) (fun h => ?_)
  · exact bt_Md_image_13 hB C Q _ _ _ _ _ h P (lv_sub hl [0, 1] rfl)
  · refine pj_aload_n C dd_Md_image_4 rfl hl 0 rfl ?_
    refine pj_getI C P 0 (LM0 hB) rfl fl_Md_319 dd_Md_image_5 ?_
    refine pj_if_ne C h dd_Md_image_8 (fun h => ?_) (fun h => ?_)
    · exact bt_Md_image_13 hB C Q _ _ _ _ _ h P (lv_sub hl [0, 1] rfl)
    · refine pj_iconst (v := (nI 0)) C dd_Md_image_11 rfl ?_
      exact pj_zret C Q P h dd_Md_image_12
