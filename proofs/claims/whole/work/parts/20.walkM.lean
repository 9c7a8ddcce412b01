theorem dd_Md_comesTo_0 : pj_d cX11_comesTo 0 (.iconst 0) 1 1 := ⟨by decide +kernel, rfl⟩
theorem dd_Md_comesTo_1 : pj_d cX11_comesTo 1 (.istore_n 3) 1 2 := ⟨by decide +kernel, rfl⟩
theorem dd_Md_comesTo_2 : pj_d cX11_comesTo 2 (.iload_n 1) 1 3 := ⟨by decide +kernel, rfl⟩
theorem dd_Md_comesTo_3 : pj_d cX11_comesTo 3 (.istore 4) 2 5 := ⟨by decide +kernel, rfl⟩
theorem dd_Md_comesTo_5 : pj_d cX11_comesTo 5 (.iload 4) 2 7 := ⟨by decide +kernel, rfl⟩
theorem dd_Md_comesTo_7 : pj_d cX11_comesTo 7 (.iload_n 2) 1 8 := ⟨by decide +kernel, rfl⟩
theorem dd_Md_comesTo_8 : pj_dj cX11_comesTo 8 (.if_icmp .ge 158) 158 11 166 := ⟨by decide +kernel, rfl, by decide⟩
theorem dd_Md_comesTo_11 : pj_d cX11_comesTo 11 (.aload_n 0) 1 12 := ⟨by decide +kernel, rfl⟩
theorem dd_Md_comesTo_12 : pj_d cX11_comesTo 12 (.getfield 7) 3 15 := ⟨by decide +kernel, rfl⟩
theorem dd_Md_comesTo_15 : pj_d cX11_comesTo 15 (.sipush 670) 3 18 := ⟨by decide +kernel, rfl⟩
theorem dd_Md_comesTo_18 : pj_d cX11_comesTo 18 (.iconst 2) 1 19 := ⟨by decide +kernel, rfl⟩
theorem dd_Md_comesTo_19 : pj_d cX11_comesTo 19 (.iload 4) 2 21 := ⟨by decide +kernel, rfl⟩
theorem dd_Md_comesTo_21 : pj_d cX11_comesTo 21 (.imul) 1 22 := ⟨by decide +kernel, rfl⟩
theorem dd_Md_comesTo_22 : pj_d cX11_comesTo 22 (.iadd) 1 23 := ⟨by decide +kernel, rfl⟩
theorem dd_Md_comesTo_23 : pj_d cX11_comesTo 23 (.iaload) 1 24 := ⟨by decide +kernel, rfl⟩
theorem dd_Md_comesTo_24 : pj_d cX11_comesTo 24 (.istore 5) 2 26 := ⟨by decide +kernel, rfl⟩
theorem dd_Md_comesTo_26 : pj_d cX11_comesTo 26 (.aload_n 0) 1 27 := ⟨by decide +kernel, rfl⟩
theorem dd_Md_comesTo_27 : pj_d cX11_comesTo 27 (.getfield 7) 3 30 := ⟨by decide +kernel, rfl⟩
theorem dd_Md_comesTo_30 : pj_d cX11_comesTo 30 (.sipush 670) 3 33 := ⟨by decide +kernel, rfl⟩
theorem dd_Md_comesTo_33 : pj_d cX11_comesTo 33 (.iconst 2) 1 34 := ⟨by decide +kernel, rfl⟩
theorem dd_Md_comesTo_34 : pj_d cX11_comesTo 34 (.iload 4) 2 36 := ⟨by decide +kernel, rfl⟩
theorem dd_Md_comesTo_36 : pj_d cX11_comesTo 36 (.imul) 1 37 := ⟨by decide +kernel, rfl⟩
theorem dd_Md_comesTo_37 : pj_d cX11_comesTo 37 (.iadd) 1 38 := ⟨by decide +kernel, rfl⟩
theorem dd_Md_comesTo_38 : pj_d cX11_comesTo 38 (.iconst 1) 1 39 := ⟨by decide +kernel, rfl⟩
theorem dd_Md_comesTo_39 : pj_d cX11_comesTo 39 (.iadd) 1 40 := ⟨by decide +kernel, rfl⟩
theorem dd_Md_comesTo_40 : pj_d cX11_comesTo 40 (.iaload) 1 41 := ⟨by decide +kernel, rfl⟩
theorem dd_Md_comesTo_41 : pj_d cX11_comesTo 41 (.istore 6) 2 43 := ⟨by decide +kernel, rfl⟩
theorem dd_Md_comesTo_43 : pj_d cX11_comesTo 43 (.iload 5) 2 45 := ⟨by decide +kernel, rfl⟩
theorem dd_Md_comesTo_45 : pj_d cX11_comesTo 45 (.bipush 13) 2 47 := ⟨by decide +kernel, rfl⟩
theorem dd_Md_comesTo_47 : pj_dj cX11_comesTo 47 (.if_icmp .ge 32) 32 50 79 := ⟨by decide +kernel, rfl, by decide⟩
theorem dd_Md_comesTo_50 : pj_d cX11_comesTo 50 (.aload_n 0) 1 51 := ⟨by decide +kernel, rfl⟩
theorem dd_Md_comesTo_51 : pj_d cX11_comesTo 51 (.getfield 28) 3 54 := ⟨by decide +kernel, rfl⟩
theorem dd_Md_comesTo_54 : pj_d cX11_comesTo 54 (.iload_n 3) 1 55 := ⟨by decide +kernel, rfl⟩
theorem dd_Md_comesTo_55 : pj_d cX11_comesTo 55 (.iload 5) 2 57 := ⟨by decide +kernel, rfl⟩
theorem dd_Md_comesTo_57 : pj_dj cX11_comesTo 57 (.ifCond .ne 8) 8 60 65 := ⟨by decide +kernel, rfl, by decide⟩
theorem dd_Md_comesTo_60 : pj_d cX11_comesTo 60 (.iload 6) 2 62 := ⟨by decide +kernel, rfl⟩
theorem dd_Md_comesTo_62 : pj_dj cX11_comesTo 62 (.goto 10) 10 65 72 := ⟨by decide +kernel, rfl, by decide⟩
theorem dd_Md_comesTo_65 : pj_d cX11_comesTo 65 (.aload_n 0) 1 66 := ⟨by decide +kernel, rfl⟩
theorem dd_Md_comesTo_66 : pj_d cX11_comesTo 66 (.getfield 31) 3 69 := ⟨by decide +kernel, rfl⟩
theorem dd_Md_comesTo_69 : pj_d cX11_comesTo 69 (.iload 5) 2 71 := ⟨by decide +kernel, rfl⟩
theorem dd_Md_comesTo_71 : pj_d cX11_comesTo 71 (.iaload) 1 72 := ⟨by decide +kernel, rfl⟩
theorem dd_Md_comesTo_72 : pj_d cX11_comesTo 72 (.iastore) 1 73 := ⟨by decide +kernel, rfl⟩
theorem dd_Md_comesTo_73 : pj_d cX11_comesTo 73 (.iinc 3 1) 3 76 := ⟨by decide +kernel, rfl⟩
theorem dd_Md_comesTo_76 : pj_dj cX11_comesTo 76 (.goto 84) 84 79 160 := ⟨by decide +kernel, rfl, by decide⟩
theorem dd_Md_comesTo_79 : pj_d cX11_comesTo 79 (.iload 5) 2 81 := ⟨by decide +kernel, rfl⟩
theorem dd_Md_comesTo_81 : pj_d cX11_comesTo 81 (.bipush 16) 2 83 := ⟨by decide +kernel, rfl⟩
theorem dd_Md_comesTo_83 : pj_dj cX11_comesTo 83 (.if_icmp .ne 19) 19 86 102 := ⟨by decide +kernel, rfl, by decide⟩
theorem dd_Md_comesTo_86 : pj_d cX11_comesTo 86 (.aload_n 0) 1 87 := ⟨by decide +kernel, rfl⟩
theorem dd_Md_comesTo_87 : pj_d cX11_comesTo 87 (.getfield 28) 3 90 := ⟨by decide +kernel, rfl⟩
theorem dd_Md_comesTo_90 : pj_d cX11_comesTo 90 (.iload_n 3) 1 91 := ⟨by decide +kernel, rfl⟩
theorem dd_Md_comesTo_91 : pj_d cX11_comesTo 91 (.iconst 1) 1 92 := ⟨by decide +kernel, rfl⟩
theorem dd_Md_comesTo_92 : pj_d cX11_comesTo 92 (.isub) 1 93 := ⟨by decide +kernel, rfl⟩
theorem dd_Md_comesTo_93 : pj_d cX11_comesTo 93 (.dup2) 1 94 := ⟨by decide +kernel, rfl⟩
theorem dd_Md_comesTo_94 : pj_d cX11_comesTo 94 (.iaload) 1 95 := ⟨by decide +kernel, rfl⟩
theorem dd_Md_comesTo_95 : pj_d cX11_comesTo 95 (.iload 6) 2 97 := ⟨by decide +kernel, rfl⟩
theorem dd_Md_comesTo_97 : pj_d cX11_comesTo 97 (.idiv) 1 98 := ⟨by decide +kernel, rfl⟩
theorem dd_Md_comesTo_98 : pj_d cX11_comesTo 98 (.iastore) 1 99 := ⟨by decide +kernel, rfl⟩
theorem dd_Md_comesTo_99 : pj_dj cX11_comesTo 99 (.goto 61) 61 102 160 := ⟨by decide +kernel, rfl, by decide⟩
theorem dd_Md_comesTo_102 : pj_d cX11_comesTo 102 (.iload 5) 2 104 := ⟨by decide +kernel, rfl⟩
theorem dd_Md_comesTo_104 : pj_d cX11_comesTo 104 (.bipush 20) 2 106 := ⟨by decide +kernel, rfl⟩
theorem dd_Md_comesTo_106 : pj_dj cX11_comesTo 106 (.if_icmp .ne 24) 24 109 130 := ⟨by decide +kernel, rfl, by decide⟩
theorem dd_Md_comesTo_109 : pj_d cX11_comesTo 109 (.aload_n 0) 1 110 := ⟨by decide +kernel, rfl⟩
theorem dd_Md_comesTo_110 : pj_d cX11_comesTo 110 (.getfield 28) 3 113 := ⟨by decide +kernel, rfl⟩
theorem dd_Md_comesTo_113 : pj_d cX11_comesTo 113 (.iload_n 3) 1 114 := ⟨by decide +kernel, rfl⟩
theorem dd_Md_comesTo_114 : pj_d cX11_comesTo 114 (.iconst 1) 1 115 := ⟨by decide +kernel, rfl⟩
theorem dd_Md_comesTo_115 : pj_d cX11_comesTo 115 (.isub) 1 116 := ⟨by decide +kernel, rfl⟩
theorem dd_Md_comesTo_116 : pj_d cX11_comesTo 116 (.iconst 1) 1 117 := ⟨by decide +kernel, rfl⟩
theorem dd_Md_comesTo_117 : pj_d cX11_comesTo 117 (.aload_n 0) 1 118 := ⟨by decide +kernel, rfl⟩
theorem dd_Md_comesTo_118 : pj_d cX11_comesTo 118 (.getfield 28) 3 121 := ⟨by decide +kernel, rfl⟩
theorem dd_Md_comesTo_121 : pj_d cX11_comesTo 121 (.iload_n 3) 1 122 := ⟨by decide +kernel, rfl⟩
theorem dd_Md_comesTo_122 : pj_d cX11_comesTo 122 (.iconst 1) 1 123 := ⟨by decide +kernel, rfl⟩
theorem dd_Md_comesTo_123 : pj_d cX11_comesTo 123 (.isub) 1 124 := ⟨by decide +kernel, rfl⟩
theorem dd_Md_comesTo_124 : pj_d cX11_comesTo 124 (.iaload) 1 125 := ⟨by decide +kernel, rfl⟩
theorem dd_Md_comesTo_125 : pj_d cX11_comesTo 125 (.isub) 1 126 := ⟨by decide +kernel, rfl⟩
theorem dd_Md_comesTo_126 : pj_d cX11_comesTo 126 (.iastore) 1 127 := ⟨by decide +kernel, rfl⟩
theorem dd_Md_comesTo_127 : pj_dj cX11_comesTo 127 (.goto 33) 33 130 160 := ⟨by decide +kernel, rfl, by decide⟩
theorem dd_Md_comesTo_130 : pj_d cX11_comesTo 130 (.iinc 3 (-1)) 3 133 := ⟨by decide +kernel, rfl⟩
theorem dd_Md_comesTo_133 : pj_d cX11_comesTo 133 (.aload_n 0) 1 134 := ⟨by decide +kernel, rfl⟩
theorem dd_Md_comesTo_134 : pj_d cX11_comesTo 134 (.getfield 28) 3 137 := ⟨by decide +kernel, rfl⟩
theorem dd_Md_comesTo_137 : pj_d cX11_comesTo 137 (.iload_n 3) 1 138 := ⟨by decide +kernel, rfl⟩
theorem dd_Md_comesTo_138 : pj_d cX11_comesTo 138 (.iconst 1) 1 139 := ⟨by decide +kernel, rfl⟩
theorem dd_Md_comesTo_139 : pj_d cX11_comesTo 139 (.isub) 1 140 := ⟨by decide +kernel, rfl⟩
theorem dd_Md_comesTo_140 : pj_d cX11_comesTo 140 (.iload 5) 2 142 := ⟨by decide +kernel, rfl⟩
theorem dd_Md_comesTo_142 : pj_d cX11_comesTo 142 (.aload_n 0) 1 143 := ⟨by decide +kernel, rfl⟩
theorem dd_Md_comesTo_143 : pj_d cX11_comesTo 143 (.getfield 28) 3 146 := ⟨by decide +kernel, rfl⟩
theorem dd_Md_comesTo_146 : pj_d cX11_comesTo 146 (.iload_n 3) 1 147 := ⟨by decide +kernel, rfl⟩
theorem dd_Md_comesTo_147 : pj_d cX11_comesTo 147 (.iconst 1) 1 148 := ⟨by decide +kernel, rfl⟩
theorem dd_Md_comesTo_148 : pj_d cX11_comesTo 148 (.isub) 1 149 := ⟨by decide +kernel, rfl⟩
theorem dd_Md_comesTo_149 : pj_d cX11_comesTo 149 (.iaload) 1 150 := ⟨by decide +kernel, rfl⟩
theorem dd_Md_comesTo_150 : pj_d cX11_comesTo 150 (.aload_n 0) 1 151 := ⟨by decide +kernel, rfl⟩
theorem dd_Md_comesTo_151 : pj_d cX11_comesTo 151 (.getfield 28) 3 154 := ⟨by decide +kernel, rfl⟩
theorem dd_Md_comesTo_154 : pj_d cX11_comesTo 154 (.iload_n 3) 1 155 := ⟨by decide +kernel, rfl⟩
theorem dd_Md_comesTo_155 : pj_d cX11_comesTo 155 (.iaload) 1 156 := ⟨by decide +kernel, rfl⟩
theorem dd_Md_comesTo_156 : pj_d cX11_comesTo 156 (.invokestatic 204) 3 159 := ⟨by decide +kernel, rfl⟩
theorem dd_Md_comesTo_159 : pj_d cX11_comesTo 159 (.iastore) 1 160 := ⟨by decide +kernel, rfl⟩
theorem dd_Md_comesTo_160 : pj_d cX11_comesTo 160 (.iinc 4 1) 3 163 := ⟨by decide +kernel, rfl⟩
theorem dd_Md_comesTo_163 : pj_dj cX11_comesTo 163 (.goto (-158)) (-158) 166 5 := ⟨by decide +kernel, rfl, by decide⟩
theorem dd_Md_comesTo_166 : pj_d cX11_comesTo 166 (.aload_n 0) 1 167 := ⟨by decide +kernel, rfl⟩
theorem dd_Md_comesTo_167 : pj_d cX11_comesTo 167 (.getfield 28) 3 170 := ⟨by decide +kernel, rfl⟩
theorem dd_Md_comesTo_170 : pj_d cX11_comesTo 170 (.iconst 0) 1 171 := ⟨by decide +kernel, rfl⟩
theorem dd_Md_comesTo_171 : pj_d cX11_comesTo 171 (.iaload) 1 172 := ⟨by decide +kernel, rfl⟩
theorem dd_Md_comesTo_172 : pj_d cX11_comesTo 172 (.ireturn) 1 173 := ⟨by decide +kernel, rfl⟩
set_option maxHeartbeats 4000000 in
set_option maxRecDepth 100000 in
theorem bt_Md_comesTo_160 {B : pj_B} {A : Nat → Prop} {K : pj_K} {r0 : Int32} {z0 : pj_S} (hB : B.2.2.2.1 = pj_LM) (C : pj_C B A K cX11_comesTo 7 RX11 2) (Q : pj_Qi B A K (some .int) r0 z0) (s5 : Int32 → Int32 → Int32 → pj_S → Option (Int32 × pj_S)) (k5 : ∀ (v2 : Int32) (v3 : Int32) (v4 : Int32) (z : pj_S) (H : Heap) (lo : List Loc) (ls : Array Slot), s5 v2 v3 v4 z = some (r0, z0) → pj_P B A K z H lo → lv_has ls 7 [(0, .ref (B.2.1 0)), (2, .int v2), (3, .int v3), (4, .int v4)] → pj_W K H lo 5 ls []) (v2 : Int32) (v3 : Int32) (v4 : Int32) (z : pj_S) (H : Heap) (lo : List Loc) (ls : Array Slot) (h : Md_comesTo_160 s5 v2 v3 v4 z = some (r0, z0)) (P : pj_P B A K z H lo) (hl : lv_has ls 7 [(0, .ref (B.2.1 0)), (2, .int v2), (3, .int v3), (4, .int v4)]) : pj_W K H lo 160 ls [] := by
  unfold Md_comesTo_160 at h
  refine pj_iinc (v := (nI 1)) [(0, .ref (B.2.1 0)), (2, .int v2), (3, .int v3)] C h rfl dd_Md_comesTo_160 hl 3 rfl (by decide) rfl (fun x1 ls h hl => ?_)
  refine pj_goto C dd_Md_comesTo_163 ?_
  exact k5 _ _ _ _ _ _ _ h P (lv_sub hl [1, 2, 3, 0] rfl)
set_option maxHeartbeats 4000000 in
set_option maxRecDepth 100000 in
theorem bt_Md_comesTo_72 {B : pj_B} {A : Nat → Prop} {K : pj_K} {r0 : Int32} {z0 : pj_S} (hB : B.2.2.2.1 = pj_LM) (C : pj_C B A K cX11_comesTo 7 RX11 2) (Q : pj_Qi B A K (some .int) r0 z0) (s5 : Int32 → Int32 → Int32 → pj_S → Option (Int32 × pj_S)) (k5 : ∀ (v2 : Int32) (v3 : Int32) (v4 : Int32) (z : pj_S) (H : Heap) (lo : List Loc) (ls : Array Slot), s5 v2 v3 v4 z = some (r0, z0) → pj_P B A K z H lo → lv_has ls 7 [(0, .ref (B.2.1 0)), (2, .int v2), (3, .int v3), (4, .int v4)] → pj_W K H lo 5 ls []) (v2 : Int32) (v3 : Int32) (v4 : Int32) (t0 : Int32) (t1 : Int32) (z : pj_S) (H : Heap) (lo : List Loc) (ls : Array Slot) (h : Md_comesTo_72 s5 v2 v3 v4 t0 t1 z = some (r0, z0)) (P : pj_P B A K z H lo) (hl : lv_has ls 7 [(0, .ref (B.2.1 0)), (2, .int v2), (3, .int v3), (4, .int v4)]) : pj_W K H lo 72 ls [.int t0, .int t1, .ref (B.2.1 7)] := by
  unfold Md_comesTo_72 at h
  refine pj_iast C P 7 (LM7 hB) h dd_Md_comesTo_72 (fun H lo z1 h P => ?_)
  refine pj_iinc (v := (nI 1)) [(0, .ref (B.2.1 0)), (2, .int v2), (4, .int v4)] C h rfl dd_Md_comesTo_73 hl 2 rfl (by decide) rfl (fun x2 ls h hl => ?_)
  refine pj_goto C dd_Md_comesTo_76 ?_
  exact bt_Md_comesTo_160 hB C Q s5 k5 _ _ _ _ _ _ _ h P (lv_sub hl [1, 2, 0, 3] rfl)
set_option maxHeartbeats 4000000 in
set_option maxRecDepth 100000 in
theorem bt_Md_comesTo_166 {B : pj_B} {A : Nat → Prop} {K : pj_K} {r0 : Int32} {z0 : pj_S} (hB : B.2.2.2.1 = pj_LM) (C : pj_C B A K cX11_comesTo 7 RX11 2) (Q : pj_Qi B A K (some .int) r0 z0)   (z : pj_S) (H : Heap) (lo : List Loc) (ls : Array Slot) (h : Md_comesTo_166 z = some (r0, z0)) (P : pj_P B A K z H lo) (hl : lv_has ls 7 [(0, .ref (B.2.1 0))]) : pj_W K H lo 166 ls [] := by
  unfold Md_comesTo_166 at h
  refine pj_aload_n C dd_Md_comesTo_166 rfl hl 0 rfl ?_
  refine pj_getR C P 0 (LM0 hB) rfl fl_Md_28 dd_Md_comesTo_167 ?_
  refine pj_iconst (v := (nI 0)) C dd_Md_comesTo_170 rfl ?_
  refine pj_iald C P 7 (LM7 hB) h dd_Md_comesTo_171 (fun h => ?_)
  exact pj_iret C Q P h dd_Md_comesTo_172
set_option maxHeartbeats 4000000 in
set_option maxRecDepth 100000 in
theorem bt_Md_comesTo_5 {B : pj_B} {A : Nat → Prop} {K : pj_K} {r0 : Int32} {z0 : pj_S} (hB : B.2.2.2.1 = pj_LM) (C : pj_C B A K cX11_comesTo 7 RX11 2) (Q : pj_Qi B A K (some .int) r0 z0) (s5 : Int32 → Int32 → Int32 → pj_S → Option (Int32 × pj_S)) (k5 : ∀ (v2 : Int32) (v3 : Int32) (v4 : Int32) (z : pj_S) (H : Heap) (lo : List Loc) (ls : Array Slot), s5 v2 v3 v4 z = some (r0, z0) → pj_P B A K z H lo → lv_has ls 7 [(0, .ref (B.2.1 0)), (2, .int v2), (3, .int v3), (4, .int v4)] → pj_W K H lo 5 ls []) (v2 : Int32) (v3 : Int32) (v4 : Int32) (z : pj_S) (H : Heap) (lo : List Loc) (ls : Array Slot) (h : Md_comesTo_5 s5 v2 v3 v4 z = some (r0, z0)) (P : pj_P B A K z H lo) (hl : lv_has ls 7 [(0, .ref (B.2.1 0)), (2, .int v2), (3, .int v3), (4, .int v4)]) : pj_W K H lo 5 ls [] := by
  unfold Md_comesTo_5 at h
  refine pj_iload C dd_Md_comesTo_5 hl 3 rfl ?_
  refine pj_iload_n C dd_Md_comesTo_7 rfl hl 1 rfl ?_
  refine pj_ic_ge C h dd_Md_comesTo_8 (fun h => ?_) (fun h => ?_)
  · exact bt_Md_comesTo_166 hB C Q _ _ _ _ h P (lv_sub hl [0] rfl)
  · refine pj_aload_n C dd_Md_comesTo_11 rfl hl 0 rfl ?_
    refine pj_getR C P 0 (LM0 hB) rfl fl_Md_7 dd_Md_comesTo_12 ?_
    refine pj_sipush (v := (nI 670)) C dd_Md_comesTo_15 rfl ?_
    refine pj_iconst (v := (nI 2)) C dd_Md_comesTo_18 rfl ?_
    refine pj_iload C dd_Md_comesTo_19 hl 3 rfl ?_
    refine pj_imul C dd_Md_comesTo_21 ?_
    refine pj_iadd C dd_Md_comesTo_22 ?_
    refine pj_iald C P 1 (LM1 hB) h dd_Md_comesTo_23 (fun h => ?_)
    refine pj_istb [(0, .ref (B.2.1 0)), (2, .int v2), (3, .int v3), (4, .int v4)] C h dd_Md_comesTo_24 hl (by decide) rfl (fun x1 ls h hl => ?_)
    refine pj_aload_n C dd_Md_comesTo_26 rfl hl 1 rfl ?_
    refine pj_getR C P 0 (LM0 hB) rfl fl_Md_7 dd_Md_comesTo_27 ?_
    refine pj_sipush (v := (nI 670)) C dd_Md_comesTo_30 rfl ?_
    refine pj_iconst (v := (nI 2)) C dd_Md_comesTo_33 rfl ?_
    refine pj_iload C dd_Md_comesTo_34 hl 4 rfl ?_
    refine pj_imul C dd_Md_comesTo_36 ?_
    refine pj_iadd C dd_Md_comesTo_37 ?_
    refine pj_iconst (v := (nI 1)) C dd_Md_comesTo_38 rfl ?_
    refine pj_iadd C dd_Md_comesTo_39 ?_
    refine pj_iald C P 1 (LM1 hB) h dd_Md_comesTo_40 (fun h => ?_)
    refine pj_istb [(5, .int x1), (0, .ref (B.2.1 0)), (2, .int v2), (3, .int v3), (4, .int v4)] C h dd_Md_comesTo_41 hl (by decide) rfl (fun x2 ls h hl => ?_)
    refine pj_iload C dd_Md_comesTo_43 hl 1 rfl ?_
    refine pj_bipush (v := (nI 13)) C dd_Md_comesTo_45 rfl ?_
    refine pj_ic_ge C h dd_Md_comesTo_47 (fun h => ?_) (fun h => ?_)
    · refine pj_iload C dd_Md_comesTo_79 hl 1 rfl ?_
      refine pj_bipush (v := (nI 16)) C dd_Md_comesTo_81 rfl ?_
      refine pj_ic_ne C h dd_Md_comesTo_83 (fun h => ?_) (fun h => ?_)
      · refine pj_iload C dd_Md_comesTo_102 hl 1 rfl ?_
        refine pj_bipush (v := (nI 20)) C dd_Md_comesTo_104 rfl ?_
        refine pj_ic_ne C h dd_Md_comesTo_106 (fun h => ?_) (fun h => ?_)
        · refine pj_iinc (v := (-1 : Int32)) [(6, .int x2), (5, .int x1), (0, .ref (B.2.1 0)), (2, .int v2), (4, .int v4)] C h rfl dd_Md_comesTo_130 hl 4 rfl (by decide) rfl (fun x3 ls h hl => ?_)
          refine pj_aload_n C dd_Md_comesTo_133 rfl hl 3 rfl ?_
          refine pj_getR C P 0 (LM0 hB) rfl fl_Md_28 dd_Md_comesTo_134 ?_
          refine pj_iload_n C dd_Md_comesTo_137 rfl hl 0 rfl ?_
          refine pj_iconst (v := (nI 1)) C dd_Md_comesTo_138 rfl ?_
          refine pj_isub C dd_Md_comesTo_139 ?_
          refine pj_iload C dd_Md_comesTo_140 hl 2 rfl ?_
          refine pj_aload_n C dd_Md_comesTo_142 rfl hl 3 rfl ?_
          refine pj_getR C P 0 (LM0 hB) rfl fl_Md_28 dd_Md_comesTo_143 ?_
          refine pj_iload_n C dd_Md_comesTo_146 rfl hl 0 rfl ?_
          refine pj_iconst (v := (nI 1)) C dd_Md_comesTo_147 rfl ?_
          refine pj_isub C dd_Md_comesTo_148 ?_
          refine pj_iald C P 7 (LM7 hB) h dd_Md_comesTo_149 (fun h => ?_)
          refine pj_aload_n C dd_Md_comesTo_150 rfl hl 3 rfl ?_
          refine pj_getR C P 0 (LM0 hB) rfl fl_Md_28 dd_Md_comesTo_151 ?_
          refine pj_iload_n C dd_Md_comesTo_154 rfl hl 0 rfl ?_
          refine pj_iald C P 7 (LM7 hB) h dd_Md_comesTo_155 (fun h => ?_)
          obtain ⟨r6, z5, e4, h⟩ := pj_cE h
          refine pj_cSi (st := [.int (x3 - (nI 1)), .ref (B.2.1 7)]) [.int x1, .int (z.1 7 (Int32.toNatClampNeg (x3 - (nI 1)))), .int (z.1 7 (Int32.toNatClampNeg x3))] C P (ct_Md_bothM hB e4) cl_Md_204 rfl (by decide) (by decide) hl.1 (Nat.le_of_ble_eq_true rfl) dd_Md_comesTo_156 (fun H lo P => ?_)
          refine pj_iast C P 7 (LM7 hB) h dd_Md_comesTo_159 (fun H lo z7 h P => ?_)
          exact bt_Md_comesTo_160 hB C Q s5 k5 _ _ _ _ _ _ _ h P (lv_sub hl [3, 4, 0, 5] rfl)
        · refine pj_aload_n C dd_Md_comesTo_109 rfl hl 2 rfl ?_
          refine pj_getR C P 0 (LM0 hB) rfl fl_Md_28 dd_Md_comesTo_110 ?_
          refine pj_iload_n C dd_Md_comesTo_113 rfl hl 4 rfl ?_
          refine pj_iconst (v := (nI 1)) C dd_Md_comesTo_114 rfl ?_
          refine pj_isub C dd_Md_comesTo_115 ?_
          refine pj_iconst (v := (nI 1)) C dd_Md_comesTo_116 rfl ?_
          refine pj_aload_n C dd_Md_comesTo_117 rfl hl 2 rfl ?_
          refine pj_getR C P 0 (LM0 hB) rfl fl_Md_28 dd_Md_comesTo_118 ?_
          refine pj_iload_n C dd_Md_comesTo_121 rfl hl 4 rfl ?_
          refine pj_iconst (v := (nI 1)) C dd_Md_comesTo_122 rfl ?_
          refine pj_isub C dd_Md_comesTo_123 ?_
          refine pj_iald C P 7 (LM7 hB) h dd_Md_comesTo_124 (fun h => ?_)
          refine pj_isub C dd_Md_comesTo_125 ?_
          refine pj_iast C P 7 (LM7 hB) h dd_Md_comesTo_126 (fun H lo z8 h P => ?_)
          refine pj_goto C dd_Md_comesTo_127 ?_
          exact bt_Md_comesTo_160 hB C Q s5 k5 _ _ _ _ _ _ _ h P (lv_sub hl [2, 3, 4, 5] rfl)
      · refine pj_aload_n C dd_Md_comesTo_86 rfl hl 2 rfl ?_
        refine pj_getR C P 0 (LM0 hB) rfl fl_Md_28 dd_Md_comesTo_87 ?_
        refine pj_iload_n C dd_Md_comesTo_90 rfl hl 4 rfl ?_
        refine pj_iconst (v := (nI 1)) C dd_Md_comesTo_91 rfl ?_
        refine pj_isub C dd_Md_comesTo_92 ?_
        refine pj_dup2 C dd_Md_comesTo_93 rfl rfl ?_
        refine pj_iald C P 7 (LM7 hB) h dd_Md_comesTo_94 (fun h => ?_)
        refine pj_iload C dd_Md_comesTo_95 hl 0 rfl ?_
        refine pj_idiv C h dd_Md_comesTo_97 (fun h => ?_)
        refine pj_iast C P 7 (LM7 hB) h dd_Md_comesTo_98 (fun H lo z9 h P => ?_)
        refine pj_goto C dd_Md_comesTo_99 ?_
        exact bt_Md_comesTo_160 hB C Q s5 k5 _ _ _ _ _ _ _ h P (lv_sub hl [2, 3, 4, 5] rfl)
    · refine pj_aload_n C dd_Md_comesTo_50 rfl hl 2 rfl ?_
      refine pj_getR C P 0 (LM0 hB) rfl fl_Md_28 dd_Md_comesTo_51 ?_
      refine pj_iload_n C dd_Md_comesTo_54 rfl hl 4 rfl ?_
      refine pj_iload C dd_Md_comesTo_55 hl 1 rfl ?_
      refine pj_if_ne C h dd_Md_comesTo_57 (fun h => ?_) (fun h => ?_)
      · refine pj_aload_n C dd_Md_comesTo_65 rfl hl 2 rfl ?_
        refine pj_getR C P 0 (LM0 hB) rfl fl_Md_31 dd_Md_comesTo_66 ?_
        refine pj_iload C dd_Md_comesTo_69 hl 1 rfl ?_
        refine pj_iald C P 8 (LM8 hB) h dd_Md_comesTo_71 (fun h => ?_)
        exact bt_Md_comesTo_72 hB C Q s5 k5 _ _ _ _ _ _ _ _ _ h P (lv_sub hl [2, 3, 4, 5] rfl)
      · refine pj_iload C dd_Md_comesTo_60 hl 0 rfl ?_
        refine pj_goto C dd_Md_comesTo_62 ?_
        exact bt_Md_comesTo_72 hB C Q s5 k5 _ _ _ _ _ _ _ _ _ h P (lv_sub hl [2, 3, 4, 5] rfl)
theorem lt_Md_comesTo_5 {B : pj_B} {A : Nat → Prop} {K : pj_K} {r0 : Int32} {z0 : pj_S} (hB : B.2.2.2.1 = pj_LM) (C : pj_C B A K cX11_comesTo 7 RX11 2) (Q : pj_Qi B A K (some .int) r0 z0)  : ∀ (n : Nat) (v2 : Int32) (v3 : Int32) (v4 : Int32) (z : pj_S) (H : Heap) (lo : List Loc) (ls : Array Slot), pj_lp3 Md_comesTo_5 n v2 v3 v4 z = some (r0, z0) → pj_P B A K z H lo → lv_has ls 7 [(0, .ref (B.2.1 0)), (2, .int v2), (3, .int v3), (4, .int v4)] → pj_W K H lo 5 ls [] := by
  intro n
  induction n with
  | zero => intro v2 v3 v4 z H lo ls h; rw [pj_lp3_0] at h; cases h
  | succ n ih =>
    intro v2 v3 v4 z H lo ls h P hl
    rw [pj_lp3_s] at h
    exact bt_Md_comesTo_5 hB C Q   (pj_lp3 Md_comesTo_5 n) ih v2 v3 v4 z H lo ls h P hl
set_option maxHeartbeats 4000000 in
set_option maxRecDepth 100000 in
theorem ct_Md_comesTo {l : Launch} {B : pj_B} (hB : B.2.2.2.1 = pj_LM) {v1 : Int32} {v2 : Int32} {z : pj_S} {r0 : Int32} {z0 : pj_S} (h : Md_comesTo v1 v2 z = some (r0, z0)) : pj_Mi l yX11_comesTo cX11_comesTo 7 (some .int) 2 [.ref (B.2.1 0), .int v1, .int v2] B z r0 z0 := by
  refine pj_meti (own := RX11) (by decide +kernel) rfl (Nat.le_of_ble_eq_true rfl) ?_
  intro A K hK C Q H lo ls P hl
  have hl : lv_has ls 7 [(0, .ref (B.2.1 0)), (1, .int v1), (2, .int v2)] := hl
  unfold Md_comesTo at h
  refine pj_iconst (v := (nI 0)) C dd_Md_comesTo_0 rfl ?_
  refine pj_istore_n [(3, .int (nI 0)), (0, .ref (B.2.1 0)), (1, .int v1), (2, .int v2)] C dd_Md_comesTo_1 rfl hl (by decide) rfl (fun ls hl => ?_)
  refine pj_iload_n C dd_Md_comesTo_2 rfl hl 2 rfl ?_
  refine pj_istore [(4, .int v1), (3, .int (nI 0)), (0, .ref (B.2.1 0)), (1, .int v1), (2, .int v2)] C dd_Md_comesTo_3 hl (by decide) rfl (fun ls hl => ?_)
  exact lt_Md_comesTo_5 hB C Q 4000 _ _ _ _ _ _ _ h P (lv_sub hl [2, 4, 1, 0] rfl)
theorem dd_Md_least_0 : pj_d cX11_least 0 (.iload_n 0) 1 1 := ⟨by decide +kernel, rfl⟩
theorem dd_Md_least_1 : pj_d cX11_least 1 (.iload_n 1) 1 2 := ⟨by decide +kernel, rfl⟩
theorem dd_Md_least_2 : pj_dj cX11_least 2 (.if_icmp .ge 7) 7 5 9 := ⟨by decide +kernel, rfl, by decide⟩
theorem dd_Md_least_5 : pj_d cX11_least 5 (.iload_n 0) 1 6 := ⟨by decide +kernel, rfl⟩
theorem dd_Md_least_6 : pj_dj cX11_least 6 (.goto 4) 4 9 10 := ⟨by decide +kernel, rfl, by decide⟩
theorem dd_Md_least_9 : pj_d cX11_least 9 (.iload_n 1) 1 10 := ⟨by decide +kernel, rfl⟩
theorem dd_Md_least_10 : pj_d cX11_least 10 (.ireturn) 1 11 := ⟨by decide +kernel, rfl⟩
set_option maxHeartbeats 4000000 in
set_option maxRecDepth 100000 in
theorem ct_Md_leastM {l : Launch} {B : pj_B} (hB : B.2.2.2.1 = pj_LM) {v0 : Int32} {v1 : Int32} {z : pj_S} {r0 : Int32} {z0 : pj_S} (h : Md_leastM v0 v1 z = some (r0, z0)) : pj_Mi l yX11_least cX11_least 2 (some .int) 1 [.int v0, .int v1] B z r0 z0 := by
  refine pj_meti (own := RX11) (by decide +kernel) rfl (Nat.le_of_ble_eq_true rfl) ?_
  intro A K hK C Q H lo ls P hl
  have hl : lv_has ls 2 [(0, .int v0), (1, .int v1)] := hl
  unfold Md_leastM at h
  refine pj_iload_n C dd_Md_least_0 rfl hl 0 rfl ?_
  refine pj_iload_n C dd_Md_least_1 rfl hl 1 rfl ?_
  refine pj_ic_ge C h dd_Md_least_2 (fun h => ?_) (fun h => ?_)
  · refine pj_iload_n C dd_Md_least_9 rfl hl 1 rfl ?_
    exact pj_iret C Q P h dd_Md_least_10
  · refine pj_iload_n C dd_Md_least_5 rfl hl 0 rfl ?_
    refine pj_goto C dd_Md_least_6 ?_
    exact pj_iret C Q P h dd_Md_least_10
theorem dd_Md_most_0 : pj_d cX11_most 0 (.iload_n 0) 1 1 := ⟨by decide +kernel, rfl⟩
theorem dd_Md_most_1 : pj_d cX11_most 1 (.iload_n 1) 1 2 := ⟨by decide +kernel, rfl⟩
theorem dd_Md_most_2 : pj_dj cX11_most 2 (.if_icmp .le 7) 7 5 9 := ⟨by decide +kernel, rfl, by decide⟩
theorem dd_Md_most_5 : pj_d cX11_most 5 (.iload_n 0) 1 6 := ⟨by decide +kernel, rfl⟩
theorem dd_Md_most_6 : pj_dj cX11_most 6 (.goto 4) 4 9 10 := ⟨by decide +kernel, rfl, by decide⟩
theorem dd_Md_most_9 : pj_d cX11_most 9 (.iload_n 1) 1 10 := ⟨by decide +kernel, rfl⟩
theorem dd_Md_most_10 : pj_d cX11_most 10 (.ireturn) 1 11 := ⟨by decide +kernel, rfl⟩
set_option maxHeartbeats 4000000 in
set_option maxRecDepth 100000 in
theorem ct_Md_mostM {l : Launch} {B : pj_B} (hB : B.2.2.2.1 = pj_LM) {v0 : Int32} {v1 : Int32} {z : pj_S} {r0 : Int32} {z0 : pj_S} (h : Md_mostM v0 v1 z = some (r0, z0)) : pj_Mi l yX11_most cX11_most 2 (some .int) 1 [.int v0, .int v1] B z r0 z0 := by
  refine pj_meti (own := RX11) (by decide +kernel) rfl (Nat.le_of_ble_eq_true rfl) ?_
  intro A K hK C Q H lo ls P hl
  have hl : lv_has ls 2 [(0, .int v0), (1, .int v1)] := hl
  unfold Md_mostM at h
  refine pj_iload_n C dd_Md_most_0 rfl hl 0 rfl ?_
  refine pj_iload_n C dd_Md_most_1 rfl hl 1 rfl ?_
  refine pj_ic_le C h dd_Md_most_2 (fun h => ?_) (fun h => ?_)
  · refine pj_iload_n C dd_Md_most_9 rfl hl 1 rfl ?_
    exact pj_iret C Q P h dd_Md_most_10
  · refine pj_iload_n C dd_Md_most_5 rfl hl 0 rfl ?_
    refine pj_goto C dd_Md_most_6 ?_
    exact pj_iret C Q P h dd_Md_most_10
theorem dd_Md_oddsOf_0 : pj_d cX11_oddsOf 0 (.iload_n 1) 1 1 := ⟨by decide +kernel, rfl⟩
theorem dd_Md_oddsOf_1 : pj_d cX11_oddsOf 1 (.bipush 8) 2 3 := ⟨by decide +kernel, rfl⟩
theorem dd_Md_oddsOf_3 : pj_d cX11_oddsOf 3 (.irem) 1 4 := ⟨by decide +kernel, rfl⟩
theorem dd_Md_oddsOf_4 : pj_d cX11_oddsOf 4 (.istore_n 2) 1 5 := ⟨by decide +kernel, rfl⟩
theorem dd_Md_oddsOf_5 : pj_d cX11_oddsOf 5 (.aload_n 0) 1 6 := ⟨by decide +kernel, rfl⟩
theorem dd_Md_oddsOf_6 : pj_d cX11_oddsOf 6 (.getfield 31) 3 9 := ⟨by decide +kernel, rfl⟩
theorem dd_Md_oddsOf_9 : pj_d cX11_oddsOf 9 (.iconst 1) 1 10 := ⟨by decide +kernel, rfl⟩
theorem dd_Md_oddsOf_10 : pj_d cX11_oddsOf 10 (.aload_n 0) 1 11 := ⟨by decide +kernel, rfl⟩
theorem dd_Md_oddsOf_11 : pj_d cX11_oddsOf 11 (.getfield 7) 3 14 := ⟨by decide +kernel, rfl⟩
theorem dd_Md_oddsOf_14 : pj_d cX11_oddsOf 14 (.bipush 10) 2 16 := ⟨by decide +kernel, rfl⟩
theorem dd_Md_oddsOf_16 : pj_d cX11_oddsOf 16 (.iload_n 1) 1 17 := ⟨by decide +kernel, rfl⟩
theorem dd_Md_oddsOf_17 : pj_d cX11_oddsOf 17 (.iadd) 1 18 := ⟨by decide +kernel, rfl⟩
theorem dd_Md_oddsOf_18 : pj_d cX11_oddsOf 18 (.iaload) 1 19 := ⟨by decide +kernel, rfl⟩
theorem dd_Md_oddsOf_19 : pj_d cX11_oddsOf 19 (.iastore) 1 20 := ⟨by decide +kernel, rfl⟩
theorem dd_Md_oddsOf_20 : pj_d cX11_oddsOf 20 (.aload_n 0) 1 21 := ⟨by decide +kernel, rfl⟩
theorem dd_Md_oddsOf_21 : pj_d cX11_oddsOf 21 (.getfield 31) 3 24 := ⟨by decide +kernel, rfl⟩
theorem dd_Md_oddsOf_24 : pj_d cX11_oddsOf 24 (.iconst 2) 1 25 := ⟨by decide +kernel, rfl⟩
theorem dd_Md_oddsOf_25 : pj_d cX11_oddsOf 25 (.iload_n 1) 1 26 := ⟨by decide +kernel, rfl⟩
theorem dd_Md_oddsOf_26 : pj_d cX11_oddsOf 26 (.bipush 8) 2 28 := ⟨by decide +kernel, rfl⟩
theorem dd_Md_oddsOf_28 : pj_d cX11_oddsOf 28 (.idiv) 1 29 := ⟨by decide +kernel, rfl⟩
theorem dd_Md_oddsOf_29 : pj_d cX11_oddsOf 29 (.iastore) 1 30 := ⟨by decide +kernel, rfl⟩
theorem dd_Md_oddsOf_30 : pj_d cX11_oddsOf 30 (.aload_n 0) 1 31 := ⟨by decide +kernel, rfl⟩
theorem dd_Md_oddsOf_31 : pj_d cX11_oddsOf 31 (.getfield 31) 3 34 := ⟨by decide +kernel, rfl⟩
theorem dd_Md_oddsOf_34 : pj_d cX11_oddsOf 34 (.iconst 3) 1 35 := ⟨by decide +kernel, rfl⟩
theorem dd_Md_oddsOf_35 : pj_d cX11_oddsOf 35 (.iload_n 2) 1 36 := ⟨by decide +kernel, rfl⟩
theorem dd_Md_oddsOf_36 : pj_d cX11_oddsOf 36 (.iastore) 1 37 := ⟨by decide +kernel, rfl⟩
theorem dd_Md_oddsOf_37 : pj_d cX11_oddsOf 37 (.aload_n 0) 1 38 := ⟨by decide +kernel, rfl⟩
theorem dd_Md_oddsOf_38 : pj_d cX11_oddsOf 38 (.getfield 31) 3 41 := ⟨by decide +kernel, rfl⟩
theorem dd_Md_oddsOf_41 : pj_d cX11_oddsOf 41 (.iconst 4) 1 42 := ⟨by decide +kernel, rfl⟩
theorem dd_Md_oddsOf_42 : pj_d cX11_oddsOf 42 (.iload_n 2) 1 43 := ⟨by decide +kernel, rfl⟩
theorem dd_Md_oddsOf_43 : pj_dj cX11_oddsOf 43 (.ifCond .le 17) 17 46 60 := ⟨by decide +kernel, rfl, by decide⟩
theorem dd_Md_oddsOf_46 : pj_d cX11_oddsOf 46 (.aload_n 0) 1 47 := ⟨by decide +kernel, rfl⟩
theorem dd_Md_oddsOf_47 : pj_d cX11_oddsOf 47 (.getfield 7) 3 50 := ⟨by decide +kernel, rfl⟩
theorem dd_Md_oddsOf_50 : pj_d cX11_oddsOf 50 (.bipush 74) 2 52 := ⟨by decide +kernel, rfl⟩
theorem dd_Md_oddsOf_52 : pj_d cX11_oddsOf 52 (.iload_n 1) 1 53 := ⟨by decide +kernel, rfl⟩
theorem dd_Md_oddsOf_53 : pj_d cX11_oddsOf 53 (.iadd) 1 54 := ⟨by decide +kernel, rfl⟩
theorem dd_Md_oddsOf_54 : pj_d cX11_oddsOf 54 (.iconst 1) 1 55 := ⟨by decide +kernel, rfl⟩
theorem dd_Md_oddsOf_55 : pj_d cX11_oddsOf 55 (.isub) 1 56 := ⟨by decide +kernel, rfl⟩
theorem dd_Md_oddsOf_56 : pj_d cX11_oddsOf 56 (.iaload) 1 57 := ⟨by decide +kernel, rfl⟩
theorem dd_Md_oddsOf_57 : pj_dj cX11_oddsOf 57 (.goto 4) 4 60 61 := ⟨by decide +kernel, rfl, by decide⟩
theorem dd_Md_oddsOf_60 : pj_d cX11_oddsOf 60 (.iconst 0) 1 61 := ⟨by decide +kernel, rfl⟩
theorem dd_Md_oddsOf_61 : pj_d cX11_oddsOf 61 (.iload_n 2) 1 62 := ⟨by decide +kernel, rfl⟩
theorem dd_Md_oddsOf_62 : pj_d cX11_oddsOf 62 (.iconst 1) 1 63 := ⟨by decide +kernel, rfl⟩
theorem dd_Md_oddsOf_63 : pj_d cX11_oddsOf 63 (.iadd) 1 64 := ⟨by decide +kernel, rfl⟩
theorem dd_Md_oddsOf_64 : pj_d cX11_oddsOf 64 (.aload_n 0) 1 65 := ⟨by decide +kernel, rfl⟩
theorem dd_Md_oddsOf_65 : pj_d cX11_oddsOf 65 (.getfield 7) 3 68 := ⟨by decide +kernel, rfl⟩
theorem dd_Md_oddsOf_68 : pj_d cX11_oddsOf 68 (.iconst 0) 1 69 := ⟨by decide +kernel, rfl⟩
theorem dd_Md_oddsOf_69 : pj_d cX11_oddsOf 69 (.iaload) 1 70 := ⟨by decide +kernel, rfl⟩
theorem dd_Md_oddsOf_70 : pj_dj cX11_oddsOf 70 (.if_icmp .ge 17) 17 73 87 := ⟨by decide +kernel, rfl, by decide⟩
theorem dd_Md_oddsOf_73 : pj_d cX11_oddsOf 73 (.aload_n 0) 1 74 := ⟨by decide +kernel, rfl⟩
theorem dd_Md_oddsOf_74 : pj_d cX11_oddsOf 74 (.getfield 7) 3 77 := ⟨by decide +kernel, rfl⟩
theorem dd_Md_oddsOf_77 : pj_d cX11_oddsOf 77 (.bipush 74) 2 79 := ⟨by decide +kernel, rfl⟩
theorem dd_Md_oddsOf_79 : pj_d cX11_oddsOf 79 (.iload_n 1) 1 80 := ⟨by decide +kernel, rfl⟩
theorem dd_Md_oddsOf_80 : pj_d cX11_oddsOf 80 (.iadd) 1 81 := ⟨by decide +kernel, rfl⟩
theorem dd_Md_oddsOf_81 : pj_d cX11_oddsOf 81 (.iconst 1) 1 82 := ⟨by decide +kernel, rfl⟩
theorem dd_Md_oddsOf_82 : pj_d cX11_oddsOf 82 (.iadd) 1 83 := ⟨by decide +kernel, rfl⟩
theorem dd_Md_oddsOf_83 : pj_d cX11_oddsOf 83 (.iaload) 1 84 := ⟨by decide +kernel, rfl⟩
theorem dd_Md_oddsOf_84 : pj_dj cX11_oddsOf 84 (.goto 4) 4 87 88 := ⟨by decide +kernel, rfl, by decide⟩
theorem dd_Md_oddsOf_87 : pj_d cX11_oddsOf 87 (.iconst 0) 1 88 := ⟨by decide +kernel, rfl⟩
theorem dd_Md_oddsOf_88 : pj_d cX11_oddsOf 88 (.iadd) 1 89 := ⟨by decide +kernel, rfl⟩
theorem dd_Md_oddsOf_89 : pj_d cX11_oddsOf 89 (.iastore) 1 90 := ⟨by decide +kernel, rfl⟩
theorem dd_Md_oddsOf_90 : pj_d cX11_oddsOf 90 (.aload_n 0) 1 91 := ⟨by decide +kernel, rfl⟩
theorem dd_Md_oddsOf_91 : pj_d cX11_oddsOf 91 (.getfield 31) 3 94 := ⟨by decide +kernel, rfl⟩
theorem dd_Md_oddsOf_94 : pj_d cX11_oddsOf 94 (.iconst 5) 1 95 := ⟨by decide +kernel, rfl⟩
theorem dd_Md_oddsOf_95 : pj_d cX11_oddsOf 95 (.iload_n 1) 1 96 := ⟨by decide +kernel, rfl⟩
theorem dd_Md_oddsOf_96 : pj_d cX11_oddsOf 96 (.bipush 8) 2 98 := ⟨by decide +kernel, rfl⟩
theorem dd_Md_oddsOf_98 : pj_dj cX11_oddsOf 98 (.if_icmp .lt 18) 18 101 116 := ⟨by decide +kernel, rfl, by decide⟩
theorem dd_Md_oddsOf_101 : pj_d cX11_oddsOf 101 (.aload_n 0) 1 102 := ⟨by decide +kernel, rfl⟩
theorem dd_Md_oddsOf_102 : pj_d cX11_oddsOf 102 (.getfield 7) 3 105 := ⟨by decide +kernel, rfl⟩
theorem dd_Md_oddsOf_105 : pj_d cX11_oddsOf 105 (.bipush 74) 2 107 := ⟨by decide +kernel, rfl⟩
theorem dd_Md_oddsOf_107 : pj_d cX11_oddsOf 107 (.iload_n 1) 1 108 := ⟨by decide +kernel, rfl⟩
theorem dd_Md_oddsOf_108 : pj_d cX11_oddsOf 108 (.iadd) 1 109 := ⟨by decide +kernel, rfl⟩
theorem dd_Md_oddsOf_109 : pj_d cX11_oddsOf 109 (.bipush 8) 2 111 := ⟨by decide +kernel, rfl⟩
theorem dd_Md_oddsOf_111 : pj_d cX11_oddsOf 111 (.isub) 1 112 := ⟨by decide +kernel, rfl⟩
theorem dd_Md_oddsOf_112 : pj_d cX11_oddsOf 112 (.iaload) 1 113 := ⟨by decide +kernel, rfl⟩
theorem dd_Md_oddsOf_113 : pj_dj cX11_oddsOf 113 (.goto 4) 4 116 117 := ⟨by decide +kernel, rfl, by decide⟩
theorem dd_Md_oddsOf_116 : pj_d cX11_oddsOf 116 (.iconst 0) 1 117 := ⟨by decide +kernel, rfl⟩
theorem dd_Md_oddsOf_117 : pj_d cX11_oddsOf 117 (.iastore) 1 118 := ⟨by decide +kernel, rfl⟩
theorem dd_Md_oddsOf_118 : pj_d cX11_oddsOf 118 (.aload_n 0) 1 119 := ⟨by decide +kernel, rfl⟩
theorem dd_Md_oddsOf_119 : pj_d cX11_oddsOf 119 (.getfield 31) 3 122 := ⟨by decide +kernel, rfl⟩
theorem dd_Md_oddsOf_122 : pj_d cX11_oddsOf 122 (.bipush 6) 2 124 := ⟨by decide +kernel, rfl⟩
theorem dd_Md_oddsOf_124 : pj_d cX11_oddsOf 124 (.aload_n 0) 1 125 := ⟨by decide +kernel, rfl⟩
theorem dd_Md_oddsOf_125 : pj_d cX11_oddsOf 125 (.getfield 7) 3 128 := ⟨by decide +kernel, rfl⟩
theorem dd_Md_oddsOf_128 : pj_d cX11_oddsOf 128 (.iconst 5) 1 129 := ⟨by decide +kernel, rfl⟩
theorem dd_Md_oddsOf_129 : pj_d cX11_oddsOf 129 (.iaload) 1 130 := ⟨by decide +kernel, rfl⟩
theorem dd_Md_oddsOf_130 : pj_d cX11_oddsOf 130 (.iastore) 1 131 := ⟨by decide +kernel, rfl⟩
theorem dd_Md_oddsOf_131 : pj_d cX11_oddsOf 131 (.aload_n 0) 1 132 := ⟨by decide +kernel, rfl⟩
theorem dd_Md_oddsOf_132 : pj_d cX11_oddsOf 132 (.getfield 31) 3 135 := ⟨by decide +kernel, rfl⟩
theorem dd_Md_oddsOf_135 : pj_d cX11_oddsOf 135 (.bipush 7) 2 137 := ⟨by decide +kernel, rfl⟩
theorem dd_Md_oddsOf_137 : pj_d cX11_oddsOf 137 (.iconst 0) 1 138 := ⟨by decide +kernel, rfl⟩
theorem dd_Md_oddsOf_138 : pj_d cX11_oddsOf 138 (.iastore) 1 139 := ⟨by decide +kernel, rfl⟩
theorem dd_Md_oddsOf_139 : pj_d cX11_oddsOf 139 (.iconst 0) 1 140 := ⟨by decide +kernel, rfl⟩
theorem dd_Md_oddsOf_140 : pj_d cX11_oddsOf 140 (.istore_n 3) 1 141 := ⟨by decide +kernel, rfl⟩
theorem dd_Md_oddsOf_141 : pj_d cX11_oddsOf 141 (.iload_n 3) 1 142 := ⟨by decide +kernel, rfl⟩
theorem dd_Md_oddsOf_142 : pj_d cX11_oddsOf 142 (.aload_n 0) 1 143 := ⟨by decide +kernel, rfl⟩
theorem dd_Md_oddsOf_143 : pj_d cX11_oddsOf 143 (.getfield 7) 3 146 := ⟨by decide +kernel, rfl⟩
theorem dd_Md_oddsOf_146 : pj_d cX11_oddsOf 146 (.iconst 1) 1 147 := ⟨by decide +kernel, rfl⟩
theorem dd_Md_oddsOf_147 : pj_d cX11_oddsOf 147 (.iaload) 1 148 := ⟨by decide +kernel, rfl⟩
theorem dd_Md_oddsOf_148 : pj_dj cX11_oddsOf 148 (.if_icmp .ge 35) 35 151 183 := ⟨by decide +kernel, rfl, by decide⟩
theorem dd_Md_oddsOf_151 : pj_d cX11_oddsOf 151 (.aload_n 0) 1 152 := ⟨by decide +kernel, rfl⟩
theorem dd_Md_oddsOf_152 : pj_d cX11_oddsOf 152 (.getfield 31) 3 155 := ⟨by decide +kernel, rfl⟩
theorem dd_Md_oddsOf_155 : pj_d cX11_oddsOf 155 (.bipush 7) 2 157 := ⟨by decide +kernel, rfl⟩
theorem dd_Md_oddsOf_157 : pj_d cX11_oddsOf 157 (.dup2) 1 158 := ⟨by decide +kernel, rfl⟩
theorem dd_Md_oddsOf_158 : pj_d cX11_oddsOf 158 (.iaload) 1 159 := ⟨by decide +kernel, rfl⟩
theorem dd_Md_oddsOf_159 : pj_d cX11_oddsOf 159 (.iconst 1) 1 160 := ⟨by decide +kernel, rfl⟩
theorem dd_Md_oddsOf_160 : pj_d cX11_oddsOf 160 (.aload_n 0) 1 161 := ⟨by decide +kernel, rfl⟩
theorem dd_Md_oddsOf_161 : pj_d cX11_oddsOf 161 (.getfield 7) 3 164 := ⟨by decide +kernel, rfl⟩
theorem dd_Md_oddsOf_164 : pj_d cX11_oddsOf 164 (.bipush 74) 2 166 := ⟨by decide +kernel, rfl⟩
theorem dd_Md_oddsOf_166 : pj_d cX11_oddsOf 166 (.bipush 8) 2 168 := ⟨by decide +kernel, rfl⟩
theorem dd_Md_oddsOf_168 : pj_d cX11_oddsOf 168 (.iload_n 3) 1 169 := ⟨by decide +kernel, rfl⟩
theorem dd_Md_oddsOf_169 : pj_d cX11_oddsOf 169 (.imul) 1 170 := ⟨by decide +kernel, rfl⟩
theorem dd_Md_oddsOf_170 : pj_d cX11_oddsOf 170 (.iadd) 1 171 := ⟨by decide +kernel, rfl⟩
theorem dd_Md_oddsOf_171 : pj_d cX11_oddsOf 171 (.iload_n 2) 1 172 := ⟨by decide +kernel, rfl⟩
theorem dd_Md_oddsOf_172 : pj_d cX11_oddsOf 172 (.iadd) 1 173 := ⟨by decide +kernel, rfl⟩
theorem dd_Md_oddsOf_173 : pj_d cX11_oddsOf 173 (.iaload) 1 174 := ⟨by decide +kernel, rfl⟩
theorem dd_Md_oddsOf_174 : pj_d cX11_oddsOf 174 (.isub) 1 175 := ⟨by decide +kernel, rfl⟩
theorem dd_Md_oddsOf_175 : pj_d cX11_oddsOf 175 (.iadd) 1 176 := ⟨by decide +kernel, rfl⟩
theorem dd_Md_oddsOf_176 : pj_d cX11_oddsOf 176 (.iastore) 1 177 := ⟨by decide +kernel, rfl⟩
theorem dd_Md_oddsOf_177 : pj_d cX11_oddsOf 177 (.iinc 3 1) 3 180 := ⟨by decide +kernel, rfl⟩
theorem dd_Md_oddsOf_180 : pj_dj cX11_oddsOf 180 (.goto (-39)) (-39) 183 141 := ⟨by decide +kernel, rfl, by decide⟩
theorem dd_Md_oddsOf_183 : pj_d cX11_oddsOf 183 (.iconst 0) 1 184 := ⟨by decide +kernel, rfl⟩
theorem dd_Md_oddsOf_184 : pj_d cX11_oddsOf 184 (.istore_n 3) 1 185 := ⟨by decide +kernel, rfl⟩
theorem dd_Md_oddsOf_185 : pj_d cX11_oddsOf 185 (.iload_n 3) 1 186 := ⟨by decide +kernel, rfl⟩
theorem dd_Md_oddsOf_186 : pj_d cX11_oddsOf 186 (.aload_n 0) 1 187 := ⟨by decide +kernel, rfl⟩
theorem dd_Md_oddsOf_187 : pj_d cX11_oddsOf 187 (.getfield 7) 3 190 := ⟨by decide +kernel, rfl⟩
theorem dd_Md_oddsOf_190 : pj_d cX11_oddsOf 190 (.sipush 605) 3 193 := ⟨by decide +kernel, rfl⟩
theorem dd_Md_oddsOf_193 : pj_d cX11_oddsOf 193 (.iaload) 1 194 := ⟨by decide +kernel, rfl⟩
theorem dd_Md_oddsOf_194 : pj_dj cX11_oddsOf 194 (.if_icmp .ge 95) 95 197 289 := ⟨by decide +kernel, rfl, by decide⟩
theorem dd_Md_oddsOf_197 : pj_d cX11_oddsOf 197 (.aload_n 0) 1 198 := ⟨by decide +kernel, rfl⟩
theorem dd_Md_oddsOf_198 : pj_d cX11_oddsOf 198 (.getfield 7) 3 201 := ⟨by decide +kernel, rfl⟩
theorem dd_Md_oddsOf_201 : pj_d cX11_oddsOf 201 (.sipush 650) 3 204 := ⟨by decide +kernel, rfl⟩
theorem dd_Md_oddsOf_204 : pj_d cX11_oddsOf 204 (.iload_n 3) 1 205 := ⟨by decide +kernel, rfl⟩
theorem dd_Md_oddsOf_205 : pj_d cX11_oddsOf 205 (.iadd) 1 206 := ⟨by decide +kernel, rfl⟩
theorem dd_Md_oddsOf_206 : pj_d cX11_oddsOf 206 (.iaload) 1 207 := ⟨by decide +kernel, rfl⟩
theorem dd_Md_oddsOf_207 : pj_d cX11_oddsOf 207 (.aload_n 0) 1 208 := ⟨by decide +kernel, rfl⟩
theorem dd_Md_oddsOf_208 : pj_d cX11_oddsOf 208 (.getfield 7) 3 211 := ⟨by decide +kernel, rfl⟩
theorem dd_Md_oddsOf_211 : pj_d cX11_oddsOf 211 (.sipush 630) 3 214 := ⟨by decide +kernel, rfl⟩
theorem dd_Md_oddsOf_214 : pj_d cX11_oddsOf 214 (.iload_n 3) 1 215 := ⟨by decide +kernel, rfl⟩
theorem dd_Md_oddsOf_215 : pj_d cX11_oddsOf 215 (.iadd) 1 216 := ⟨by decide +kernel, rfl⟩
theorem dd_Md_oddsOf_216 : pj_d cX11_oddsOf 216 (.iaload) 1 217 := ⟨by decide +kernel, rfl⟩
theorem dd_Md_oddsOf_217 : pj_dj cX11_oddsOf 217 (.if_icmp .eq 31) 31 220 248 := ⟨by decide +kernel, rfl, by decide⟩
theorem dd_Md_oddsOf_220 : pj_d cX11_oddsOf 220 (.aload_n 0) 1 221 := ⟨by decide +kernel, rfl⟩
theorem dd_Md_oddsOf_221 : pj_d cX11_oddsOf 221 (.aload_n 0) 1 222 := ⟨by decide +kernel, rfl⟩
theorem dd_Md_oddsOf_222 : pj_d cX11_oddsOf 222 (.getfield 7) 3 225 := ⟨by decide +kernel, rfl⟩
theorem dd_Md_oddsOf_225 : pj_d cX11_oddsOf 225 (.sipush 630) 3 228 := ⟨by decide +kernel, rfl⟩
theorem dd_Md_oddsOf_228 : pj_d cX11_oddsOf 228 (.iload_n 3) 1 229 := ⟨by decide +kernel, rfl⟩
theorem dd_Md_oddsOf_229 : pj_d cX11_oddsOf 229 (.iadd) 1 230 := ⟨by decide +kernel, rfl⟩
theorem dd_Md_oddsOf_230 : pj_d cX11_oddsOf 230 (.iaload) 1 231 := ⟨by decide +kernel, rfl⟩
theorem dd_Md_oddsOf_231 : pj_d cX11_oddsOf 231 (.aload_n 0) 1 232 := ⟨by decide +kernel, rfl⟩
theorem dd_Md_oddsOf_232 : pj_d cX11_oddsOf 232 (.getfield 7) 3 235 := ⟨by decide +kernel, rfl⟩
theorem dd_Md_oddsOf_235 : pj_d cX11_oddsOf 235 (.sipush 650) 3 238 := ⟨by decide +kernel, rfl⟩
theorem dd_Md_oddsOf_238 : pj_d cX11_oddsOf 238 (.iload_n 3) 1 239 := ⟨by decide +kernel, rfl⟩
theorem dd_Md_oddsOf_239 : pj_d cX11_oddsOf 239 (.iadd) 1 240 := ⟨by decide +kernel, rfl⟩
theorem dd_Md_oddsOf_240 : pj_d cX11_oddsOf 240 (.iaload) 1 241 := ⟨by decide +kernel, rfl⟩
theorem dd_Md_oddsOf_241 : pj_d cX11_oddsOf 241 (.invokevirtual 230) 3 244 := ⟨by decide +kernel, rfl⟩
theorem dd_Md_oddsOf_244 : pj_d cX11_oddsOf 244 (.iconst 1) 1 245 := ⟨by decide +kernel, rfl⟩
theorem dd_Md_oddsOf_245 : pj_dj cX11_oddsOf 245 (.if_icmp .ne 38) 38 248 283 := ⟨by decide +kernel, rfl, by decide⟩
theorem dd_Md_oddsOf_248 : pj_d cX11_oddsOf 248 (.iconst 0) 1 249 := ⟨by decide +kernel, rfl⟩
theorem dd_Md_oddsOf_249 : pj_d cX11_oddsOf 249 (.sipush 1000) 3 252 := ⟨by decide +kernel, rfl⟩
theorem dd_Md_oddsOf_252 : pj_d cX11_oddsOf 252 (.aload_n 0) 1 253 := ⟨by decide +kernel, rfl⟩
theorem dd_Md_oddsOf_253 : pj_d cX11_oddsOf 253 (.aload_n 0) 1 254 := ⟨by decide +kernel, rfl⟩
theorem dd_Md_oddsOf_254 : pj_d cX11_oddsOf 254 (.getfield 7) 3 257 := ⟨by decide +kernel, rfl⟩
theorem dd_Md_oddsOf_257 : pj_d cX11_oddsOf 257 (.sipush 610) 3 260 := ⟨by decide +kernel, rfl⟩
theorem dd_Md_oddsOf_260 : pj_d cX11_oddsOf 260 (.iload_n 3) 1 261 := ⟨by decide +kernel, rfl⟩
theorem dd_Md_oddsOf_261 : pj_d cX11_oddsOf 261 (.iadd) 1 262 := ⟨by decide +kernel, rfl⟩
theorem dd_Md_oddsOf_262 : pj_d cX11_oddsOf 262 (.iaload) 1 263 := ⟨by decide +kernel, rfl⟩
theorem dd_Md_oddsOf_263 : pj_d cX11_oddsOf 263 (.aload_n 0) 1 264 := ⟨by decide +kernel, rfl⟩
theorem dd_Md_oddsOf_264 : pj_d cX11_oddsOf 264 (.getfield 7) 3 267 := ⟨by decide +kernel, rfl⟩
theorem dd_Md_oddsOf_267 : pj_d cX11_oddsOf 267 (.sipush 630) 3 270 := ⟨by decide +kernel, rfl⟩
theorem dd_Md_oddsOf_270 : pj_d cX11_oddsOf 270 (.iload_n 3) 1 271 := ⟨by decide +kernel, rfl⟩
theorem dd_Md_oddsOf_271 : pj_d cX11_oddsOf 271 (.iadd) 1 272 := ⟨by decide +kernel, rfl⟩
theorem dd_Md_oddsOf_272 : pj_d cX11_oddsOf 272 (.iaload) 1 273 := ⟨by decide +kernel, rfl⟩
theorem dd_Md_oddsOf_273 : pj_d cX11_oddsOf 273 (.invokevirtual 230) 3 276 := ⟨by decide +kernel, rfl⟩
theorem dd_Md_oddsOf_276 : pj_d cX11_oddsOf 276 (.invokestatic 234) 3 279 := ⟨by decide +kernel, rfl⟩
theorem dd_Md_oddsOf_279 : pj_d cX11_oddsOf 279 (.invokestatic 237) 3 282 := ⟨by decide +kernel, rfl⟩
theorem dd_Md_oddsOf_282 : pj_d cX11_oddsOf 282 (.ireturn) 1 283 := ⟨by decide +kernel, rfl⟩
theorem dd_Md_oddsOf_283 : pj_d cX11_oddsOf 283 (.iinc 3 1) 3 286 := ⟨by decide +kernel, rfl⟩
theorem dd_Md_oddsOf_286 : pj_dj cX11_oddsOf 286 (.goto (-101)) (-101) 289 185 := ⟨by decide +kernel, rfl, by decide⟩
theorem dd_Md_oddsOf_289 : pj_d cX11_oddsOf 289 (.sipush 500) 3 292 := ⟨by decide +kernel, rfl⟩
theorem dd_Md_oddsOf_292 : pj_d cX11_oddsOf 292 (.ireturn) 1 293 := ⟨by decide +kernel, rfl⟩
set_option maxHeartbeats 4000000 in
set_option maxRecDepth 100000 in
theorem bt_Md_oddsOf_248 {B : pj_B} {A : Nat → Prop} {K : pj_K} {r0 : Int32} {z0 : pj_S} (hB : B.2.2.2.1 = pj_LM) (C : pj_C B A K cX11_oddsOf 4 RX11 3) (Q : pj_Qi B A K (some .int) r0 z0)  (v3 : Int32) (z : pj_S) (H : Heap) (lo : List Loc) (ls : Array Slot) (h : Md_oddsOf_248 v3 z = some (r0, z0)) (P : pj_P B A K z H lo) (hl : lv_has ls 4 [(0, .ref (B.2.1 0)), (3, .int v3)]) : pj_W K H lo 248 ls [] := by
  unfold Md_oddsOf_248 at h
  refine pj_iconst (v := (nI 0)) C dd_Md_oddsOf_248 rfl ?_
  refine pj_sipush (v := (nI 1000)) C dd_Md_oddsOf_249 rfl ?_
  refine pj_aload_n C dd_Md_oddsOf_252 rfl hl 0 rfl ?_
  refine pj_aload_n C dd_Md_oddsOf_253 rfl hl 0 rfl ?_
  refine pj_getR C P 0 (LM0 hB) rfl fl_Md_7 dd_Md_oddsOf_254 ?_
  refine pj_sipush (v := (nI 610)) C dd_Md_oddsOf_257 rfl ?_
  refine pj_iload_n C dd_Md_oddsOf_260 rfl hl 1 rfl ?_
  refine pj_iadd C dd_Md_oddsOf_261 ?_
  refine pj_iald C P 1 (LM1 hB) h dd_Md_oddsOf_262 (fun h => ?_)
  refine pj_aload_n C dd_Md_oddsOf_263 rfl hl 0 rfl ?_
  refine pj_getR C P 0 (LM0 hB) rfl fl_Md_7 dd_Md_oddsOf_264 ?_
  refine pj_sipush (v := (nI 630)) C dd_Md_oddsOf_267 rfl ?_
  refine pj_iload_n C dd_Md_oddsOf_270 rfl hl 1 rfl ?_
  refine pj_iadd C dd_Md_oddsOf_271 ?_
  refine pj_iald C P 1 (LM1 hB) h dd_Md_oddsOf_272 (fun h => ?_)
  obtain ⟨r3, z2, e1, h⟩ := pj_cE h
  refine pj_cVi (st := [.int (nI 1000), .int (nI 0)]) [.int (z.1 1 (Int32.toNatClampNeg ((nI 610) + v3))), .int (z.1 1 (Int32.toNatClampNeg ((nI 630) + v3)))] C P 0 (LM0 hB) rfl (ct_Md_comesTo hB e1) cl_Md_230 rfl (by decide) (by decide) hl.1 (Nat.le_of_ble_eq_true rfl) dd_Md_oddsOf_273 (fun H lo P => ?_)
  obtain ⟨r6, z5, e4, h⟩ := pj_cE h
  refine pj_cSi (st := [.int (nI 0)]) [.int (nI 1000), .int r3] C P (ct_Md_leastM hB e4) cl_Md_234 rfl (by decide) (by decide) hl.1 (Nat.le_of_ble_eq_true rfl) dd_Md_oddsOf_276 (fun H lo P => ?_)
  obtain ⟨r9, z8, e7, h⟩ := pj_cE h
  refine pj_cSi (st := []) [.int (nI 0), .int r6] C P (ct_Md_mostM hB e7) cl_Md_237 rfl (by decide) (by decide) hl.1 (Nat.le_of_ble_eq_true rfl) dd_Md_oddsOf_279 (fun H lo P => ?_)
  exact pj_iret C Q P h dd_Md_oddsOf_282
set_option maxHeartbeats 4000000 in
set_option maxRecDepth 100000 in
theorem bt_Md_oddsOf_289 {B : pj_B} {A : Nat → Prop} {K : pj_K} {r0 : Int32} {z0 : pj_S} (hB : B.2.2.2.1 = pj_LM) (C : pj_C B A K cX11_oddsOf 4 RX11 3) (Q : pj_Qi B A K (some .int) r0 z0)   (z : pj_S) (H : Heap) (lo : List Loc) (ls : Array Slot) (h : Md_oddsOf_289 z = some (r0, z0)) (P : pj_P B A K z H lo) (hl : lv_has ls 4 []) : pj_W K H lo 289 ls [] := by
  unfold Md_oddsOf_289 at h
  refine pj_sipush (v := (nI 500)) C dd_Md_oddsOf_289 rfl ?_
  exact pj_iret C Q P h dd_Md_oddsOf_292
set_option maxHeartbeats 4000000 in
set_option maxRecDepth 100000 in
theorem bt_Md_oddsOf_185 {B : pj_B} {A : Nat → Prop} {K : pj_K} {r0 : Int32} {z0 : pj_S} (hB : B.2.2.2.1 = pj_LM) (C : pj_C B A K cX11_oddsOf 4 RX11 3) (Q : pj_Qi B A K (some .int) r0 z0) (s185 : Int32 → pj_S → Option (Int32 × pj_S)) (k185 : ∀ (v3 : Int32) (z : pj_S) (H : Heap) (lo : List Loc) (ls : Array Slot), s185 v3 z = some (r0, z0) → pj_P B A K z H lo → lv_has ls 4 [(0, .ref (B.2.1 0)), (3, .int v3)] → pj_W K H lo 185 ls []) (v3 : Int32) (z : pj_S) (H : Heap) (lo : List Loc) (ls : Array Slot) (h : Md_oddsOf_185 s185 v3 z = some (r0, z0)) (P : pj_P B A K z H lo) (hl : lv_has ls 4 [(0, .ref (B.2.1 0)), (3, .int v3)]) : pj_W K H lo 185 ls [] := by
  unfold Md_oddsOf_185 at h
  refine pj_iload_n C dd_Md_oddsOf_185 rfl hl 1 rfl ?_
  refine pj_aload_n C dd_Md_oddsOf_186 rfl hl 0 rfl ?_
  refine pj_getR C P 0 (LM0 hB) rfl fl_Md_7 dd_Md_oddsOf_187 ?_
  refine pj_sipush (v := (nI 605)) C dd_Md_oddsOf_190 rfl ?_
  refine pj_iald C P 1 (LM1 hB) h dd_Md_oddsOf_193 (fun h => ?_)
  refine pj_ic_ge C h dd_Md_oddsOf_194 (fun h => ?_) (fun h => ?_)
  · exact bt_Md_oddsOf_289 hB C Q _ _ _ _ h P (lv_sub hl [] rfl)
  · refine pj_aload_n C dd_Md_oddsOf_197 rfl hl 0 rfl ?_
    refine pj_getR C P 0 (LM0 hB) rfl fl_Md_7 dd_Md_oddsOf_198 ?_
    refine pj_sipush (v := (nI 650)) C dd_Md_oddsOf_201 rfl ?_
    refine pj_iload_n C dd_Md_oddsOf_204 rfl hl 1 rfl ?_
    refine pj_iadd C dd_Md_oddsOf_205 ?_
    refine pj_iald C P 1 (LM1 hB) h dd_Md_oddsOf_206 (fun h => ?_)
    refine pj_aload_n C dd_Md_oddsOf_207 rfl hl 0 rfl ?_
    refine pj_getR C P 0 (LM0 hB) rfl fl_Md_7 dd_Md_oddsOf_208 ?_
    refine pj_sipush (v := (nI 630)) C dd_Md_oddsOf_211 rfl ?_
    refine pj_iload_n C dd_Md_oddsOf_214 rfl hl 1 rfl ?_
    refine pj_iadd C dd_Md_oddsOf_215 ?_
    refine pj_iald C P 1 (LM1 hB) h dd_Md_oddsOf_216 (fun h => ?_)
    refine pj_ic_eq C h dd_Md_oddsOf_217 (fun h => ?_) (fun h => ?_)
    · exact bt_Md_oddsOf_248 hB C Q _ _ _ _ _ h P (lv_sub hl [0, 1] rfl)
    · refine pj_aload_n C dd_Md_oddsOf_220 rfl hl 0 rfl ?_
      refine pj_aload_n C dd_Md_oddsOf_221 rfl hl 0 rfl ?_
      refine pj_getR C P 0 (LM0 hB) rfl fl_Md_7 dd_Md_oddsOf_222 ?_
      refine pj_sipush (v := (nI 630)) C dd_Md_oddsOf_225 rfl ?_
      refine pj_iload_n C dd_Md_oddsOf_228 rfl hl 1 rfl ?_
      refine pj_iadd C dd_Md_oddsOf_229 ?_
      refine pj_iald C P 1 (LM1 hB) h dd_Md_oddsOf_230 (fun h => ?_)
      refine pj_aload_n C dd_Md_oddsOf_231 rfl hl 0 rfl ?_
      refine pj_getR C P 0 (LM0 hB) rfl fl_Md_7 dd_Md_oddsOf_232 ?_
      refine pj_sipush (v := (nI 650)) C dd_Md_oddsOf_235 rfl ?_
      refine pj_iload_n C dd_Md_oddsOf_238 rfl hl 1 rfl ?_
      refine pj_iadd C dd_Md_oddsOf_239 ?_
      refine pj_iald C P 1 (LM1 hB) h dd_Md_oddsOf_240 (fun h => ?_)
      obtain ⟨r3, z2, e1, h⟩ := pj_cE h
      refine pj_cVi (st := []) [.int (z.1 1 (Int32.toNatClampNeg ((nI 630) + v3))), .int (z.1 1 (Int32.toNatClampNeg ((nI 650) + v3)))] C P 0 (LM0 hB) rfl (ct_Md_comesTo hB e1) cl_Md_230 rfl (by decide) (by decide) hl.1 (Nat.le_of_ble_eq_true rfl) dd_Md_oddsOf_241 (fun H lo P => ?_)
      refine pj_iconst (v := (nI 1)) C dd_Md_oddsOf_244 rfl ?_
      refine pj_ic_ne C h dd_Md_oddsOf_245 (fun h => ?_) (fun h => ?_)
      · refine pj_iinc (v := (nI 1)) [(0, .ref (B.2.1 0))] C h rfl dd_Md_oddsOf_283 hl 1 rfl (by decide) rfl (fun x4 ls h hl => ?_)
        refine pj_goto C dd_Md_oddsOf_286 ?_
        exact k185 _ _ _ _ _ h P (lv_sub hl [1, 0] rfl)
      · exact bt_Md_oddsOf_248 hB C Q _ _ _ _ _ h P (lv_sub hl [0, 1] rfl)
theorem lt_Md_oddsOf_185 {B : pj_B} {A : Nat → Prop} {K : pj_K} {r0 : Int32} {z0 : pj_S} (hB : B.2.2.2.1 = pj_LM) (C : pj_C B A K cX11_oddsOf 4 RX11 3) (Q : pj_Qi B A K (some .int) r0 z0)  : ∀ (n : Nat) (v3 : Int32) (z : pj_S) (H : Heap) (lo : List Loc) (ls : Array Slot), pj_lp1 Md_oddsOf_185 n v3 z = some (r0, z0) → pj_P B A K z H lo → lv_has ls 4 [(0, .ref (B.2.1 0)), (3, .int v3)] → pj_W K H lo 185 ls [] := by
  intro n
  induction n with
  | zero => intro v3 z H lo ls h; rw [pj_lp1_0] at h; cases h
  | succ n ih =>
    intro v3 z H lo ls h P hl
    rw [pj_lp1_s] at h
    exact bt_Md_oddsOf_185 hB C Q   (pj_lp1 Md_oddsOf_185 n) ih v3 z H lo ls h P hl
set_option maxHeartbeats 4000000 in
set_option maxRecDepth 100000 in
theorem bt_Md_oddsOf_183 {B : pj_B} {A : Nat → Prop} {K : pj_K} {r0 : Int32} {z0 : pj_S} (hB : B.2.2.2.1 = pj_LM) (C : pj_C B A K cX11_oddsOf 4 RX11 3) (Q : pj_Qi B A K (some .int) r0 z0)   (z : pj_S) (H : Heap) (lo : List Loc) (ls : Array Slot) (h : Md_oddsOf_183 z = some (r0, z0)) (P : pj_P B A K z H lo) (hl : lv_has ls 4 [(0, .ref (B.2.1 0))]) : pj_W K H lo 183 ls [] := by
  unfold Md_oddsOf_183 at h
  refine pj_iconst (v := (nI 0)) C dd_Md_oddsOf_183 rfl ?_
  refine pj_istore_n [(3, .int (nI 0)), (0, .ref (B.2.1 0))] C dd_Md_oddsOf_184 rfl hl (by decide) rfl (fun ls hl => ?_)
  exact lt_Md_oddsOf_185 hB C Q 4000 _ _ _ _ _ h P (lv_sub hl [1, 0] rfl)
set_option maxHeartbeats 4000000 in
set_option maxRecDepth 100000 in
theorem bt_Md_oddsOf_141 {B : pj_B} {A : Nat → Prop} {K : pj_K} {r0 : Int32} {z0 : pj_S} (hB : B.2.2.2.1 = pj_LM) (C : pj_C B A K cX11_oddsOf 4 RX11 3) (Q : pj_Qi B A K (some .int) r0 z0) (s141 : Int32 → Int32 → pj_S → Option (Int32 × pj_S)) (k141 : ∀ (v2 : Int32) (v3 : Int32) (z : pj_S) (H : Heap) (lo : List Loc) (ls : Array Slot), s141 v2 v3 z = some (r0, z0) → pj_P B A K z H lo → lv_has ls 4 [(0, .ref (B.2.1 0)), (2, .int v2), (3, .int v3)] → pj_W K H lo 141 ls []) (v2 : Int32) (v3 : Int32) (z : pj_S) (H : Heap) (lo : List Loc) (ls : Array Slot) (h : Md_oddsOf_141 s141 v2 v3 z = some (r0, z0)) (P : pj_P B A K z H lo) (hl : lv_has ls 4 [(0, .ref (B.2.1 0)), (2, .int v2), (3, .int v3)]) : pj_W K H lo 141 ls [] := by
  unfold Md_oddsOf_141 at h
  refine pj_iload_n C dd_Md_oddsOf_141 rfl hl 2 rfl ?_
  refine pj_aload_n C dd_Md_oddsOf_142 rfl hl 0 rfl ?_
  refine pj_getR C P 0 (LM0 hB) rfl fl_Md_7 dd_Md_oddsOf_143 ?_
  refine pj_iconst (v := (nI 1)) C dd_Md_oddsOf_146 rfl ?_
  refine pj_iald C P 1 (LM1 hB) h dd_Md_oddsOf_147 (fun h => ?_)
  refine pj_ic_ge C h dd_Md_oddsOf_148 (fun h => ?_) (fun h => ?_)
  · exact bt_Md_oddsOf_183 hB C Q _ _ _ _ h P (lv_sub hl [0] rfl)
  · refine pj_aload_n C dd_Md_oddsOf_151 rfl hl 0 rfl ?_
    refine pj_getR C P 0 (LM0 hB) rfl fl_Md_31 dd_Md_oddsOf_152 ?_
    refine pj_bipush (v := (nI 7)) C dd_Md_oddsOf_155 rfl ?_
    refine pj_dup2 C dd_Md_oddsOf_157 rfl rfl ?_
    refine pj_iald C P 8 (LM8 hB) h dd_Md_oddsOf_158 (fun h => ?_)
    refine pj_iconst (v := (nI 1)) C dd_Md_oddsOf_159 rfl ?_
    refine pj_aload_n C dd_Md_oddsOf_160 rfl hl 0 rfl ?_
    refine pj_getR C P 0 (LM0 hB) rfl fl_Md_7 dd_Md_oddsOf_161 ?_
    refine pj_bipush (v := (nI 74)) C dd_Md_oddsOf_164 rfl ?_
    refine pj_bipush (v := (nI 8)) C dd_Md_oddsOf_166 rfl ?_
    refine pj_iload_n C dd_Md_oddsOf_168 rfl hl 2 rfl ?_
    refine pj_imul C dd_Md_oddsOf_169 ?_
    refine pj_iadd C dd_Md_oddsOf_170 ?_
    refine pj_iload_n C dd_Md_oddsOf_171 rfl hl 1 rfl ?_
    refine pj_iadd C dd_Md_oddsOf_172 ?_
    refine pj_iald C P 1 (LM1 hB) h dd_Md_oddsOf_173 (fun h => ?_)
    refine pj_isub C dd_Md_oddsOf_174 ?_
    refine pj_iadd C dd_Md_oddsOf_175 ?_
    refine pj_iast C P 8 (LM8 hB) h dd_Md_oddsOf_176 (fun H lo z1 h P => ?_)
    refine pj_iinc (v := (nI 1)) [(0, .ref (B.2.1 0)), (2, .int v2)] C h rfl dd_Md_oddsOf_177 hl 2 rfl (by decide) rfl (fun x2 ls h hl => ?_)
    refine pj_goto C dd_Md_oddsOf_180 ?_
    exact k141 _ _ _ _ _ _ h P (lv_sub hl [1, 2, 0] rfl)
theorem lt_Md_oddsOf_141 {B : pj_B} {A : Nat → Prop} {K : pj_K} {r0 : Int32} {z0 : pj_S} (hB : B.2.2.2.1 = pj_LM) (C : pj_C B A K cX11_oddsOf 4 RX11 3) (Q : pj_Qi B A K (some .int) r0 z0)  : ∀ (n : Nat) (v2 : Int32) (v3 : Int32) (z : pj_S) (H : Heap) (lo : List Loc) (ls : Array Slot), pj_lp2 Md_oddsOf_141 n v2 v3 z = some (r0, z0) → pj_P B A K z H lo → lv_has ls 4 [(0, .ref (B.2.1 0)), (2, .int v2), (3, .int v3)] → pj_W K H lo 141 ls [] := by
  intro n
  induction n with
  | zero => intro v2 v3 z H lo ls h; rw [pj_lp2_0] at h; cases h
  | succ n ih =>
    intro v2 v3 z H lo ls h P hl
    rw [pj_lp2_s] at h
    exact bt_Md_oddsOf_141 hB C Q   (pj_lp2 Md_oddsOf_141 n) ih v2 v3 z H lo ls h P hl
set_option maxHeartbeats 4000000 in
set_option maxRecDepth 100000 in
theorem bt_Md_oddsOf_117 {B : pj_B} {A : Nat → Prop} {K : pj_K} {r0 : Int32} {z0 : pj_S} (hB : B.2.2.2.1 = pj_LM) (C : pj_C B A K cX11_oddsOf 4 RX11 3) (Q : pj_Qi B A K (some .int) r0 z0)  (v2 : Int32) (t0 : Int32) (t1 : Int32) (z : pj_S) (H : Heap) (lo : List Loc) (ls : Array Slot) (h : Md_oddsOf_117 v2 t0 t1 z = some (r0, z0)) (P : pj_P B A K z H lo) (hl : lv_has ls 4 [(0, .ref (B.2.1 0)), (2, .int v2)]) : pj_W K H lo 117 ls [.int t0, .int t1, .ref (B.2.1 8)] := by
  unfold Md_oddsOf_117 at h
  refine pj_iast C P 8 (LM8 hB) h dd_Md_oddsOf_117 (fun H lo z1 h P => ?_)
  refine pj_aload_n C dd_Md_oddsOf_118 rfl hl 0 rfl ?_
  refine pj_getR C P 0 (LM0 hB) rfl fl_Md_31 dd_Md_oddsOf_119 ?_
  refine pj_bipush (v := (nI 6)) C dd_Md_oddsOf_122 rfl ?_
  refine pj_aload_n C dd_Md_oddsOf_124 rfl hl 0 rfl ?_
  refine pj_getR C P 0 (LM0 hB) rfl fl_Md_7 dd_Md_oddsOf_125 ?_
  refine pj_iconst (v := (nI 5)) C dd_Md_oddsOf_128 rfl ?_
  refine pj_iald C P 1 (LM1 hB) h dd_Md_oddsOf_129 (fun h => ?_)
  refine pj_iast C P 8 (LM8 hB) h dd_Md_oddsOf_130 (fun H lo z2 h P => ?_)
  refine pj_aload_n C dd_Md_oddsOf_131 rfl hl 0 rfl ?_
  refine pj_getR C P 0 (LM0 hB) rfl fl_Md_31 dd_Md_oddsOf_132 ?_
  refine pj_bipush (v := (nI 7)) C dd_Md_oddsOf_135 rfl ?_
  refine pj_iconst (v := (nI 0)) C dd_Md_oddsOf_137 rfl ?_
  refine pj_iast C P 8 (LM8 hB) h dd_Md_oddsOf_138 (fun H lo z3 h P => ?_)
  refine pj_iconst (v := (nI 0)) C dd_Md_oddsOf_139 rfl ?_
  refine pj_istore_n [(3, .int (nI 0)), (0, .ref (B.2.1 0)), (2, .int v2)] C dd_Md_oddsOf_140 rfl hl (by decide) rfl (fun ls hl => ?_)
  exact lt_Md_oddsOf_141 hB C Q 4000 _ _ _ _ _ _ h P (lv_sub hl [1, 2, 0] rfl)
set_option maxHeartbeats 4000000 in
set_option maxRecDepth 100000 in
theorem bt_Md_oddsOf_88 {B : pj_B} {A : Nat → Prop} {K : pj_K} {r0 : Int32} {z0 : pj_S} (hB : B.2.2.2.1 = pj_LM) (C : pj_C B A K cX11_oddsOf 4 RX11 3) (Q : pj_Qi B A K (some .int) r0 z0)  (v1 : Int32) (v2 : Int32) (t0 : Int32) (t1 : Int32) (t2 : Int32) (z : pj_S) (H : Heap) (lo : List Loc) (ls : Array Slot) (h : Md_oddsOf_88 v1 v2 t0 t1 t2 z = some (r0, z0)) (P : pj_P B A K z H lo) (hl : lv_has ls 4 [(0, .ref (B.2.1 0)), (1, .int v1), (2, .int v2)]) : pj_W K H lo 88 ls [.int t0, .int t1, .int t2, .ref (B.2.1 8)] := by
  unfold Md_oddsOf_88 at h
  refine pj_iadd C dd_Md_oddsOf_88 ?_
  refine pj_iast C P 8 (LM8 hB) h dd_Md_oddsOf_89 (fun H lo z1 h P => ?_)
  refine pj_aload_n C dd_Md_oddsOf_90 rfl hl 0 rfl ?_
  refine pj_getR C P 0 (LM0 hB) rfl fl_Md_31 dd_Md_oddsOf_91 ?_
  refine pj_iconst (v := (nI 5)) C dd_Md_oddsOf_94 rfl ?_
  refine pj_iload_n C dd_Md_oddsOf_95 rfl hl 1 rfl ?_
  refine pj_bipush (v := (nI 8)) C dd_Md_oddsOf_96 rfl ?_
  refine pj_ic_lt C h dd_Md_oddsOf_98 (fun h => ?_) (fun h => ?_)
  · refine pj_iconst (v := (nI 0)) C dd_Md_oddsOf_116 rfl ?_
    exact bt_Md_oddsOf_117 hB C Q _ _ _ _ _ _ _ h P (lv_sub hl [0, 2] rfl)
  · refine pj_aload_n C dd_Md_oddsOf_101 rfl hl 0 rfl ?_
    refine pj_getR C P 0 (LM0 hB) rfl fl_Md_7 dd_Md_oddsOf_102 ?_
    refine pj_bipush (v := (nI 74)) C dd_Md_oddsOf_105 rfl ?_
    refine pj_iload_n C dd_Md_oddsOf_107 rfl hl 1 rfl ?_
    refine pj_iadd C dd_Md_oddsOf_108 ?_
    refine pj_bipush (v := (nI 8)) C dd_Md_oddsOf_109 rfl ?_
    refine pj_isub C dd_Md_oddsOf_111 ?_
    refine pj_iald C P 1 (LM1 hB) h dd_Md_oddsOf_112 (fun h => ?_)
    refine pj_goto C dd_Md_oddsOf_113 ?_
    exact bt_Md_oddsOf_117 hB C Q _ _ _ _ _ _ _ h P (lv_sub hl [0, 2] rfl)
set_option maxHeartbeats 4000000 in
set_option maxRecDepth 100000 in
theorem bt_Md_oddsOf_61 {B : pj_B} {A : Nat → Prop} {K : pj_K} {r0 : Int32} {z0 : pj_S} (hB : B.2.2.2.1 = pj_LM) (C : pj_C B A K cX11_oddsOf 4 RX11 3) (Q : pj_Qi B A K (some .int) r0 z0)  (v1 : Int32) (v2 : Int32) (t0 : Int32) (t1 : Int32) (z : pj_S) (H : Heap) (lo : List Loc) (ls : Array Slot) (h : Md_oddsOf_61 v1 v2 t0 t1 z = some (r0, z0)) (P : pj_P B A K z H lo) (hl : lv_has ls 4 [(0, .ref (B.2.1 0)), (1, .int v1), (2, .int v2)]) : pj_W K H lo 61 ls [.int t0, .int t1, .ref (B.2.1 8)] := by
  unfold Md_oddsOf_61 at h
  refine pj_iload_n C dd_Md_oddsOf_61 rfl hl 2 rfl ?_
  refine pj_iconst (v := (nI 1)) C dd_Md_oddsOf_62 rfl ?_
  refine pj_iadd C dd_Md_oddsOf_63 ?_
  refine pj_aload_n C dd_Md_oddsOf_64 rfl hl 0 rfl ?_
  refine pj_getR C P 0 (LM0 hB) rfl fl_Md_7 dd_Md_oddsOf_65 ?_
  refine pj_iconst (v := (nI 0)) C dd_Md_oddsOf_68 rfl ?_
  refine pj_iald C P 1 (LM1 hB) h dd_Md_oddsOf_69 (fun h => ?_)
  refine pj_ic_ge C h dd_Md_oddsOf_70 (fun h => ?_) (fun h => ?_)
  · refine pj_iconst (v := (nI 0)) C dd_Md_oddsOf_87 rfl ?_
    exact bt_Md_oddsOf_88 hB C Q _ _ _ _ _ _ _ _ _ h P (lv_sub hl [0, 1, 2] rfl)
  · refine pj_aload_n C dd_Md_oddsOf_73 rfl hl 0 rfl ?_
    refine pj_getR C P 0 (LM0 hB) rfl fl_Md_7 dd_Md_oddsOf_74 ?_
    refine pj_bipush (v := (nI 74)) C dd_Md_oddsOf_77 rfl ?_
    refine pj_iload_n C dd_Md_oddsOf_79 rfl hl 1 rfl ?_
    refine pj_iadd C dd_Md_oddsOf_80 ?_
    refine pj_iconst (v := (nI 1)) C dd_Md_oddsOf_81 rfl ?_
    refine pj_iadd C dd_Md_oddsOf_82 ?_
    refine pj_iald C P 1 (LM1 hB) h dd_Md_oddsOf_83 (fun h => ?_)
    refine pj_goto C dd_Md_oddsOf_84 ?_
    exact bt_Md_oddsOf_88 hB C Q _ _ _ _ _ _ _ _ _ h P (lv_sub hl [0, 1, 2] rfl)
set_option maxHeartbeats 4000000 in
set_option maxRecDepth 100000 in
theorem ct_Md_oddsOf {l : Launch} {B : pj_B} (hB : B.2.2.2.1 = pj_LM) {v1 : Int32} {z : pj_S} {r0 : Int32} {z0 : pj_S} (h : Md_oddsOf v1 z = some (r0, z0)) : pj_Mi l yX11_oddsOf cX11_oddsOf 4 (some .int) 3 [.ref (B.2.1 0), .int v1] B z r0 z0 := by
  refine pj_meti (own := RX11) (by decide +kernel) rfl (Nat.le_of_ble_eq_true rfl) ?_
  intro A K hK C Q H lo ls P hl
  have hl : lv_has ls 4 [(0, .ref (B.2.1 0)), (1, .int v1)] := hl
  unfold Md_oddsOf at h
  refine pj_iload_n C dd_Md_oddsOf_0 rfl hl 1 rfl ?_
  refine pj_bipush (v := (nI 8)) C dd_Md_oddsOf_1 rfl ?_
  refine pj_irem C h dd_Md_oddsOf_3 (fun h => ?_)
  refine pj_istb_n [(0, .ref (B.2.1 0)), (1, .int v1)] C h dd_Md_oddsOf_4 rfl hl (by decide) rfl (fun x1 ls h hl => ?_)
  refine pj_aload_n C dd_Md_oddsOf_5 rfl hl 1 rfl ?_
  refine pj_getR C P 0 (LM0 hB) rfl fl_Md_31 dd_Md_oddsOf_6 ?_
  refine pj_iconst (v := (nI 1)) C dd_Md_oddsOf_9 rfl ?_
  refine pj_aload_n C dd_Md_oddsOf_10 rfl hl 1 rfl ?_
  refine pj_getR C P 0 (LM0 hB) rfl fl_Md_7 dd_Md_oddsOf_11 ?_
  refine pj_bipush (v := (nI 10)) C dd_Md_oddsOf_14 rfl ?_
  refine pj_iload_n C dd_Md_oddsOf_16 rfl hl 2 rfl ?_
  refine pj_iadd C dd_Md_oddsOf_17 ?_
  refine pj_iald C P 1 (LM1 hB) h dd_Md_oddsOf_18 (fun h => ?_)
  refine pj_iast C P 8 (LM8 hB) h dd_Md_oddsOf_19 (fun H lo z2 h P => ?_)
  refine pj_aload_n C dd_Md_oddsOf_20 rfl hl 1 rfl ?_
  refine pj_getR C P 0 (LM0 hB) rfl fl_Md_31 dd_Md_oddsOf_21 ?_
  refine pj_iconst (v := (nI 2)) C dd_Md_oddsOf_24 rfl ?_
  refine pj_iload_n C dd_Md_oddsOf_25 rfl hl 2 rfl ?_
  refine pj_bipush (v := (nI 8)) C dd_Md_oddsOf_26 rfl ?_
  refine pj_idiv C h dd_Md_oddsOf_28 (fun h => ?_)
  refine pj_iast C P 8 (LM8 hB) h dd_Md_oddsOf_29 (fun H lo z3 h P => ?_)
  refine pj_aload_n C dd_Md_oddsOf_30 rfl hl 1 rfl ?_
  refine pj_getR C P 0 (LM0 hB) rfl fl_Md_31 dd_Md_oddsOf_31 ?_
  refine pj_iconst (v := (nI 3)) C dd_Md_oddsOf_34 rfl ?_
  refine pj_iload_n C dd_Md_oddsOf_35 rfl hl 0 rfl ?_
  refine pj_iast C P 8 (LM8 hB) h dd_Md_oddsOf_36 (fun H lo z4 h P => ?_)
  refine pj_aload_n C dd_Md_oddsOf_37 rfl hl 1 rfl ?_
  refine pj_getR C P 0 (LM0 hB) rfl fl_Md_31 dd_Md_oddsOf_38 ?_
  refine pj_iconst (v := (nI 4)) C dd_Md_oddsOf_41 rfl ?_
  refine pj_iload_n C dd_Md_oddsOf_42 rfl hl 0 rfl ?_
  refine pj_if_le C h dd_Md_oddsOf_43 (fun h => ?_) (fun h => ?_)
  · refine pj_iconst (v := (nI 0)) C dd_Md_oddsOf_60 rfl ?_
    exact bt_Md_oddsOf_61 hB C Q _ _ _ _ _ _ _ _ h P (lv_sub hl [1, 2, 0] rfl)
  · refine pj_aload_n C dd_Md_oddsOf_46 rfl hl 1 rfl ?_
    refine pj_getR C P 0 (LM0 hB) rfl fl_Md_7 dd_Md_oddsOf_47 ?_
    refine pj_bipush (v := (nI 74)) C dd_Md_oddsOf_50 rfl ?_
    refine pj_iload_n C dd_Md_oddsOf_52 rfl hl 2 rfl ?_
    refine pj_iadd C dd_Md_oddsOf_53 ?_
    refine pj_iconst (v := (nI 1)) C dd_Md_oddsOf_54 rfl ?_
    refine pj_isub C dd_Md_oddsOf_55 ?_
    refine pj_iald C P 1 (LM1 hB) h dd_Md_oddsOf_56 (fun h => ?_)
    refine pj_goto C dd_Md_oddsOf_57 ?_
    exact bt_Md_oddsOf_61 hB C Q _ _ _ _ _ _ _ _ h P (lv_sub hl [1, 2, 0] rfl)
theorem dd_Md_anHour_0 : pj_d cX11_anHour 0 (.aload_n 0) 1 1 := ⟨by decide +kernel, rfl⟩
theorem dd_Md_anHour_1 : pj_d cX11_anHour 1 (.invokevirtual 267) 3 4 := ⟨by decide +kernel, rfl⟩
theorem dd_Md_anHour_4 : pj_d cX11_anHour 4 (.aload_n 0) 1 5 := ⟨by decide +kernel, rfl⟩
theorem dd_Md_anHour_5 : pj_d cX11_anHour 5 (.invokevirtual 270) 3 8 := ⟨by decide +kernel, rfl⟩
theorem dd_Md_anHour_8 : pj_d cX11_anHour 8 (.iconst 0) 1 9 := ⟨by decide +kernel, rfl⟩
theorem dd_Md_anHour_9 : pj_d cX11_anHour 9 (.istore_n 1) 1 10 := ⟨by decide +kernel, rfl⟩
theorem dd_Md_anHour_10 : pj_d cX11_anHour 10 (.iload_n 1) 1 11 := ⟨by decide +kernel, rfl⟩
theorem dd_Md_anHour_11 : pj_d cX11_anHour 11 (.bipush 64) 2 13 := ⟨by decide +kernel, rfl⟩
theorem dd_Md_anHour_13 : pj_dj cX11_anHour 13 (.if_icmp .ge 53) 53 16 66 := ⟨by decide +kernel, rfl, by decide⟩
theorem dd_Md_anHour_16 : pj_d cX11_anHour 16 (.aload_n 0) 1 17 := ⟨by decide +kernel, rfl⟩
theorem dd_Md_anHour_17 : pj_d cX11_anHour 17 (.iload_n 1) 1 18 := ⟨by decide +kernel, rfl⟩
theorem dd_Md_anHour_18 : pj_d cX11_anHour 18 (.invokevirtual 220) 3 21 := ⟨by decide +kernel, rfl⟩
theorem dd_Md_anHour_21 : pj_dj cX11_anHour 21 (.ifCond .eq 11) 11 24 32 := ⟨by decide +kernel, rfl, by decide⟩
theorem dd_Md_anHour_24 : pj_d cX11_anHour 24 (.aload_n 0) 1 25 := ⟨by decide +kernel, rfl⟩
theorem dd_Md_anHour_25 : pj_d cX11_anHour 25 (.iload_n 1) 1 26 := ⟨by decide +kernel, rfl⟩
theorem dd_Md_anHour_26 : pj_d cX11_anHour 26 (.invokevirtual 280) 3 29 := ⟨by decide +kernel, rfl⟩
theorem dd_Md_anHour_29 : pj_dj cX11_anHour 29 (.goto 4) 4 32 33 := ⟨by decide +kernel, rfl, by decide⟩
theorem dd_Md_anHour_32 : pj_d cX11_anHour 32 (.iconst 0) 1 33 := ⟨by decide +kernel, rfl⟩
theorem dd_Md_anHour_33 : pj_d cX11_anHour 33 (.istore_n 2) 1 34 := ⟨by decide +kernel, rfl⟩
theorem dd_Md_anHour_34 : pj_d cX11_anHour 34 (.aload_n 0) 1 35 := ⟨by decide +kernel, rfl⟩
theorem dd_Md_anHour_35 : pj_d cX11_anHour 35 (.getfield 50) 3 38 := ⟨by decide +kernel, rfl⟩
theorem dd_Md_anHour_38 : pj_d cX11_anHour 38 (.iload_n 1) 1 39 := ⟨by decide +kernel, rfl⟩
theorem dd_Md_anHour_39 : pj_d cX11_anHour 39 (.iload_n 2) 1 40 := ⟨by decide +kernel, rfl⟩
theorem dd_Md_anHour_40 : pj_dj cX11_anHour 40 (.ifCond .le 18) 18 43 58 := ⟨by decide +kernel, rfl, by decide⟩
theorem dd_Md_anHour_43 : pj_d cX11_anHour 43 (.aload_n 0) 1 44 := ⟨by decide +kernel, rfl⟩
theorem dd_Md_anHour_44 : pj_d cX11_anHour 44 (.sipush 1000) 3 47 := ⟨by decide +kernel, rfl⟩
theorem dd_Md_anHour_47 : pj_d cX11_anHour 47 (.invokevirtual 283) 3 50 := ⟨by decide +kernel, rfl⟩
theorem dd_Md_anHour_50 : pj_d cX11_anHour 50 (.iload_n 2) 1 51 := ⟨by decide +kernel, rfl⟩
theorem dd_Md_anHour_51 : pj_dj cX11_anHour 51 (.if_icmp .ge 7) 7 54 58 := ⟨by decide +kernel, rfl, by decide⟩
theorem dd_Md_anHour_54 : pj_d cX11_anHour 54 (.iconst 1) 1 55 := ⟨by decide +kernel, rfl⟩
theorem dd_Md_anHour_55 : pj_dj cX11_anHour 55 (.goto 4) 4 58 59 := ⟨by decide +kernel, rfl, by decide⟩
theorem dd_Md_anHour_58 : pj_d cX11_anHour 58 (.iconst 0) 1 59 := ⟨by decide +kernel, rfl⟩
theorem dd_Md_anHour_59 : pj_d cX11_anHour 59 (.iastore) 1 60 := ⟨by decide +kernel, rfl⟩
theorem dd_Md_anHour_60 : pj_d cX11_anHour 60 (.iinc 1 1) 3 63 := ⟨by decide +kernel, rfl⟩
theorem dd_Md_anHour_63 : pj_dj cX11_anHour 63 (.goto (-53)) (-53) 66 10 := ⟨by decide +kernel, rfl, by decide⟩
theorem dd_Md_anHour_66 : pj_d cX11_anHour 66 (.iconst 0) 1 67 := ⟨by decide +kernel, rfl⟩
theorem dd_Md_anHour_67 : pj_d cX11_anHour 67 (.istore_n 1) 1 68 := ⟨by decide +kernel, rfl⟩
theorem dd_Md_anHour_68 : pj_d cX11_anHour 68 (.iconst 0) 1 69 := ⟨by decide +kernel, rfl⟩
theorem dd_Md_anHour_69 : pj_d cX11_anHour 69 (.istore_n 2) 1 70 := ⟨by decide +kernel, rfl⟩
theorem dd_Md_anHour_70 : pj_d cX11_anHour 70 (.iload_n 2) 1 71 := ⟨by decide +kernel, rfl⟩
theorem dd_Md_anHour_71 : pj_d cX11_anHour 71 (.bipush 64) 2 73 := ⟨by decide +kernel, rfl⟩
theorem dd_Md_anHour_73 : pj_dj cX11_anHour 73 (.if_icmp .ge 30) 30 76 103 := ⟨by decide +kernel, rfl, by decide⟩
theorem dd_Md_anHour_76 : pj_d cX11_anHour 76 (.aload_n 0) 1 77 := ⟨by decide +kernel, rfl⟩
theorem dd_Md_anHour_77 : pj_d cX11_anHour 77 (.getfield 50) 3 80 := ⟨by decide +kernel, rfl⟩
theorem dd_Md_anHour_80 : pj_d cX11_anHour 80 (.iload_n 2) 1 81 := ⟨by decide +kernel, rfl⟩
theorem dd_Md_anHour_81 : pj_d cX11_anHour 81 (.iaload) 1 82 := ⟨by decide +kernel, rfl⟩
theorem dd_Md_anHour_82 : pj_dj cX11_anHour 82 (.ifCond .ne 6) 6 85 88 := ⟨by decide +kernel, rfl, by decide⟩
theorem dd_Md_anHour_85 : pj_dj cX11_anHour 85 (.goto 12) 12 88 97 := ⟨by decide +kernel, rfl, by decide⟩
theorem dd_Md_anHour_88 : pj_d cX11_anHour 88 (.aload_n 0) 1 89 := ⟨by decide +kernel, rfl⟩
theorem dd_Md_anHour_89 : pj_d cX11_anHour 89 (.iload_n 2) 1 90 := ⟨by decide +kernel, rfl⟩
theorem dd_Md_anHour_90 : pj_d cX11_anHour 90 (.iconst 1) 1 91 := ⟨by decide +kernel, rfl⟩
theorem dd_Md_anHour_91 : pj_d cX11_anHour 91 (.invokevirtual 243) 3 94 := ⟨by decide +kernel, rfl⟩
theorem dd_Md_anHour_94 : pj_d cX11_anHour 94 (.iinc 1 1) 3 97 := ⟨by decide +kernel, rfl⟩
theorem dd_Md_anHour_97 : pj_d cX11_anHour 97 (.iinc 2 1) 3 100 := ⟨by decide +kernel, rfl⟩
theorem dd_Md_anHour_100 : pj_dj cX11_anHour 100 (.goto (-30)) (-30) 103 70 := ⟨by decide +kernel, rfl, by decide⟩
theorem dd_Md_anHour_103 : pj_d cX11_anHour 103 (.aload_n 0) 1 104 := ⟨by decide +kernel, rfl⟩
theorem dd_Md_anHour_104 : pj_d cX11_anHour 104 (.getfield 7) 3 107 := ⟨by decide +kernel, rfl⟩
theorem dd_Md_anHour_107 : pj_d cX11_anHour 107 (.iconst 5) 1 108 := ⟨by decide +kernel, rfl⟩
theorem dd_Md_anHour_108 : pj_d cX11_anHour 108 (.dup2) 1 109 := ⟨by decide +kernel, rfl⟩
theorem dd_Md_anHour_109 : pj_d cX11_anHour 109 (.iaload) 1 110 := ⟨by decide +kernel, rfl⟩
theorem dd_Md_anHour_110 : pj_d cX11_anHour 110 (.iconst 1) 1 111 := ⟨by decide +kernel, rfl⟩
theorem dd_Md_anHour_111 : pj_d cX11_anHour 111 (.iadd) 1 112 := ⟨by decide +kernel, rfl⟩
theorem dd_Md_anHour_112 : pj_d cX11_anHour 112 (.iastore) 1 113 := ⟨by decide +kernel, rfl⟩
theorem dd_Md_anHour_113 : pj_d cX11_anHour 113 (.iload_n 1) 1 114 := ⟨by decide +kernel, rfl⟩
theorem dd_Md_anHour_114 : pj_d cX11_anHour 114 (.ireturn) 1 115 := ⟨by decide +kernel, rfl⟩
set_option maxHeartbeats 4000000 in
set_option maxRecDepth 100000 in
theorem bt_Md_anHour_59 {B : pj_B} {A : Nat → Prop} {K : pj_K} {r0 : Int32} {z0 : pj_S} (hB : B.2.2.2.1 = pj_LM) (C : pj_C B A K cX11_anHour 3 RX11 4) (Q : pj_Qi B A K (some .int) r0 z0) (s10 : Int32 → pj_S → Option (Int32 × pj_S)) (k10 : ∀ (v1 : Int32) (z : pj_S) (H : Heap) (lo : List Loc) (ls : Array Slot), s10 v1 z = some (r0, z0) → pj_P B A K z H lo → lv_has ls 3 [(0, .ref (B.2.1 0)), (1, .int v1)] → pj_W K H lo 10 ls []) (v1 : Int32) (t0 : Int32) (t1 : Int32) (z : pj_S) (H : Heap) (lo : List Loc) (ls : Array Slot) (h : Md_anHour_59 s10 v1 t0 t1 z = some (r0, z0)) (P : pj_P B A K z H lo) (hl : lv_has ls 3 [(0, .ref (B.2.1 0)), (1, .int v1)]) : pj_W K H lo 59 ls [.int t0, .int t1, .ref (B.2.1 13)] := by
  unfold Md_anHour_59 at h
  refine pj_iast C P 13 (LM13 hB) h dd_Md_anHour_59 (fun H lo z1 h P => ?_)
  refine pj_iinc (v := (nI 1)) [(0, .ref (B.2.1 0))] C h rfl dd_Md_anHour_60 hl 1 rfl (by decide) rfl (fun x2 ls h hl => ?_)
  refine pj_goto C dd_Md_anHour_63 ?_
  exact k10 _ _ _ _ _ h P (lv_sub hl [1, 0] rfl)
set_option maxHeartbeats 4000000 in
set_option maxRecDepth 100000 in
theorem bt_Md_anHour_58 {B : pj_B} {A : Nat → Prop} {K : pj_K} {r0 : Int32} {z0 : pj_S} (hB : B.2.2.2.1 = pj_LM) (C : pj_C B A K cX11_anHour 3 RX11 4) (Q : pj_Qi B A K (some .int) r0 z0) (s10 : Int32 → pj_S → Option (Int32 × pj_S)) (k10 : ∀ (v1 : Int32) (z : pj_S) (H : Heap) (lo : List Loc) (ls : Array Slot), s10 v1 z = some (r0, z0) → pj_P B A K z H lo → lv_has ls 3 [(0, .ref (B.2.1 0)), (1, .int v1)] → pj_W K H lo 10 ls []) (v1 : Int32) (t0 : Int32) (z : pj_S) (H : Heap) (lo : List Loc) (ls : Array Slot) (h : Md_anHour_58 s10 v1 t0 z = some (r0, z0)) (P : pj_P B A K z H lo) (hl : lv_has ls 3 [(0, .ref (B.2.1 0)), (1, .int v1)]) : pj_W K H lo 58 ls [.int t0, .ref (B.2.1 13)] := by
  unfold Md_anHour_58 at h
  refine pj_iconst (v := (nI 0)) C dd_Md_anHour_58 rfl ?_
  exact bt_Md_anHour_59 hB C Q s10 k10 _ _ _ _ _ _ _ h P (lv_sub hl [0, 1] rfl)
set_option maxHeartbeats 4000000 in
set_option maxRecDepth 100000 in
theorem bt_Md_anHour_33 {B : pj_B} {A : Nat → Prop} {K : pj_K} {r0 : Int32} {z0 : pj_S} (hB : B.2.2.2.1 = pj_LM) (C : pj_C B A K cX11_anHour 3 RX11 4) (Q : pj_Qi B A K (some .int) r0 z0) (s10 : Int32 → pj_S → Option (Int32 × pj_S)) (k10 : ∀ (v1 : Int32) (z : pj_S) (H : Heap) (lo : List Loc) (ls : Array Slot), s10 v1 z = some (r0, z0) → pj_P B A K z H lo → lv_has ls 3 [(0, .ref (B.2.1 0)), (1, .int v1)] → pj_W K H lo 10 ls []) (v1 : Int32) (t0 : Int32) (z : pj_S) (H : Heap) (lo : List Loc) (ls : Array Slot) (h : Md_anHour_33 s10 v1 t0 z = some (r0, z0)) (P : pj_P B A K z H lo) (hl : lv_has ls 3 [(0, .ref (B.2.1 0)), (1, .int v1)]) : pj_W K H lo 33 ls [.int t0] := by
  unfold Md_anHour_33 at h
  refine pj_istore_n [(2, .int t0), (0, .ref (B.2.1 0)), (1, .int v1)] C dd_Md_anHour_33 rfl hl (by decide) rfl (fun ls hl => ?_)
  refine pj_aload_n C dd_Md_anHour_34 rfl hl 1 rfl ?_
  refine pj_getR C P 0 (LM0 hB) rfl fl_Md_50 dd_Md_anHour_35 ?_
  refine pj_iload_n C dd_Md_anHour_38 rfl hl 2 rfl ?_
  refine pj_iload_n C dd_Md_anHour_39 rfl hl 0 rfl ?_
  refine pj_if_le C h dd_Md_anHour_40 (fun h => ?_) (fun h => ?_)
  · exact bt_Md_anHour_58 hB C Q s10 k10 _ _ _ _ _ _ h P (lv_sub hl [1, 2] rfl)
  · refine pj_aload_n C dd_Md_anHour_43 rfl hl 1 rfl ?_
    refine pj_sipush (v := (nI 1000)) C dd_Md_anHour_44 rfl ?_
    obtain ⟨r3, z2, e1, h⟩ := pj_cE h
    refine pj_cVi (st := [.int v1, .ref (B.2.1 13)]) [.int (nI 1000)] C P 0 (LM0 hB) rfl (ct_Md_draw hB e1) cl_Md_283 rfl (by decide) (by decide) hl.1 (Nat.le_of_ble_eq_true rfl) dd_Md_anHour_47 (fun H lo P => ?_)
    refine pj_iload_n C dd_Md_anHour_50 rfl hl 0 rfl ?_
    refine pj_ic_ge C h dd_Md_anHour_51 (fun h => ?_) (fun h => ?_)
    · exact bt_Md_anHour_58 hB C Q s10 k10 _ _ _ _ _ _ h P (lv_sub hl [1, 2] rfl)
    · refine pj_iconst (v := (nI 1)) C dd_Md_anHour_54 rfl ?_
      refine pj_goto C dd_Md_anHour_55 ?_
      exact bt_Md_anHour_59 hB C Q s10 k10 _ _ _ _ _ _ _ h P (lv_sub hl [1, 2] rfl)
set_option maxHeartbeats 4000000 in
set_option maxRecDepth 100000 in
theorem bt_Md_anHour_97 {B : pj_B} {A : Nat → Prop} {K : pj_K} {r0 : Int32} {z0 : pj_S} (hB : B.2.2.2.1 = pj_LM) (C : pj_C B A K cX11_anHour 3 RX11 4) (Q : pj_Qi B A K (some .int) r0 z0) (s70 : Int32 → Int32 → pj_S → Option (Int32 × pj_S)) (k70 : ∀ (v1 : Int32) (v2 : Int32) (z : pj_S) (H : Heap) (lo : List Loc) (ls : Array Slot), s70 v1 v2 z = some (r0, z0) → pj_P B A K z H lo → lv_has ls 3 [(0, .ref (B.2.1 0)), (1, .int v1), (2, .int v2)] → pj_W K H lo 70 ls []) (v1 : Int32) (v2 : Int32) (z : pj_S) (H : Heap) (lo : List Loc) (ls : Array Slot) (h : Md_anHour_97 s70 v1 v2 z = some (r0, z0)) (P : pj_P B A K z H lo) (hl : lv_has ls 3 [(0, .ref (B.2.1 0)), (1, .int v1), (2, .int v2)]) : pj_W K H lo 97 ls [] := by
  unfold Md_anHour_97 at h
  refine pj_iinc (v := (nI 1)) [(0, .ref (B.2.1 0)), (1, .int v1)] C h rfl dd_Md_anHour_97 hl 2 rfl (by decide) rfl (fun x1 ls h hl => ?_)
  refine pj_goto C dd_Md_anHour_100 ?_
  exact k70 _ _ _ _ _ _ h P (lv_sub hl [1, 2, 0] rfl)
set_option maxHeartbeats 4000000 in
set_option maxRecDepth 100000 in
theorem bt_Md_anHour_103 {B : pj_B} {A : Nat → Prop} {K : pj_K} {r0 : Int32} {z0 : pj_S} (hB : B.2.2.2.1 = pj_LM) (C : pj_C B A K cX11_anHour 3 RX11 4) (Q : pj_Qi B A K (some .int) r0 z0)  (v1 : Int32) (z : pj_S) (H : Heap) (lo : List Loc) (ls : Array Slot) (h : Md_anHour_103 v1 z = some (r0, z0)) (P : pj_P B A K z H lo) (hl : lv_has ls 3 [(0, .ref (B.2.1 0)), (1, .int v1)]) : pj_W K H lo 103 ls [] := by
  unfold Md_anHour_103 at h
  refine pj_aload_n C dd_Md_anHour_103 rfl hl 0 rfl ?_
  refine pj_getR C P 0 (LM0 hB) rfl fl_Md_7 dd_Md_anHour_104 ?_
  refine pj_iconst (v := (nI 5)) C dd_Md_anHour_107 rfl ?_
  refine pj_dup2 C dd_Md_anHour_108 rfl rfl ?_
  refine pj_iald C P 1 (LM1 hB) h dd_Md_anHour_109 (fun h => ?_)
  refine pj_iconst (v := (nI 1)) C dd_Md_anHour_110 rfl ?_
  refine pj_iadd C dd_Md_anHour_111 ?_
  refine pj_iast C P 1 (LM1 hB) h dd_Md_anHour_112 (fun H lo z1 h P => ?_)
  refine pj_iload_n C dd_Md_anHour_113 rfl hl 1 rfl ?_
  exact pj_iret C Q P h dd_Md_anHour_114
set_option maxHeartbeats 4000000 in
set_option maxRecDepth 100000 in
theorem bt_Md_anHour_70 {B : pj_B} {A : Nat → Prop} {K : pj_K} {r0 : Int32} {z0 : pj_S} (hB : B.2.2.2.1 = pj_LM) (C : pj_C B A K cX11_anHour 3 RX11 4) (Q : pj_Qi B A K (some .int) r0 z0) (s70 : Int32 → Int32 → pj_S → Option (Int32 × pj_S)) (k70 : ∀ (v1 : Int32) (v2 : Int32) (z : pj_S) (H : Heap) (lo : List Loc) (ls : Array Slot), s70 v1 v2 z = some (r0, z0) → pj_P B A K z H lo → lv_has ls 3 [(0, .ref (B.2.1 0)), (1, .int v1), (2, .int v2)] → pj_W K H lo 70 ls []) (v1 : Int32) (v2 : Int32) (z : pj_S) (H : Heap) (lo : List Loc) (ls : Array Slot) (h : Md_anHour_70 s70 v1 v2 z = some (r0, z0)) (P : pj_P B A K z H lo) (hl : lv_has ls 3 [(0, .ref (B.2.1 0)), (1, .int v1), (2, .int v2)]) : pj_W K H lo 70 ls [] := by
  unfold Md_anHour_70 at h
  refine pj_iload_n C dd_Md_anHour_70 rfl hl 2 rfl ?_
  refine pj_bipush (v := (nI 64)) C dd_Md_anHour_71 rfl ?_
  refine pj_ic_ge C h dd_Md_anHour_73 (fun h => ?_) (fun h => ?_)
  · exact bt_Md_anHour_103 hB C Q _ _ _ _ _ h P (lv_sub hl [0, 1] rfl)
  · refine pj_aload_n C dd_Md_anHour_76 rfl hl 0 rfl ?_
    refine pj_getR C P 0 (LM0 hB) rfl fl_Md_50 dd_Md_anHour_77 ?_
    refine pj_iload_n C dd_Md_anHour_80 rfl hl 2 rfl ?_
    refine pj_iald C P 13 (LM13 hB) h dd_Md_anHour_81 (fun h => ?_)
    refine pj_if_ne C h dd_Md_anHour_82 (fun h => ?_) (fun h => ?_)
    · refine pj_aload_n C dd_Md_anHour_88 rfl hl 0 rfl ?_
      refine pj_iload_n C dd_Md_anHour_89 rfl hl 2 rfl ?_
      refine pj_iconst (v := (nI 1)) C dd_Md_anHour_90 rfl ?_
      obtain ⟨r3, z2, e1, h⟩ := pj_cE h
      refine pj_cVv (st := []) [.int v2, .int (nI 1)] C P 0 (LM0 hB) rfl (ct_Md_isGone hB e1) cl_Md_243 rfl (by decide) (by decide) hl.1 (Nat.le_of_ble_eq_true rfl) dd_Md_anHour_91 (fun H lo P => ?_)
      refine pj_iinc (v := (nI 1)) [(0, .ref (B.2.1 0)), (2, .int v2)] C h rfl dd_Md_anHour_94 hl 1 rfl (by decide) rfl (fun x4 ls h hl => ?_)
      exact bt_Md_anHour_97 hB C Q s70 k70 _ _ _ _ _ _ h P (lv_sub hl [1, 0, 2] rfl)
    · refine pj_goto C dd_Md_anHour_85 ?_
      exact bt_Md_anHour_97 hB C Q s70 k70 _ _ _ _ _ _ h P (lv_sub hl [0, 1, 2] rfl)
theorem lt_Md_anHour_70 {B : pj_B} {A : Nat → Prop} {K : pj_K} {r0 : Int32} {z0 : pj_S} (hB : B.2.2.2.1 = pj_LM) (C : pj_C B A K cX11_anHour 3 RX11 4) (Q : pj_Qi B A K (some .int) r0 z0)  : ∀ (n : Nat) (v1 : Int32) (v2 : Int32) (z : pj_S) (H : Heap) (lo : List Loc) (ls : Array Slot), pj_lp2 Md_anHour_70 n v1 v2 z = some (r0, z0) → pj_P B A K z H lo → lv_has ls 3 [(0, .ref (B.2.1 0)), (1, .int v1), (2, .int v2)] → pj_W K H lo 70 ls [] := by
  intro n
  induction n with
  | zero => intro v1 v2 z H lo ls h; rw [pj_lp2_0] at h; cases h
  | succ n ih =>
    intro v1 v2 z H lo ls h P hl
    rw [pj_lp2_s] at h
    exact bt_Md_anHour_70 hB C Q   (pj_lp2 Md_anHour_70 n) ih v1 v2 z H lo ls h P hl
set_option maxHeartbeats 4000000 in
set_option maxRecDepth 100000 in
theorem bt_Md_anHour_66 {B : pj_B} {A : Nat → Prop} {K : pj_K} {r0 : Int32} {z0 : pj_S} (hB : B.2.2.2.1 = pj_LM) (C : pj_C B A K cX11_anHour 3 RX11 4) (Q : pj_Qi B A K (some .int) r0 z0)   (z : pj_S) (H : Heap) (lo : List Loc) (ls : Array Slot) (h : Md_anHour_66 z = some (r0, z0)) (P : pj_P B A K z H lo) (hl : lv_has ls 3 [(0, .ref (B.2.1 0))]) : pj_W K H lo 66 ls [] := by
  unfold Md_anHour_66 at h
  refine pj_iconst (v := (nI 0)) C dd_Md_anHour_66 rfl ?_
  refine pj_istore_n [(1, .int (nI 0)), (0, .ref (B.2.1 0))] C dd_Md_anHour_67 rfl hl (by decide) rfl (fun ls hl => ?_)
  refine pj_iconst (v := (nI 0)) C dd_Md_anHour_68 rfl ?_
  refine pj_istore_n [(2, .int (nI 0)), (1, .int (nI 0)), (0, .ref (B.2.1 0))] C dd_Md_anHour_69 rfl hl (by decide) rfl (fun ls hl => ?_)
  exact lt_Md_anHour_70 hB C Q 4000 _ _ _ _ _ _ h P (lv_sub hl [2, 1, 0] rfl)
set_option maxHeartbeats 4000000 in
set_option maxRecDepth 100000 in
theorem bt_Md_anHour_10 {B : pj_B} {A : Nat → Prop} {K : pj_K} {r0 : Int32} {z0 : pj_S} (hB : B.2.2.2.1 = pj_LM) (C : pj_C B A K cX11_anHour 3 RX11 4) (Q : pj_Qi B A K (some .int) r0 z0) (s10 : Int32 → pj_S → Option (Int32 × pj_S)) (k10 : ∀ (v1 : Int32) (z : pj_S) (H : Heap) (lo : List Loc) (ls : Array Slot), s10 v1 z = some (r0, z0) → pj_P B A K z H lo → lv_has ls 3 [(0, .ref (B.2.1 0)), (1, .int v1)] → pj_W K H lo 10 ls []) (v1 : Int32) (z : pj_S) (H : Heap) (lo : List Loc) (ls : Array Slot) (h : Md_anHour_10 s10 v1 z = some (r0, z0)) (P : pj_P B A K z H lo) (hl : lv_has ls 3 [(0, .ref (B.2.1 0)), (1, .int v1)]) : pj_W K H lo 10 ls [] := by
  unfold Md_anHour_10 at h
  refine pj_iload_n C dd_Md_anHour_10 rfl hl 1 rfl ?_
  refine pj_bipush (v := (nI 64)) C dd_Md_anHour_11 rfl ?_
  refine pj_ic_ge C h dd_Md_anHour_13 (fun h => ?_) (fun h => ?_)
  · exact bt_Md_anHour_66 hB C Q _ _ _ _ h P (lv_sub hl [0] rfl)
  · refine pj_aload_n C dd_Md_anHour_16 rfl hl 0 rfl ?_
    refine pj_iload_n C dd_Md_anHour_17 rfl hl 1 rfl ?_
    obtain ⟨r3, z2, e1, h⟩ := pj_cE h
    refine pj_cVi (st := []) [.int v1] C P 0 (LM0 hB) rfl (ct_Md_isLoose hB e1) cl_Md_220 rfl (by decide) (by decide) hl.1 (Nat.le_of_ble_eq_true rfl) dd_Md_anHour_18 (fun H lo P => ?_)
    refine pj_if_eq C h dd_Md_anHour_21 (fun h => ?_) (fun h => ?_)
    · refine pj_iconst (v := (nI 0)) C dd_Md_anHour_32 rfl ?_
      exact bt_Md_anHour_33 hB C Q s10 k10 _ _ _ _ _ _ h P (lv_sub hl [0, 1] rfl)
    · refine pj_aload_n C dd_Md_anHour_24 rfl hl 0 rfl ?_
      refine pj_iload_n C dd_Md_anHour_25 rfl hl 1 rfl ?_
      obtain ⟨r6, z5, e4, h⟩ := pj_cE h
      refine pj_cVi (st := []) [.int v1] C P 0 (LM0 hB) rfl (ct_Md_oddsOf hB e4) cl_Md_280 rfl (by decide) (by decide) hl.1 (Nat.le_of_ble_eq_true rfl) dd_Md_anHour_26 (fun H lo P => ?_)
      refine pj_goto C dd_Md_anHour_29 ?_
      exact bt_Md_anHour_33 hB C Q s10 k10 _ _ _ _ _ _ h P (lv_sub hl [0, 1] rfl)
theorem lt_Md_anHour_10 {B : pj_B} {A : Nat → Prop} {K : pj_K} {r0 : Int32} {z0 : pj_S} (hB : B.2.2.2.1 = pj_LM) (C : pj_C B A K cX11_anHour 3 RX11 4) (Q : pj_Qi B A K (some .int) r0 z0)  : ∀ (n : Nat) (v1 : Int32) (z : pj_S) (H : Heap) (lo : List Loc) (ls : Array Slot), pj_lp1 Md_anHour_10 n v1 z = some (r0, z0) → pj_P B A K z H lo → lv_has ls 3 [(0, .ref (B.2.1 0)), (1, .int v1)] → pj_W K H lo 10 ls [] := by
  intro n
  induction n with
  | zero => intro v1 z H lo ls h; rw [pj_lp1_0] at h; cases h
  | succ n ih =>
    intro v1 z H lo ls h P hl
    rw [pj_lp1_s] at h
    exact bt_Md_anHour_10 hB C Q   (pj_lp1 Md_anHour_10 n) ih v1 z H lo ls h P hl
set_option maxHeartbeats 4000000 in
set_option maxRecDepth 100000 in
theorem ct_Md_anHour {l : Launch} {B : pj_B} (hB : B.2.2.2.1 = pj_LM)  {z : pj_S} {r0 : Int32} {z0 : pj_S} (h : Md_anHour z = some (r0, z0)) : pj_Mi l yX11_anHour cX11_anHour 3 (some .int) 4 [.ref (B.2.1 0)] B z r0 z0 := by
  refine pj_meti (own := RX11) (by decide +kernel) rfl (Nat.le_of_ble_eq_true rfl) ?_
  intro A K hK C Q H lo ls P hl
  have hl : lv_has ls 3 [(0, .ref (B.2.1 0))] := hl
  unfold Md_anHour at h
  refine pj_aload_n C dd_Md_anHour_0 rfl hl 0 rfl ?_
  obtain ⟨r3, z2, e1, h⟩ := pj_cE h
  refine pj_cVv (st := []) [] C P 0 (LM0 hB) rfl (ct_Md_laysNow hB e1) cl_Md_267 rfl (by decide) (by decide) hl.1 (Nat.le_of_ble_eq_true rfl) dd_Md_anHour_1 (fun H lo P => ?_)
  refine pj_aload_n C dd_Md_anHour_4 rfl hl 0 rfl ?_
  obtain ⟨r6, z5, e4, h⟩ := pj_cE h
  refine pj_cVv (st := []) [] C P 0 (LM0 hB) rfl (ct_Md_laysHolders hB e4) cl_Md_270 rfl (by decide) (by decide) hl.1 (Nat.le_of_ble_eq_true rfl) dd_Md_anHour_5 (fun H lo P => ?_)
  refine pj_iconst (v := (nI 0)) C dd_Md_anHour_8 rfl ?_
  refine pj_istore_n [(1, .int (nI 0)), (0, .ref (B.2.1 0))] C dd_Md_anHour_9 rfl hl (by decide) rfl (fun ls hl => ?_)
  exact lt_Md_anHour_10 hB C Q 4000 _ _ _ _ _ h P (lv_sub hl [1, 0] rfl)
theorem dd_Md_hours_0 : pj_d cX11_hours 0 (.iload_n 1) 1 1 := ⟨by decide +kernel, rfl⟩
theorem dd_Md_hours_1 : pj_d cX11_hours 1 (.iconst 1) 1 2 := ⟨by decide +kernel, rfl⟩
theorem dd_Md_hours_2 : pj_d cX11_hours 2 (.bipush 100) 2 4 := ⟨by decide +kernel, rfl⟩
theorem dd_Md_hours_4 : pj_d cX11_hours 4 (.invokestatic 70) 3 7 := ⟨by decide +kernel, rfl⟩
theorem dd_Md_hours_7 : pj_dj cX11_hours 7 (.ifCond .eq 17) 17 10 24 := ⟨by decide +kernel, rfl, by decide⟩
theorem dd_Md_hours_10 : pj_d cX11_hours 10 (.aload_n 0) 1 11 := ⟨by decide +kernel, rfl⟩
theorem dd_Md_hours_11 : pj_d cX11_hours 11 (.getfield 7) 3 14 := ⟨by decide +kernel, rfl⟩
theorem dd_Md_hours_14 : pj_d cX11_hours 14 (.iconst 5) 1 15 := ⟨by decide +kernel, rfl⟩
theorem dd_Md_hours_15 : pj_d cX11_hours 15 (.iaload) 1 16 := ⟨by decide +kernel, rfl⟩
theorem dd_Md_hours_16 : pj_d cX11_hours 16 (.iload_n 1) 1 17 := ⟨by decide +kernel, rfl⟩
theorem dd_Md_hours_17 : pj_d cX11_hours 17 (.iadd) 1 18 := ⟨by decide +kernel, rfl⟩
theorem dd_Md_hours_18 : pj_d cX11_hours 18 (.sipush 9999) 3 21 := ⟨by decide +kernel, rfl⟩
theorem dd_Md_hours_21 : pj_dj cX11_hours 21 (.if_icmp .le 5) 5 24 26 := ⟨by decide +kernel, rfl, by decide⟩
theorem dd_Md_hours_24 : pj_d cX11_hours 24 (.iconst (-1)) 1 25 := ⟨by decide +kernel, rfl⟩
theorem dd_Md_hours_25 : pj_d cX11_hours 25 (.ireturn) 1 26 := ⟨by decide +kernel, rfl⟩
theorem dd_Md_hours_26 : pj_d cX11_hours 26 (.iconst 0) 1 27 := ⟨by decide +kernel, rfl⟩
theorem dd_Md_hours_27 : pj_d cX11_hours 27 (.istore_n 2) 1 28 := ⟨by decide +kernel, rfl⟩
theorem dd_Md_hours_28 : pj_d cX11_hours 28 (.iconst 0) 1 29 := ⟨by decide +kernel, rfl⟩
theorem dd_Md_hours_29 : pj_d cX11_hours 29 (.istore_n 3) 1 30 := ⟨by decide +kernel, rfl⟩
theorem dd_Md_hours_30 : pj_d cX11_hours 30 (.iload_n 3) 1 31 := ⟨by decide +kernel, rfl⟩
theorem dd_Md_hours_31 : pj_d cX11_hours 31 (.iload_n 1) 1 32 := ⟨by decide +kernel, rfl⟩
theorem dd_Md_hours_32 : pj_dj cX11_hours 32 (.if_icmp .ge 20) 20 35 52 := ⟨by decide +kernel, rfl, by decide⟩
theorem dd_Md_hours_35 : pj_d cX11_hours 35 (.aload_n 0) 1 36 := ⟨by decide +kernel, rfl⟩
theorem dd_Md_hours_36 : pj_d cX11_hours 36 (.invokevirtual 240) 3 39 := ⟨by decide +kernel, rfl⟩
theorem dd_Md_hours_39 : pj_d cX11_hours 39 (.iload_n 2) 1 40 := ⟨by decide +kernel, rfl⟩
theorem dd_Md_hours_40 : pj_d cX11_hours 40 (.aload_n 0) 1 41 := ⟨by decide +kernel, rfl⟩
theorem dd_Md_hours_41 : pj_d cX11_hours 41 (.invokevirtual 286) 3 44 := ⟨by decide +kernel, rfl⟩
theorem dd_Md_hours_44 : pj_d cX11_hours 44 (.iadd) 1 45 := ⟨by decide +kernel, rfl⟩
theorem dd_Md_hours_45 : pj_d cX11_hours 45 (.istore_n 2) 1 46 := ⟨by decide +kernel, rfl⟩
theorem dd_Md_hours_46 : pj_d cX11_hours 46 (.iinc 3 1) 3 49 := ⟨by decide +kernel, rfl⟩
theorem dd_Md_hours_49 : pj_dj cX11_hours 49 (.goto (-19)) (-19) 52 30 := ⟨by decide +kernel, rfl, by decide⟩
theorem dd_Md_hours_52 : pj_d cX11_hours 52 (.iload_n 2) 1 53 := ⟨by decide +kernel, rfl⟩
theorem dd_Md_hours_53 : pj_d cX11_hours 53 (.ireturn) 1 54 := ⟨by decide +kernel, rfl⟩
set_option maxHeartbeats 4000000 in
set_option maxRecDepth 100000 in
theorem bt_Md_hours_30 {B : pj_B} {A : Nat → Prop} {K : pj_K} {r0 : Int32} {z0 : pj_S} (hB : B.2.2.2.1 = pj_LM) (C : pj_C B A K cX11_hours 4 RX11 5) (Q : pj_Qi B A K (some .int) r0 z0) (s30 : Int32 → Int32 → Int32 → pj_S → Option (Int32 × pj_S)) (k30 : ∀ (v1 : Int32) (v2 : Int32) (v3 : Int32) (z : pj_S) (H : Heap) (lo : List Loc) (ls : Array Slot), s30 v1 v2 v3 z = some (r0, z0) → pj_P B A K z H lo → lv_has ls 4 [(0, .ref (B.2.1 0)), (1, .int v1), (2, .int v2), (3, .int v3)] → pj_W K H lo 30 ls []) (v1 : Int32) (v2 : Int32) (v3 : Int32) (z : pj_S) (H : Heap) (lo : List Loc) (ls : Array Slot) (h : Md_hours_30 s30 v1 v2 v3 z = some (r0, z0)) (P : pj_P B A K z H lo) (hl : lv_has ls 4 [(0, .ref (B.2.1 0)), (1, .int v1), (2, .int v2), (3, .int v3)]) : pj_W K H lo 30 ls [] := by
  unfold Md_hours_30 at h
  refine pj_iload_n C dd_Md_hours_30 rfl hl 3 rfl ?_
  refine pj_iload_n C dd_Md_hours_31 rfl hl 1 rfl ?_
  refine pj_ic_ge C h dd_Md_hours_32 (fun h => ?_) (fun h => ?_)
  · refine pj_iload_n C dd_Md_hours_52 rfl hl 2 rfl ?_
    exact pj_iret C Q P h dd_Md_hours_53
  · refine pj_aload_n C dd_Md_hours_35 rfl hl 0 rfl ?_
    obtain ⟨r3, z2, e1, h⟩ := pj_cE h
    refine pj_cVv (st := []) [] C P 0 (LM0 hB) rfl (ct_Md_keeps hB e1) cl_Md_240 rfl (by decide) (by decide) hl.1 (Nat.le_of_ble_eq_true rfl) dd_Md_hours_36 (fun H lo P => ?_)
    refine pj_iload_n C dd_Md_hours_39 rfl hl 2 rfl ?_
    refine pj_aload_n C dd_Md_hours_40 rfl hl 0 rfl ?_
    obtain ⟨r6, z5, e4, h⟩ := pj_cE h
    refine pj_cVi (st := [.int v2]) [] C P 0 (LM0 hB) rfl (ct_Md_anHour hB e4) cl_Md_286 rfl (by decide) (by decide) hl.1 (Nat.le_of_ble_eq_true rfl) dd_Md_hours_41 (fun H lo P => ?_)
    refine pj_iadd C dd_Md_hours_44 ?_
    refine pj_istb_n [(0, .ref (B.2.1 0)), (1, .int v1), (3, .int v3)] C h dd_Md_hours_45 rfl hl (by decide) rfl (fun x7 ls h hl => ?_)
    refine pj_iinc (v := (nI 1)) [(2, .int x7), (0, .ref (B.2.1 0)), (1, .int v1)] C h rfl dd_Md_hours_46 hl 3 rfl (by decide) rfl (fun x8 ls h hl => ?_)
    refine pj_goto C dd_Md_hours_49 ?_
    exact k30 _ _ _ _ _ _ _ h P (lv_sub hl [2, 3, 1, 0] rfl)
theorem lt_Md_hours_30 {B : pj_B} {A : Nat → Prop} {K : pj_K} {r0 : Int32} {z0 : pj_S} (hB : B.2.2.2.1 = pj_LM) (C : pj_C B A K cX11_hours 4 RX11 5) (Q : pj_Qi B A K (some .int) r0 z0)  : ∀ (n : Nat) (v1 : Int32) (v2 : Int32) (v3 : Int32) (z : pj_S) (H : Heap) (lo : List Loc) (ls : Array Slot), pj_lp3 Md_hours_30 n v1 v2 v3 z = some (r0, z0) → pj_P B A K z H lo → lv_has ls 4 [(0, .ref (B.2.1 0)), (1, .int v1), (2, .int v2), (3, .int v3)] → pj_W K H lo 30 ls [] := by
  intro n
  induction n with
  | zero => intro v1 v2 v3 z H lo ls h; rw [pj_lp3_0] at h; cases h
  | succ n ih =>
    intro v1 v2 v3 z H lo ls h P hl
    rw [pj_lp3_s] at h
    exact bt_Md_hours_30 hB C Q   (pj_lp3 Md_hours_30 n) ih v1 v2 v3 z H lo ls h P hl
set_option maxHeartbeats 4000000 in
set_option maxRecDepth 100000 in
theorem ct_Md_hours {l : Launch} {B : pj_B} (hB : B.2.2.2.1 = pj_LM) {v1 : Int32} {z : pj_S} {r0 : Int32} {z0 : pj_S} (h : Md_hours v1 z = some (r0, z0)) : pj_Mi l yX11_hours cX11_hours 4 (some .int) 5 [.ref (B.2.1 0), .int v1] B z r0 z0 := by
  refine pj_meti (own := RX11) (by decide +kernel) rfl (Nat.le_of_ble_eq_true rfl) ?_
  intro A K hK C Q H lo ls P hl
  have hl : lv_has ls 4 [(0, .ref (B.2.1 0)), (1, .int v1)] := hl
  unfold Md_hours at h
  refine pj_iload_n C dd_Md_hours_0 rfl hl 1 rfl ?_
  refine pj_iconst (v := (nI 1)) C dd_Md_hours_1 rfl ?_
  refine pj_bipush (v := (nI 100)) C dd_Md_hours_2 rfl ?_
  obtain ⟨r3, z2, e1, h⟩ := pj_cE h
  refine pj_cSi (st := []) [.int v1, .int (nI 1), .int (nI 100)] C P (ct_Md_isInM hB e1) cl_Md_70 rfl (by decide) (by decide) hl.1 (Nat.le_of_ble_eq_true rfl) dd_Md_hours_4 (fun H lo P => ?_)
  refine pj_if_eq C h dd_Md_hours_7 (fun h => ?_) (fun h => ?_)
  · refine pj_iconst (v := (-1 : Int32)) C dd_Md_hours_24 rfl ?_
    exact pj_iret C Q P h dd_Md_hours_25
  · refine pj_aload_n C dd_Md_hours_10 rfl hl 0 rfl ?_
    refine pj_getR C P 0 (LM0 hB) rfl fl_Md_7 dd_Md_hours_11 ?_
    refine pj_iconst (v := (nI 5)) C dd_Md_hours_14 rfl ?_
    refine pj_iald C P 1 (LM1 hB) h dd_Md_hours_15 (fun h => ?_)
    refine pj_iload_n C dd_Md_hours_16 rfl hl 1 rfl ?_
    refine pj_iadd C dd_Md_hours_17 ?_
    refine pj_sipush (v := (nI 9999)) C dd_Md_hours_18 rfl ?_
    refine pj_ic_le C h dd_Md_hours_21 (fun h => ?_) (fun h => ?_)
    · refine pj_iconst (v := (nI 0)) C dd_Md_hours_26 rfl ?_
      refine pj_istore_n [(2, .int (nI 0)), (0, .ref (B.2.1 0)), (1, .int v1)] C dd_Md_hours_27 rfl hl (by decide) rfl (fun ls hl => ?_)
      refine pj_iconst (v := (nI 0)) C dd_Md_hours_28 rfl ?_
      refine pj_istore_n [(3, .int (nI 0)), (2, .int (nI 0)), (0, .ref (B.2.1 0)), (1, .int v1)] C dd_Md_hours_29 rfl hl (by decide) rfl (fun ls hl => ?_)
      exact lt_Md_hours_30 hB C Q 4000 _ _ _ _ _ _ _ h P (lv_sub hl [2, 3, 1, 0] rfl)
    · refine pj_iconst (v := (-1 : Int32)) C dd_Md_hours_24 rfl ?_
      exact pj_iret C Q P h dd_Md_hours_25
theorem dd_Md_feed_0 : pj_d cX11_feed 0 (.aload_n 0) 1 1 := ⟨by decide +kernel, rfl⟩
theorem dd_Md_feed_1 : pj_d cX11_feed 1 (.getfield 80) 3 4 := ⟨by decide +kernel, rfl⟩
theorem dd_Md_feed_4 : pj_d cX11_feed 4 (.bipush 20) 2 6 := ⟨by decide +kernel, rfl⟩
theorem dd_Md_feed_6 : pj_d cX11_feed 6 (.iadd) 1 7 := ⟨by decide +kernel, rfl⟩
theorem dd_Md_feed_7 : pj_d cX11_feed 7 (.sipush 400) 3 10 := ⟨by decide +kernel, rfl⟩
theorem dd_Md_feed_10 : pj_dj cX11_feed 10 (.if_icmp .le 5) 5 13 15 := ⟨by decide +kernel, rfl, by decide⟩
theorem dd_Md_feed_13 : pj_d cX11_feed 13 (.iconst (-1)) 1 14 := ⟨by decide +kernel, rfl⟩
theorem dd_Md_feed_14 : pj_d cX11_feed 14 (.ireturn) 1 15 := ⟨by decide +kernel, rfl⟩
theorem dd_Md_feed_15 : pj_d cX11_feed 15 (.iconst 0) 1 16 := ⟨by decide +kernel, rfl⟩
theorem dd_Md_feed_16 : pj_d cX11_feed 16 (.istore 6) 2 18 := ⟨by decide +kernel, rfl⟩
theorem dd_Md_feed_18 : pj_d cX11_feed 18 (.iload 6) 2 20 := ⟨by decide +kernel, rfl⟩
theorem dd_Md_feed_20 : pj_d cX11_feed 20 (.bipush 20) 2 22 := ⟨by decide +kernel, rfl⟩
theorem dd_Md_feed_22 : pj_dj cX11_feed 22 (.if_icmp .ge 93) 93 25 115 := ⟨by decide +kernel, rfl, by decide⟩
theorem dd_Md_feed_25 : pj_d cX11_feed 25 (.iload 6) 2 27 := ⟨by decide +kernel, rfl⟩
theorem dd_Md_feed_27 : pj_d cX11_feed 27 (.iconst 4) 1 28 := ⟨by decide +kernel, rfl⟩
theorem dd_Md_feed_28 : pj_dj cX11_feed 28 (.if_icmp .ge 7) 7 31 35 := ⟨by decide +kernel, rfl, by decide⟩
theorem dd_Md_feed_31 : pj_d cX11_feed 31 (.iload_n 1) 1 32 := ⟨by decide +kernel, rfl⟩
theorem dd_Md_feed_32 : pj_dj cX11_feed 32 (.goto 39) 39 35 71 := ⟨by decide +kernel, rfl, by decide⟩
theorem dd_Md_feed_35 : pj_d cX11_feed 35 (.iload 6) 2 37 := ⟨by decide +kernel, rfl⟩
theorem dd_Md_feed_37 : pj_d cX11_feed 37 (.bipush 8) 2 39 := ⟨by decide +kernel, rfl⟩
theorem dd_Md_feed_39 : pj_dj cX11_feed 39 (.if_icmp .ge 7) 7 42 46 := ⟨by decide +kernel, rfl, by decide⟩
theorem dd_Md_feed_42 : pj_d cX11_feed 42 (.iload_n 2) 1 43 := ⟨by decide +kernel, rfl⟩
theorem dd_Md_feed_43 : pj_dj cX11_feed 43 (.goto 28) 28 46 71 := ⟨by decide +kernel, rfl, by decide⟩
theorem dd_Md_feed_46 : pj_d cX11_feed 46 (.iload 6) 2 48 := ⟨by decide +kernel, rfl⟩
theorem dd_Md_feed_48 : pj_d cX11_feed 48 (.bipush 12) 2 50 := ⟨by decide +kernel, rfl⟩
theorem dd_Md_feed_50 : pj_dj cX11_feed 50 (.if_icmp .ge 7) 7 53 57 := ⟨by decide +kernel, rfl, by decide⟩
theorem dd_Md_feed_53 : pj_d cX11_feed 53 (.iload_n 3) 1 54 := ⟨by decide +kernel, rfl⟩
theorem dd_Md_feed_54 : pj_dj cX11_feed 54 (.goto 17) 17 57 71 := ⟨by decide +kernel, rfl, by decide⟩
theorem dd_Md_feed_57 : pj_d cX11_feed 57 (.iload 6) 2 59 := ⟨by decide +kernel, rfl⟩
theorem dd_Md_feed_59 : pj_d cX11_feed 59 (.bipush 16) 2 61 := ⟨by decide +kernel, rfl⟩
theorem dd_Md_feed_61 : pj_dj cX11_feed 61 (.if_icmp .ge 8) 8 64 69 := ⟨by decide +kernel, rfl, by decide⟩
theorem dd_Md_feed_64 : pj_d cX11_feed 64 (.iload 4) 2 66 := ⟨by decide +kernel, rfl⟩
theorem dd_Md_feed_66 : pj_dj cX11_feed 66 (.goto 5) 5 69 71 := ⟨by decide +kernel, rfl, by decide⟩
theorem dd_Md_feed_69 : pj_d cX11_feed 69 (.iload 5) 2 71 := ⟨by decide +kernel, rfl⟩
theorem dd_Md_feed_71 : pj_d cX11_feed 71 (.istore 7) 2 73 := ⟨by decide +kernel, rfl⟩
theorem dd_Md_feed_73 : pj_d cX11_feed 73 (.aload_n 0) 1 74 := ⟨by decide +kernel, rfl⟩
theorem dd_Md_feed_74 : pj_d cX11_feed 74 (.getfield 25) 3 77 := ⟨by decide +kernel, rfl⟩
theorem dd_Md_feed_77 : pj_d cX11_feed 77 (.aload_n 0) 1 78 := ⟨by decide +kernel, rfl⟩
theorem dd_Md_feed_78 : pj_d cX11_feed 78 (.getfield 80) 3 81 := ⟨by decide +kernel, rfl⟩
theorem dd_Md_feed_81 : pj_d cX11_feed 81 (.iload 7) 2 83 := ⟨by decide +kernel, rfl⟩
theorem dd_Md_feed_83 : pj_d cX11_feed 83 (.bipush 24) 2 85 := ⟨by decide +kernel, rfl⟩
theorem dd_Md_feed_85 : pj_d cX11_feed 85 (.bipush 8) 2 87 := ⟨by decide +kernel, rfl⟩
theorem dd_Md_feed_87 : pj_d cX11_feed 87 (.iload 6) 2 89 := ⟨by decide +kernel, rfl⟩
theorem dd_Md_feed_89 : pj_d cX11_feed 89 (.iconst 4) 1 90 := ⟨by decide +kernel, rfl⟩
theorem dd_Md_feed_90 : pj_d cX11_feed 90 (.irem) 1 91 := ⟨by decide +kernel, rfl⟩
theorem dd_Md_feed_91 : pj_d cX11_feed 91 (.imul) 1 92 := ⟨by decide +kernel, rfl⟩
theorem dd_Md_feed_92 : pj_d cX11_feed 92 (.isub) 1 93 := ⟨by decide +kernel, rfl⟩
theorem dd_Md_feed_93 : pj_d cX11_feed 93 (.ishr) 1 94 := ⟨by decide +kernel, rfl⟩
theorem dd_Md_feed_94 : pj_d cX11_feed 94 (.sipush 255) 3 97 := ⟨by decide +kernel, rfl⟩
theorem dd_Md_feed_97 : pj_d cX11_feed 97 (.iand) 1 98 := ⟨by decide +kernel, rfl⟩
theorem dd_Md_feed_98 : pj_d cX11_feed 98 (.iastore) 1 99 := ⟨by decide +kernel, rfl⟩
theorem dd_Md_feed_99 : pj_d cX11_feed 99 (.aload_n 0) 1 100 := ⟨by decide +kernel, rfl⟩
theorem dd_Md_feed_100 : pj_d cX11_feed 100 (.dup) 1 101 := ⟨by decide +kernel, rfl⟩
theorem dd_Md_feed_101 : pj_d cX11_feed 101 (.getfield 80) 3 104 := ⟨by decide +kernel, rfl⟩
theorem dd_Md_feed_104 : pj_d cX11_feed 104 (.iconst 1) 1 105 := ⟨by decide +kernel, rfl⟩
theorem dd_Md_feed_105 : pj_d cX11_feed 105 (.iadd) 1 106 := ⟨by decide +kernel, rfl⟩
theorem dd_Md_feed_106 : pj_d cX11_feed 106 (.putfield 80) 3 109 := ⟨by decide +kernel, rfl⟩
theorem dd_Md_feed_109 : pj_d cX11_feed 109 (.iinc 6 1) 3 112 := ⟨by decide +kernel, rfl⟩
theorem dd_Md_feed_112 : pj_dj cX11_feed 112 (.goto (-94)) (-94) 115 18 := ⟨by decide +kernel, rfl, by decide⟩
theorem dd_Md_feed_115 : pj_d cX11_feed 115 (.aload_n 0) 1 116 := ⟨by decide +kernel, rfl⟩
theorem dd_Md_feed_116 : pj_d cX11_feed 116 (.getfield 80) 3 119 := ⟨by decide +kernel, rfl⟩
theorem dd_Md_feed_119 : pj_d cX11_feed 119 (.ireturn) 1 120 := ⟨by decide +kernel, rfl⟩
set_option maxHeartbeats 4000000 in
set_option maxRecDepth 100000 in
theorem bt_Md_feed_115 {B : pj_B} {A : Nat → Prop} {K : pj_K} {r0 : Int32} {z0 : pj_S} (hB : B.2.2.2.1 = pj_LM) (C : pj_C B A K cX11_feed 8 RX11 1) (Q : pj_Qi B A K (some .int) r0 z0)   (z : pj_S) (H : Heap) (lo : List Loc) (ls : Array Slot) (h : Md_feed_115 z = some (r0, z0)) (P : pj_P B A K z H lo) (hl : lv_has ls 8 [(0, .ref (B.2.1 0))]) : pj_W K H lo 115 ls [] := by
  unfold Md_feed_115 at h
  refine pj_aload_n C dd_Md_feed_115 rfl hl 0 rfl ?_
  refine pj_getI C P 0 (LM0 hB) rfl fl_Md_80 dd_Md_feed_116 ?_
  exact pj_iret C Q P h dd_Md_feed_119
set_option maxHeartbeats 4000000 in
set_option maxRecDepth 100000 in
theorem bt_Md_feed_71 {B : pj_B} {A : Nat → Prop} {K : pj_K} {r0 : Int32} {z0 : pj_S} (hB : B.2.2.2.1 = pj_LM) (C : pj_C B A K cX11_feed 8 RX11 1) (Q : pj_Qi B A K (some .int) r0 z0) (s18 : Int32 → Int32 → Int32 → Int32 → Int32 → Int32 → pj_S → Option (Int32 × pj_S)) (k18 : ∀ (v1 : Int32) (v2 : Int32) (v3 : Int32) (v4 : Int32) (v5 : Int32) (v6 : Int32) (z : pj_S) (H : Heap) (lo : List Loc) (ls : Array Slot), s18 v1 v2 v3 v4 v5 v6 z = some (r0, z0) → pj_P B A K z H lo → lv_has ls 8 [(0, .ref (B.2.1 0)), (1, .int v1), (2, .int v2), (3, .int v3), (4, .int v4), (5, .int v5), (6, .int v6)] → pj_W K H lo 18 ls []) (v1 : Int32) (v2 : Int32) (v3 : Int32) (v4 : Int32) (v5 : Int32) (v6 : Int32) (t0 : Int32) (z : pj_S) (H : Heap) (lo : List Loc) (ls : Array Slot) (h : Md_feed_71 s18 v1 v2 v3 v4 v5 v6 t0 z = some (r0, z0)) (P : pj_P B A K z H lo) (hl : lv_has ls 8 [(0, .ref (B.2.1 0)), (1, .int v1), (2, .int v2), (3, .int v3), (4, .int v4), (5, .int v5), (6, .int v6)]) : pj_W K H lo 71 ls [.int t0] := by
  unfold Md_feed_71 at h
  refine pj_istore [(7, .int t0), (0, .ref (B.2.1 0)), (1, .int v1), (2, .int v2), (3, .int v3), (4, .int v4), (5, .int v5), (6, .int v6)] C dd_Md_feed_71 hl (by decide) rfl (fun ls hl => ?_)
  refine pj_aload_n C dd_Md_feed_73 rfl hl 1 rfl ?_
  refine pj_getR C P 0 (LM0 hB) rfl fl_Md_25 dd_Md_feed_74 ?_
  refine pj_aload_n C dd_Md_feed_77 rfl hl 1 rfl ?_
  refine pj_getI C P 0 (LM0 hB) rfl fl_Md_80 dd_Md_feed_78 ?_
  refine pj_iload C dd_Md_feed_81 hl 0 rfl ?_
  refine pj_bipush (v := (nI 24)) C dd_Md_feed_83 rfl ?_
  refine pj_bipush (v := (nI 8)) C dd_Md_feed_85 rfl ?_
  refine pj_iload C dd_Md_feed_87 hl 7 rfl ?_
  refine pj_iconst (v := (nI 4)) C dd_Md_feed_89 rfl ?_
  refine pj_irem C h dd_Md_feed_90 (fun h => ?_)
  refine pj_imul C dd_Md_feed_91 ?_
  refine pj_isub C dd_Md_feed_92 ?_
  refine pj_ishr C dd_Md_feed_93 ?_
  refine pj_sipush (v := (nI 255)) C dd_Md_feed_94 rfl ?_
  refine pj_iand C dd_Md_feed_97 ?_
  refine pj_iast C P 6 (LM6 hB) h dd_Md_feed_98 (fun H lo z1 h P => ?_)
  refine pj_aload_n C dd_Md_feed_99 rfl hl 1 rfl ?_
  refine pj_dup C dd_Md_feed_100 rfl ?_
  refine pj_getI C P 0 (LM0 hB) rfl fl_Md_80 dd_Md_feed_101 ?_
  refine pj_iconst (v := (nI 1)) C dd_Md_feed_104 rfl ?_
  refine pj_iadd C dd_Md_feed_105 ?_
  refine pj_putI C P 0 (LM0 hB) rfl fl_Md_80 rfl fy_11_12 h dd_Md_feed_106 (fun H lo z2 h P => ?_)
  refine pj_iinc (v := (nI 1)) [(7, .int t0), (0, .ref (B.2.1 0)), (1, .int v1), (2, .int v2), (3, .int v3), (4, .int v4), (5, .int v5)] C h rfl dd_Md_feed_109 hl 7 rfl (by decide) rfl (fun x3 ls h hl => ?_)
  refine pj_goto C dd_Md_feed_112 ?_
  exact k18 _ _ _ _ _ _ _ _ _ _ h P (lv_sub hl [2, 3, 4, 5, 6, 7, 0] rfl)
set_option maxHeartbeats 4000000 in
set_option maxRecDepth 100000 in
theorem bt_Md_feed_18 {B : pj_B} {A : Nat → Prop} {K : pj_K} {r0 : Int32} {z0 : pj_S} (hB : B.2.2.2.1 = pj_LM) (C : pj_C B A K cX11_feed 8 RX11 1) (Q : pj_Qi B A K (some .int) r0 z0) (s18 : Int32 → Int32 → Int32 → Int32 → Int32 → Int32 → pj_S → Option (Int32 × pj_S)) (k18 : ∀ (v1 : Int32) (v2 : Int32) (v3 : Int32) (v4 : Int32) (v5 : Int32) (v6 : Int32) (z : pj_S) (H : Heap) (lo : List Loc) (ls : Array Slot), s18 v1 v2 v3 v4 v5 v6 z = some (r0, z0) → pj_P B A K z H lo → lv_has ls 8 [(0, .ref (B.2.1 0)), (1, .int v1), (2, .int v2), (3, .int v3), (4, .int v4), (5, .int v5), (6, .int v6)] → pj_W K H lo 18 ls []) (v1 : Int32) (v2 : Int32) (v3 : Int32) (v4 : Int32) (v5 : Int32) (v6 : Int32) (z : pj_S) (H : Heap) (lo : List Loc) (ls : Array Slot) (h : Md_feed_18 s18 v1 v2 v3 v4 v5 v6 z = some (r0, z0)) (P : pj_P B A K z H lo) (hl : lv_has ls 8 [(0, .ref (B.2.1 0)), (1, .int v1), (2, .int v2), (3, .int v3), (4, .int v4), (5, .int v5), (6, .int v6)]) : pj_W K H lo 18 ls [] := by
  unfold Md_feed_18 at h
  refine pj_iload C dd_Md_feed_18 hl 6 rfl ?_
  refine pj_bipush (v := (nI 20)) C dd_Md_feed_20 rfl ?_
  refine pj_ic_ge C h dd_Md_feed_22 (fun h => ?_) (fun h => ?_)
  · exact bt_Md_feed_115 hB C Q _ _ _ _ h P (lv_sub hl [0] rfl)
  · refine pj_iload C dd_Md_feed_25 hl 6 rfl ?_
    refine pj_iconst (v := (nI 4)) C dd_Md_feed_27 rfl ?_
    refine pj_ic_ge C h dd_Md_feed_28 (fun h => ?_) (fun h => ?_)
    · refine pj_iload C dd_Md_feed_35 hl 6 rfl ?_
      refine pj_bipush (v := (nI 8)) C dd_Md_feed_37 rfl ?_
      refine pj_ic_ge C h dd_Md_feed_39 (fun h => ?_) (fun h => ?_)
      · refine pj_iload C dd_Md_feed_46 hl 6 rfl ?_
        refine pj_bipush (v := (nI 12)) C dd_Md_feed_48 rfl ?_
        refine pj_ic_ge C h dd_Md_feed_50 (fun h => ?_) (fun h => ?_)
        · refine pj_iload C dd_Md_feed_57 hl 6 rfl ?_
          refine pj_bipush (v := (nI 16)) C dd_Md_feed_59 rfl ?_
          refine pj_ic_ge C h dd_Md_feed_61 (fun h => ?_) (fun h => ?_)
          · refine pj_iload C dd_Md_feed_69 hl 5 rfl ?_
            exact bt_Md_feed_71 hB C Q s18 k18 _ _ _ _ _ _ _ _ _ _ _ h P (lv_sub hl [0, 1, 2, 3, 4, 5, 6] rfl)
          · refine pj_iload C dd_Md_feed_64 hl 4 rfl ?_
            refine pj_goto C dd_Md_feed_66 ?_
            exact bt_Md_feed_71 hB C Q s18 k18 _ _ _ _ _ _ _ _ _ _ _ h P (lv_sub hl [0, 1, 2, 3, 4, 5, 6] rfl)
        · refine pj_iload_n C dd_Md_feed_53 rfl hl 3 rfl ?_
          refine pj_goto C dd_Md_feed_54 ?_
          exact bt_Md_feed_71 hB C Q s18 k18 _ _ _ _ _ _ _ _ _ _ _ h P (lv_sub hl [0, 1, 2, 3, 4, 5, 6] rfl)
      · refine pj_iload_n C dd_Md_feed_42 rfl hl 2 rfl ?_
        refine pj_goto C dd_Md_feed_43 ?_
        exact bt_Md_feed_71 hB C Q s18 k18 _ _ _ _ _ _ _ _ _ _ _ h P (lv_sub hl [0, 1, 2, 3, 4, 5, 6] rfl)
    · refine pj_iload_n C dd_Md_feed_31 rfl hl 1 rfl ?_
      refine pj_goto C dd_Md_feed_32 ?_
      exact bt_Md_feed_71 hB C Q s18 k18 _ _ _ _ _ _ _ _ _ _ _ h P (lv_sub hl [0, 1, 2, 3, 4, 5, 6] rfl)
theorem lt_Md_feed_18 {B : pj_B} {A : Nat → Prop} {K : pj_K} {r0 : Int32} {z0 : pj_S} (hB : B.2.2.2.1 = pj_LM) (C : pj_C B A K cX11_feed 8 RX11 1) (Q : pj_Qi B A K (some .int) r0 z0)  : ∀ (n : Nat) (v1 : Int32) (v2 : Int32) (v3 : Int32) (v4 : Int32) (v5 : Int32) (v6 : Int32) (z : pj_S) (H : Heap) (lo : List Loc) (ls : Array Slot), pj_lp6 Md_feed_18 n v1 v2 v3 v4 v5 v6 z = some (r0, z0) → pj_P B A K z H lo → lv_has ls 8 [(0, .ref (B.2.1 0)), (1, .int v1), (2, .int v2), (3, .int v3), (4, .int v4), (5, .int v5), (6, .int v6)] → pj_W K H lo 18 ls [] := by
  intro n
  induction n with
  | zero => intro v1 v2 v3 v4 v5 v6 z H lo ls h; rw [pj_lp6_0] at h; cases h
  | succ n ih =>
    intro v1 v2 v3 v4 v5 v6 z H lo ls h P hl
    rw [pj_lp6_s] at h
    exact bt_Md_feed_18 hB C Q   (pj_lp6 Md_feed_18 n) ih v1 v2 v3 v4 v5 v6 z H lo ls h P hl
set_option maxHeartbeats 4000000 in
set_option maxRecDepth 100000 in
theorem ct_Md_feed {l : Launch} {B : pj_B} (hB : B.2.2.2.1 = pj_LM) {v1 : Int32} {v2 : Int32} {v3 : Int32} {v4 : Int32} {v5 : Int32} {z : pj_S} {r0 : Int32} {z0 : pj_S} (h : Md_feed v1 v2 v3 v4 v5 z = some (r0, z0)) : pj_Mi l yX11_feed cX11_feed 8 (some .int) 1 [.ref (B.2.1 0), .int v1, .int v2, .int v3, .int v4, .int v5] B z r0 z0 := by
  refine pj_meti (own := RX11) (by decide +kernel) rfl (Nat.le_of_ble_eq_true rfl) ?_
  intro A K hK C Q H lo ls P hl
  have hl : lv_has ls 8 [(0, .ref (B.2.1 0)), (1, .int v1), (2, .int v2), (3, .int v3), (4, .int v4), (5, .int v5)] := hl
  unfold Md_feed at h
  refine pj_aload_n C dd_Md_feed_0 rfl hl 0 rfl ?_
  refine pj_getI C P 0 (LM0 hB) rfl fl_Md_80 dd_Md_feed_1 ?_
  refine pj_bipush (v := (nI 20)) C dd_Md_feed_4 rfl ?_
  refine pj_iadd C dd_Md_feed_6 ?_
  refine pj_sipush (v := (nI 400)) C dd_Md_feed_7 rfl ?_
  refine pj_ic_le C h dd_Md_feed_10 (fun h => ?_) (fun h => ?_)
  · refine pj_iconst (v := (nI 0)) C dd_Md_feed_15 rfl ?_
    refine pj_istore [(6, .int (nI 0)), (0, .ref (B.2.1 0)), (1, .int v1), (2, .int v2), (3, .int v3), (4, .int v4), (5, .int v5)] C dd_Md_feed_16 hl (by decide) rfl (fun ls hl => ?_)
    exact lt_Md_feed_18 hB C Q 4000 _ _ _ _ _ _ _ _ _ _ h P (lv_sub hl [1, 2, 3, 4, 5, 6, 0] rfl)
  · refine pj_iconst (v := (-1 : Int32)) C dd_Md_feed_13 rfl ?_
    exact pj_iret C Q P h dd_Md_feed_14
theorem dd_Md_end_0 : pj_d cX11_end 0 (.iload_n 1) 1 1 := ⟨by decide +kernel, rfl⟩
theorem dd_Md_end_1 : pj_d cX11_end 1 (.iconst 0) 1 2 := ⟨by decide +kernel, rfl⟩
theorem dd_Md_end_2 : pj_d cX11_end 2 (.aload_n 0) 1 3 := ⟨by decide +kernel, rfl⟩
theorem dd_Md_end_3 : pj_d cX11_end 3 (.getfield 80) 3 6 := ⟨by decide +kernel, rfl⟩
theorem dd_Md_end_6 : pj_d cX11_end 6 (.invokestatic 70) 3 9 := ⟨by decide +kernel, rfl⟩
theorem dd_Md_end_9 : pj_dj cX11_end 9 (.ifCond .ne 5) 5 12 14 := ⟨by decide +kernel, rfl, by decide⟩
theorem dd_Md_end_12 : pj_d cX11_end 12 (.iconst 0) 1 13 := ⟨by decide +kernel, rfl⟩
theorem dd_Md_end_13 : pj_d cX11_end 13 (.ireturn) 1 14 := ⟨by decide +kernel, rfl⟩
theorem dd_Md_end_14 : pj_d cX11_end 14 (.aload_n 0) 1 15 := ⟨by decide +kernel, rfl⟩
theorem dd_Md_end_15 : pj_d cX11_end 15 (.iload_n 1) 1 16 := ⟨by decide +kernel, rfl⟩
theorem dd_Md_end_16 : pj_d cX11_end 16 (.putfield 80) 3 19 := ⟨by decide +kernel, rfl⟩
theorem dd_Md_end_19 : pj_d cX11_end 19 (.iconst 1) 1 20 := ⟨by decide +kernel, rfl⟩
theorem dd_Md_end_20 : pj_d cX11_end 20 (.ireturn) 1 21 := ⟨by decide +kernel, rfl⟩
set_option maxHeartbeats 4000000 in
set_option maxRecDepth 100000 in
theorem ct_Md_end {l : Launch} {B : pj_B} (hB : B.2.2.2.1 = pj_LM) {v1 : Int32} {z : pj_S} {r0 : Int32} {z0 : pj_S} (h : Md_end v1 z = some (r0, z0)) : pj_Mi l yX11_end cX11_end 2 (some .boolean) 2 [.ref (B.2.1 0), .int v1] B z r0 z0 := by
  refine pj_meti (own := RX11) (by decide +kernel) rfl (Nat.le_of_ble_eq_true rfl) ?_
  intro A K hK C Q H lo ls P hl
  have hl : lv_has ls 2 [(0, .ref (B.2.1 0)), (1, .int v1)] := hl
  unfold Md_end at h
  refine pj_iload_n C dd_Md_end_0 rfl hl 1 rfl ?_
  refine pj_iconst (v := (nI 0)) C dd_Md_end_1 rfl ?_
  refine pj_aload_n C dd_Md_end_2 rfl hl 0 rfl ?_
  refine pj_getI C P 0 (LM0 hB) rfl fl_Md_80 dd_Md_end_3 ?_
  obtain ⟨r3, z2, e1, h⟩ := pj_cE h
  refine pj_cSi (st := []) [.int v1, .int (nI 0), .int (z.1 0 12)] C P (ct_Md_isInM hB e1) cl_Md_70 rfl (by decide) (by decide) hl.1 (Nat.le_of_ble_eq_true rfl) dd_Md_end_6 (fun H lo P => ?_)
  refine pj_if_ne C h dd_Md_end_9 (fun h => ?_) (fun h => ?_)
  · refine pj_aload_n C dd_Md_end_14 rfl hl 0 rfl ?_
    refine pj_iload_n C dd_Md_end_15 rfl hl 1 rfl ?_
    refine pj_putI C P 0 (LM0 hB) rfl fl_Md_80 rfl fy_11_12 h dd_Md_end_16 (fun H lo z4 h P => ?_)
    refine pj_iconst (v := (nI 1)) C dd_Md_end_19 rfl ?_
    exact pj_zret C Q P h dd_Md_end_20
  · refine pj_iconst (v := (nI 0)) C dd_Md_end_12 rfl ?_
    exact pj_zret C Q P h dd_Md_end_13
theorem dd_Md_see_0 : pj_d cX11_see 0 (.iload_n 1) 1 1 := ⟨by decide +kernel, rfl⟩
theorem dd_Md_see_1 : pj_d cX11_see 1 (.aload_n 0) 1 2 := ⟨by decide +kernel, rfl⟩
theorem dd_Md_see_2 : pj_d cX11_see 2 (.getfield 80) 3 5 := ⟨by decide +kernel, rfl⟩
theorem dd_Md_see_5 : pj_dj cX11_see 5 (.if_icmp .ge 12) 12 8 17 := ⟨by decide +kernel, rfl, by decide⟩
theorem dd_Md_see_8 : pj_d cX11_see 8 (.aload_n 0) 1 9 := ⟨by decide +kernel, rfl⟩
theorem dd_Md_see_9 : pj_d cX11_see 9 (.getfield 25) 3 12 := ⟨by decide +kernel, rfl⟩
theorem dd_Md_see_12 : pj_d cX11_see 12 (.iload_n 1) 1 13 := ⟨by decide +kernel, rfl⟩
theorem dd_Md_see_13 : pj_d cX11_see 13 (.iaload) 1 14 := ⟨by decide +kernel, rfl⟩
theorem dd_Md_see_14 : pj_dj cX11_see 14 (.goto 4) 4 17 18 := ⟨by decide +kernel, rfl, by decide⟩
theorem dd_Md_see_17 : pj_d cX11_see 17 (.iconst (-1)) 1 18 := ⟨by decide +kernel, rfl⟩
theorem dd_Md_see_18 : pj_d cX11_see 18 (.ireturn) 1 19 := ⟨by decide +kernel, rfl⟩
set_option maxHeartbeats 4000000 in
set_option maxRecDepth 100000 in
theorem ct_Md_see {l : Launch} {B : pj_B} (hB : B.2.2.2.1 = pj_LM) {v1 : Int32} {z : pj_S} {r0 : Int32} {z0 : pj_S} (h : Md_see v1 z = some (r0, z0)) : pj_Mi l yX11_see cX11_see 2 (some .int) 1 [.ref (B.2.1 0), .int v1] B z r0 z0 := by
  refine pj_meti (own := RX11) (by decide +kernel) rfl (Nat.le_of_ble_eq_true rfl) ?_
  intro A K hK C Q H lo ls P hl
  have hl : lv_has ls 2 [(0, .ref (B.2.1 0)), (1, .int v1)] := hl
  unfold Md_see at h
  refine pj_iload_n C dd_Md_see_0 rfl hl 1 rfl ?_
  refine pj_aload_n C dd_Md_see_1 rfl hl 0 rfl ?_
  refine pj_getI C P 0 (LM0 hB) rfl fl_Md_80 dd_Md_see_2 ?_
  refine pj_ic_ge C h dd_Md_see_5 (fun h => ?_) (fun h => ?_)
  · refine pj_iconst (v := (-1 : Int32)) C dd_Md_see_17 rfl ?_
    exact pj_iret C Q P h dd_Md_see_18
  · refine pj_aload_n C dd_Md_see_8 rfl hl 0 rfl ?_
    refine pj_getR C P 0 (LM0 hB) rfl fl_Md_25 dd_Md_see_9 ?_
    refine pj_iload_n C dd_Md_see_12 rfl hl 1 rfl ?_
    refine pj_iald C P 6 (LM6 hB) h dd_Md_see_13 (fun h => ?_)
    refine pj_goto C dd_Md_see_14 ?_
    exact pj_iret C Q P h dd_Md_see_18
theorem dd_Md_isDigit_0 : pj_d cX11_isDigit 0 (.iload_n 0) 1 1 := ⟨by decide +kernel, rfl⟩
theorem dd_Md_isDigit_1 : pj_d cX11_isDigit 1 (.bipush 48) 2 3 := ⟨by decide +kernel, rfl⟩
theorem dd_Md_isDigit_3 : pj_d cX11_isDigit 3 (.bipush 57) 2 5 := ⟨by decide +kernel, rfl⟩
theorem dd_Md_isDigit_5 : pj_d cX11_isDigit 5 (.invokestatic 70) 3 8 := ⟨by decide +kernel, rfl⟩
theorem dd_Md_isDigit_8 : pj_d cX11_isDigit 8 (.ireturn) 1 9 := ⟨by decide +kernel, rfl⟩
set_option maxHeartbeats 4000000 in
set_option maxRecDepth 100000 in
theorem ct_Md_isDigitM {l : Launch} {B : pj_B} (hB : B.2.2.2.1 = pj_LM) {v0 : Int32} {z : pj_S} {r0 : Int32} {z0 : pj_S} (h : Md_isDigitM v0 z = some (r0, z0)) : pj_Mi l yX11_isDigit cX11_isDigit 1 (some .boolean) 2 [.int v0] B z r0 z0 := by
  refine pj_meti (own := RX11) (by decide +kernel) rfl (Nat.le_of_ble_eq_true rfl) ?_
  intro A K hK C Q H lo ls P hl
  have hl : lv_has ls 1 [(0, .int v0)] := hl
  unfold Md_isDigitM at h
  refine pj_iload_n C dd_Md_isDigit_0 rfl hl 0 rfl ?_
  refine pj_bipush (v := (nI 48)) C dd_Md_isDigit_1 rfl ?_
  refine pj_bipush (v := (nI 57)) C dd_Md_isDigit_3 rfl ?_
  obtain ⟨r3, z2, e1, h⟩ := pj_cE h
  refine pj_cSi (st := []) [.int v0, .int (nI 48), .int (nI 57)] C P (ct_Md_isInM hB e1) cl_Md_70 rfl (by decide) (by decide) hl.1 (Nat.le_of_ble_eq_true rfl) dd_Md_isDigit_5 (fun H lo P => ?_)
  exact pj_zret C Q P h dd_Md_isDigit_8
