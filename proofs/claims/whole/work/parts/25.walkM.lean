theorem dd_Md_cuts_0 : pj_d cX11_cuts 0 (.iconst 0) 1 1 := ⟨by decide +kernel, rfl⟩
theorem dd_Md_cuts_1 : pj_d cX11_cuts 1 (.istore_n 1) 1 2 := ⟨by decide +kernel, rfl⟩
theorem dd_Md_cuts_2 : pj_d cX11_cuts 2 (.iconst 0) 1 3 := ⟨by decide +kernel, rfl⟩
theorem dd_Md_cuts_3 : pj_d cX11_cuts 3 (.istore_n 2) 1 4 := ⟨by decide +kernel, rfl⟩
theorem dd_Md_cuts_4 : pj_d cX11_cuts 4 (.iload_n 2) 1 5 := ⟨by decide +kernel, rfl⟩
theorem dd_Md_cuts_5 : pj_d cX11_cuts 5 (.bipush 64) 2 7 := ⟨by decide +kernel, rfl⟩
theorem dd_Md_cuts_7 : pj_dj cX11_cuts 7 (.if_icmp .ge 22) 22 10 29 := ⟨by decide +kernel, rfl, by decide⟩
theorem dd_Md_cuts_10 : pj_d cX11_cuts 10 (.iload_n 1) 1 11 := ⟨by decide +kernel, rfl⟩
theorem dd_Md_cuts_11 : pj_d cX11_cuts 11 (.aload_n 0) 1 12 := ⟨by decide +kernel, rfl⟩
theorem dd_Md_cuts_12 : pj_d cX11_cuts 12 (.getfield 7) 3 15 := ⟨by decide +kernel, rfl⟩
theorem dd_Md_cuts_15 : pj_d cX11_cuts 15 (.sipush 202) 3 18 := ⟨by decide +kernel, rfl⟩
theorem dd_Md_cuts_18 : pj_d cX11_cuts 18 (.iload_n 2) 1 19 := ⟨by decide +kernel, rfl⟩
theorem dd_Md_cuts_19 : pj_d cX11_cuts 19 (.iadd) 1 20 := ⟨by decide +kernel, rfl⟩
theorem dd_Md_cuts_20 : pj_d cX11_cuts 20 (.iaload) 1 21 := ⟨by decide +kernel, rfl⟩
theorem dd_Md_cuts_21 : pj_d cX11_cuts 21 (.iadd) 1 22 := ⟨by decide +kernel, rfl⟩
theorem dd_Md_cuts_22 : pj_d cX11_cuts 22 (.istore_n 1) 1 23 := ⟨by decide +kernel, rfl⟩
theorem dd_Md_cuts_23 : pj_d cX11_cuts 23 (.iinc 2 1) 3 26 := ⟨by decide +kernel, rfl⟩
theorem dd_Md_cuts_26 : pj_dj cX11_cuts 26 (.goto (-22)) (-22) 29 4 := ⟨by decide +kernel, rfl, by decide⟩
theorem dd_Md_cuts_29 : pj_d cX11_cuts 29 (.iload_n 1) 1 30 := ⟨by decide +kernel, rfl⟩
theorem dd_Md_cuts_30 : pj_d cX11_cuts 30 (.ireturn) 1 31 := ⟨by decide +kernel, rfl⟩
set_option maxHeartbeats 4000000 in
set_option maxRecDepth 100000 in
theorem bt_Md_cuts_4 {B : pj_B} {A : Nat → Prop} {K : pj_K} {r0 : Int32} {z0 : pj_S} (hB : B.2.2.2.1 = pj_LM) (C : pj_C B A K cX11_cuts 3 RX11 1) (Q : pj_Qi B A K (some .int) r0 z0) (s4 : Int32 → Int32 → pj_S → Option (Int32 × pj_S)) (k4 : ∀ (v1 : Int32) (v2 : Int32) (z : pj_S) (H : Heap) (lo : List Loc) (ls : Array Slot), s4 v1 v2 z = some (r0, z0) → pj_P B A K z H lo → lv_has ls 3 [(0, .ref (B.2.1 0)), (1, .int v1), (2, .int v2)] → pj_W K H lo 4 ls []) (v1 : Int32) (v2 : Int32) (z : pj_S) (H : Heap) (lo : List Loc) (ls : Array Slot) (h : Md_cuts_4 s4 v1 v2 z = some (r0, z0)) (P : pj_P B A K z H lo) (hl : lv_has ls 3 [(0, .ref (B.2.1 0)), (1, .int v1), (2, .int v2)]) : pj_W K H lo 4 ls [] := by
  unfold Md_cuts_4 at h
  refine pj_iload_n C dd_Md_cuts_4 rfl hl 2 rfl ?_
  refine pj_bipush (v := (nI 64)) C dd_Md_cuts_5 rfl ?_
  refine pj_ic_ge C h dd_Md_cuts_7 (fun h => ?_) (fun h => ?_)
  · refine pj_iload_n C dd_Md_cuts_29 rfl hl 1 rfl ?_
    exact pj_iret C Q P h dd_Md_cuts_30
  · refine pj_iload_n C dd_Md_cuts_10 rfl hl 1 rfl ?_
    refine pj_aload_n C dd_Md_cuts_11 rfl hl 0 rfl ?_
    refine pj_getR C P 0 (LM0 hB) rfl fl_Md_7 dd_Md_cuts_12 ?_
    refine pj_sipush (v := (nI 202)) C dd_Md_cuts_15 rfl ?_
    refine pj_iload_n C dd_Md_cuts_18 rfl hl 2 rfl ?_
    refine pj_iadd C dd_Md_cuts_19 ?_
    refine pj_iald C P 1 (LM1 hB) h dd_Md_cuts_20 (fun h => ?_)
    refine pj_iadd C dd_Md_cuts_21 ?_
    refine pj_istb_n [(0, .ref (B.2.1 0)), (2, .int v2)] C h dd_Md_cuts_22 rfl hl (by decide) rfl (fun x1 ls h hl => ?_)
    refine pj_iinc (v := (nI 1)) [(1, .int x1), (0, .ref (B.2.1 0))] C h rfl dd_Md_cuts_23 hl 2 rfl (by decide) rfl (fun x2 ls h hl => ?_)
    refine pj_goto C dd_Md_cuts_26 ?_
    exact k4 _ _ _ _ _ _ h P (lv_sub hl [2, 1, 0] rfl)
theorem lt_Md_cuts_4 {B : pj_B} {A : Nat → Prop} {K : pj_K} {r0 : Int32} {z0 : pj_S} (hB : B.2.2.2.1 = pj_LM) (C : pj_C B A K cX11_cuts 3 RX11 1) (Q : pj_Qi B A K (some .int) r0 z0)  : ∀ (n : Nat) (v1 : Int32) (v2 : Int32) (z : pj_S) (H : Heap) (lo : List Loc) (ls : Array Slot), pj_lp2 Md_cuts_4 n v1 v2 z = some (r0, z0) → pj_P B A K z H lo → lv_has ls 3 [(0, .ref (B.2.1 0)), (1, .int v1), (2, .int v2)] → pj_W K H lo 4 ls [] := by
  intro n
  induction n with
  | zero => intro v1 v2 z H lo ls h; rw [pj_lp2_0] at h; cases h
  | succ n ih =>
    intro v1 v2 z H lo ls h P hl
    rw [pj_lp2_s] at h
    exact bt_Md_cuts_4 hB C Q   (pj_lp2 Md_cuts_4 n) ih v1 v2 z H lo ls h P hl
set_option maxHeartbeats 4000000 in
set_option maxRecDepth 100000 in
theorem ct_Md_cuts {l : Launch} {B : pj_B} (hB : B.2.2.2.1 = pj_LM)  {z : pj_S} {r0 : Int32} {z0 : pj_S} (h : Md_cuts z = some (r0, z0)) : pj_Mi l yX11_cuts cX11_cuts 3 (some .int) 1 [.ref (B.2.1 0)] B z r0 z0 := by
  refine pj_meti (own := RX11) (by decide +kernel) rfl (Nat.le_of_ble_eq_true rfl) ?_
  intro A K hK C Q H lo ls P hl
  have hl : lv_has ls 3 [(0, .ref (B.2.1 0))] := hl
  unfold Md_cuts at h
  refine pj_iconst (v := (nI 0)) C dd_Md_cuts_0 rfl ?_
  refine pj_istore_n [(1, .int (nI 0)), (0, .ref (B.2.1 0))] C dd_Md_cuts_1 rfl hl (by decide) rfl (fun ls hl => ?_)
  refine pj_iconst (v := (nI 0)) C dd_Md_cuts_2 rfl ?_
  refine pj_istore_n [(2, .int (nI 0)), (1, .int (nI 0)), (0, .ref (B.2.1 0))] C dd_Md_cuts_3 rfl hl (by decide) rfl (fun ls hl => ?_)
  exact lt_Md_cuts_4 hB C Q 4000 _ _ _ _ _ _ h P (lv_sub hl [2, 1, 0] rfl)
theorem dd_Md_look_0 : pj_d cX11_look 0 (.iload_n 1) 1 1 := ⟨by decide +kernel, rfl⟩
theorem dd_Md_look_1 : pj_d cX11_look 1 (.tableswitch 186 0 11 #[63, 70, 77, 84, 103, 110, 117, 124, 132, 137, 146, 151]) 63 64 := ⟨by decide +kernel, rfl⟩
theorem dd_Md_look_64 : pj_d cX11_look 64 (.aload_n 0) 1 65 := ⟨by decide +kernel, rfl⟩
theorem dd_Md_look_65 : pj_d cX11_look 65 (.getfield 7) 3 68 := ⟨by decide +kernel, rfl⟩
theorem dd_Md_look_68 : pj_d cX11_look 68 (.iconst 0) 1 69 := ⟨by decide +kernel, rfl⟩
theorem dd_Md_look_69 : pj_d cX11_look 69 (.iaload) 1 70 := ⟨by decide +kernel, rfl⟩
theorem dd_Md_look_70 : pj_d cX11_look 70 (.ireturn) 1 71 := ⟨by decide +kernel, rfl⟩
theorem dd_Md_look_71 : pj_d cX11_look 71 (.aload_n 0) 1 72 := ⟨by decide +kernel, rfl⟩
theorem dd_Md_look_72 : pj_d cX11_look 72 (.getfield 7) 3 75 := ⟨by decide +kernel, rfl⟩
theorem dd_Md_look_75 : pj_d cX11_look 75 (.iconst 1) 1 76 := ⟨by decide +kernel, rfl⟩
theorem dd_Md_look_76 : pj_d cX11_look 76 (.iaload) 1 77 := ⟨by decide +kernel, rfl⟩
theorem dd_Md_look_77 : pj_d cX11_look 77 (.ireturn) 1 78 := ⟨by decide +kernel, rfl⟩
theorem dd_Md_look_78 : pj_d cX11_look 78 (.aload_n 0) 1 79 := ⟨by decide +kernel, rfl⟩
theorem dd_Md_look_79 : pj_d cX11_look 79 (.getfield 7) 3 82 := ⟨by decide +kernel, rfl⟩
theorem dd_Md_look_82 : pj_d cX11_look 82 (.iconst 2) 1 83 := ⟨by decide +kernel, rfl⟩
theorem dd_Md_look_83 : pj_d cX11_look 83 (.iaload) 1 84 := ⟨by decide +kernel, rfl⟩
theorem dd_Md_look_84 : pj_d cX11_look 84 (.ireturn) 1 85 := ⟨by decide +kernel, rfl⟩
theorem dd_Md_look_85 : pj_d cX11_look 85 (.aload_n 0) 1 86 := ⟨by decide +kernel, rfl⟩
theorem dd_Md_look_86 : pj_d cX11_look 86 (.getfield 7) 3 89 := ⟨by decide +kernel, rfl⟩
theorem dd_Md_look_89 : pj_d cX11_look 89 (.iconst 0) 1 90 := ⟨by decide +kernel, rfl⟩
theorem dd_Md_look_90 : pj_d cX11_look 90 (.iaload) 1 91 := ⟨by decide +kernel, rfl⟩
theorem dd_Md_look_91 : pj_d cX11_look 91 (.aload_n 0) 1 92 := ⟨by decide +kernel, rfl⟩
theorem dd_Md_look_92 : pj_d cX11_look 92 (.getfield 7) 3 95 := ⟨by decide +kernel, rfl⟩
theorem dd_Md_look_95 : pj_d cX11_look 95 (.iconst 1) 1 96 := ⟨by decide +kernel, rfl⟩
theorem dd_Md_look_96 : pj_d cX11_look 96 (.iaload) 1 97 := ⟨by decide +kernel, rfl⟩
theorem dd_Md_look_97 : pj_d cX11_look 97 (.imul) 1 98 := ⟨by decide +kernel, rfl⟩
theorem dd_Md_look_98 : pj_d cX11_look 98 (.aload_n 0) 1 99 := ⟨by decide +kernel, rfl⟩
theorem dd_Md_look_99 : pj_d cX11_look 99 (.invokevirtual 305) 3 102 := ⟨by decide +kernel, rfl⟩
theorem dd_Md_look_102 : pj_d cX11_look 102 (.isub) 1 103 := ⟨by decide +kernel, rfl⟩
theorem dd_Md_look_103 : pj_d cX11_look 103 (.ireturn) 1 104 := ⟨by decide +kernel, rfl⟩
theorem dd_Md_look_104 : pj_d cX11_look 104 (.aload_n 0) 1 105 := ⟨by decide +kernel, rfl⟩
theorem dd_Md_look_105 : pj_d cX11_look 105 (.getfield 7) 3 108 := ⟨by decide +kernel, rfl⟩
theorem dd_Md_look_108 : pj_d cX11_look 108 (.iconst 3) 1 109 := ⟨by decide +kernel, rfl⟩
theorem dd_Md_look_109 : pj_d cX11_look 109 (.iaload) 1 110 := ⟨by decide +kernel, rfl⟩
theorem dd_Md_look_110 : pj_d cX11_look 110 (.ireturn) 1 111 := ⟨by decide +kernel, rfl⟩
theorem dd_Md_look_111 : pj_d cX11_look 111 (.aload_n 0) 1 112 := ⟨by decide +kernel, rfl⟩
theorem dd_Md_look_112 : pj_d cX11_look 112 (.getfield 7) 3 115 := ⟨by decide +kernel, rfl⟩
theorem dd_Md_look_115 : pj_d cX11_look 115 (.iconst 4) 1 116 := ⟨by decide +kernel, rfl⟩
theorem dd_Md_look_116 : pj_d cX11_look 116 (.iaload) 1 117 := ⟨by decide +kernel, rfl⟩
theorem dd_Md_look_117 : pj_d cX11_look 117 (.ireturn) 1 118 := ⟨by decide +kernel, rfl⟩
theorem dd_Md_look_118 : pj_d cX11_look 118 (.aload_n 0) 1 119 := ⟨by decide +kernel, rfl⟩
theorem dd_Md_look_119 : pj_d cX11_look 119 (.getfield 7) 3 122 := ⟨by decide +kernel, rfl⟩
theorem dd_Md_look_122 : pj_d cX11_look 122 (.iconst 5) 1 123 := ⟨by decide +kernel, rfl⟩
theorem dd_Md_look_123 : pj_d cX11_look 123 (.iaload) 1 124 := ⟨by decide +kernel, rfl⟩
theorem dd_Md_look_124 : pj_d cX11_look 124 (.ireturn) 1 125 := ⟨by decide +kernel, rfl⟩
theorem dd_Md_look_125 : pj_d cX11_look 125 (.aload_n 0) 1 126 := ⟨by decide +kernel, rfl⟩
theorem dd_Md_look_126 : pj_d cX11_look 126 (.getfield 7) 3 129 := ⟨by decide +kernel, rfl⟩
theorem dd_Md_look_129 : pj_d cX11_look 129 (.bipush 6) 2 131 := ⟨by decide +kernel, rfl⟩
theorem dd_Md_look_131 : pj_d cX11_look 131 (.iaload) 1 132 := ⟨by decide +kernel, rfl⟩
theorem dd_Md_look_132 : pj_d cX11_look 132 (.ireturn) 1 133 := ⟨by decide +kernel, rfl⟩
theorem dd_Md_look_133 : pj_d cX11_look 133 (.aload_n 0) 1 134 := ⟨by decide +kernel, rfl⟩
theorem dd_Md_look_134 : pj_d cX11_look 134 (.invokevirtual 323) 3 137 := ⟨by decide +kernel, rfl⟩
theorem dd_Md_look_137 : pj_d cX11_look 137 (.ireturn) 1 138 := ⟨by decide +kernel, rfl⟩
theorem dd_Md_look_138 : pj_d cX11_look 138 (.aload_n 0) 1 139 := ⟨by decide +kernel, rfl⟩
theorem dd_Md_look_139 : pj_d cX11_look 139 (.getfield 7) 3 142 := ⟨by decide +kernel, rfl⟩
theorem dd_Md_look_142 : pj_d cX11_look 142 (.sipush 605) 3 145 := ⟨by decide +kernel, rfl⟩
theorem dd_Md_look_145 : pj_d cX11_look 145 (.iaload) 1 146 := ⟨by decide +kernel, rfl⟩
theorem dd_Md_look_146 : pj_d cX11_look 146 (.ireturn) 1 147 := ⟨by decide +kernel, rfl⟩
theorem dd_Md_look_147 : pj_d cX11_look 147 (.aload_n 0) 1 148 := ⟨by decide +kernel, rfl⟩
theorem dd_Md_look_148 : pj_d cX11_look 148 (.getfield 67) 3 151 := ⟨by decide +kernel, rfl⟩
theorem dd_Md_look_151 : pj_d cX11_look 151 (.ireturn) 1 152 := ⟨by decide +kernel, rfl⟩
theorem dd_Md_look_152 : pj_d cX11_look 152 (.iconst 0) 1 153 := ⟨by decide +kernel, rfl⟩
theorem dd_Md_look_153 : pj_d cX11_look 153 (.istore_n 2) 1 154 := ⟨by decide +kernel, rfl⟩
theorem dd_Md_look_154 : pj_d cX11_look 154 (.iconst 0) 1 155 := ⟨by decide +kernel, rfl⟩
theorem dd_Md_look_155 : pj_d cX11_look 155 (.istore_n 3) 1 156 := ⟨by decide +kernel, rfl⟩
theorem dd_Md_look_156 : pj_d cX11_look 156 (.iload_n 3) 1 157 := ⟨by decide +kernel, rfl⟩
theorem dd_Md_look_157 : pj_d cX11_look 157 (.aload_n 0) 1 158 := ⟨by decide +kernel, rfl⟩
theorem dd_Md_look_158 : pj_d cX11_look 158 (.getfield 7) 3 161 := ⟨by decide +kernel, rfl⟩
theorem dd_Md_look_161 : pj_d cX11_look 161 (.iconst 3) 1 162 := ⟨by decide +kernel, rfl⟩
theorem dd_Md_look_162 : pj_d cX11_look 162 (.iaload) 1 163 := ⟨by decide +kernel, rfl⟩
theorem dd_Md_look_163 : pj_dj cX11_look 163 (.if_icmp .ge 22) 22 166 185 := ⟨by decide +kernel, rfl, by decide⟩
theorem dd_Md_look_166 : pj_d cX11_look 166 (.iload_n 2) 1 167 := ⟨by decide +kernel, rfl⟩
theorem dd_Md_look_167 : pj_d cX11_look 167 (.aload_n 0) 1 168 := ⟨by decide +kernel, rfl⟩
theorem dd_Md_look_168 : pj_d cX11_look 168 (.getfield 7) 3 171 := ⟨by decide +kernel, rfl⟩
theorem dd_Md_look_171 : pj_d cX11_look 171 (.sipush 270) 3 174 := ⟨by decide +kernel, rfl⟩
theorem dd_Md_look_174 : pj_d cX11_look 174 (.iload_n 3) 1 175 := ⟨by decide +kernel, rfl⟩
theorem dd_Md_look_175 : pj_d cX11_look 175 (.iadd) 1 176 := ⟨by decide +kernel, rfl⟩
theorem dd_Md_look_176 : pj_d cX11_look 176 (.iaload) 1 177 := ⟨by decide +kernel, rfl⟩
theorem dd_Md_look_177 : pj_d cX11_look 177 (.iadd) 1 178 := ⟨by decide +kernel, rfl⟩
theorem dd_Md_look_178 : pj_d cX11_look 178 (.istore_n 2) 1 179 := ⟨by decide +kernel, rfl⟩
theorem dd_Md_look_179 : pj_d cX11_look 179 (.iinc 3 1) 3 182 := ⟨by decide +kernel, rfl⟩
theorem dd_Md_look_182 : pj_dj cX11_look 182 (.goto (-26)) (-26) 185 156 := ⟨by decide +kernel, rfl, by decide⟩
theorem dd_Md_look_185 : pj_d cX11_look 185 (.iload_n 2) 1 186 := ⟨by decide +kernel, rfl⟩
theorem dd_Md_look_186 : pj_d cX11_look 186 (.ireturn) 1 187 := ⟨by decide +kernel, rfl⟩
theorem dd_Md_look_187 : pj_d cX11_look 187 (.iconst (-1)) 1 188 := ⟨by decide +kernel, rfl⟩
theorem dd_Md_look_188 : pj_d cX11_look 188 (.ireturn) 1 189 := ⟨by decide +kernel, rfl⟩
set_option maxHeartbeats 4000000 in
set_option maxRecDepth 100000 in
theorem bt_Md_look_156 {B : pj_B} {A : Nat → Prop} {K : pj_K} {r0 : Int32} {z0 : pj_S} (hB : B.2.2.2.1 = pj_LM) (C : pj_C B A K cX11_look 4 RX11 2) (Q : pj_Qi B A K (some .int) r0 z0) (s156 : Int32 → Int32 → pj_S → Option (Int32 × pj_S)) (k156 : ∀ (v2 : Int32) (v3 : Int32) (z : pj_S) (H : Heap) (lo : List Loc) (ls : Array Slot), s156 v2 v3 z = some (r0, z0) → pj_P B A K z H lo → lv_has ls 4 [(0, .ref (B.2.1 0)), (2, .int v2), (3, .int v3)] → pj_W K H lo 156 ls []) (v2 : Int32) (v3 : Int32) (z : pj_S) (H : Heap) (lo : List Loc) (ls : Array Slot) (h : Md_look_156 s156 v2 v3 z = some (r0, z0)) (P : pj_P B A K z H lo) (hl : lv_has ls 4 [(0, .ref (B.2.1 0)), (2, .int v2), (3, .int v3)]) : pj_W K H lo 156 ls [] := by
  unfold Md_look_156 at h
  refine pj_iload_n C dd_Md_look_156 rfl hl 2 rfl ?_
  refine pj_aload_n C dd_Md_look_157 rfl hl 0 rfl ?_
  refine pj_getR C P 0 (LM0 hB) rfl fl_Md_7 dd_Md_look_158 ?_
  refine pj_iconst (v := (nI 3)) C dd_Md_look_161 rfl ?_
  refine pj_iald C P 1 (LM1 hB) h dd_Md_look_162 (fun h => ?_)
  refine pj_ic_ge C h dd_Md_look_163 (fun h => ?_) (fun h => ?_)
  · refine pj_iload_n C dd_Md_look_185 rfl hl 1 rfl ?_
    exact pj_iret C Q P h dd_Md_look_186
  · refine pj_iload_n C dd_Md_look_166 rfl hl 1 rfl ?_
    refine pj_aload_n C dd_Md_look_167 rfl hl 0 rfl ?_
    refine pj_getR C P 0 (LM0 hB) rfl fl_Md_7 dd_Md_look_168 ?_
    refine pj_sipush (v := (nI 270)) C dd_Md_look_171 rfl ?_
    refine pj_iload_n C dd_Md_look_174 rfl hl 2 rfl ?_
    refine pj_iadd C dd_Md_look_175 ?_
    refine pj_iald C P 1 (LM1 hB) h dd_Md_look_176 (fun h => ?_)
    refine pj_iadd C dd_Md_look_177 ?_
    refine pj_istb_n [(0, .ref (B.2.1 0)), (3, .int v3)] C h dd_Md_look_178 rfl hl (by decide) rfl (fun x1 ls h hl => ?_)
    refine pj_iinc (v := (nI 1)) [(2, .int x1), (0, .ref (B.2.1 0))] C h rfl dd_Md_look_179 hl 2 rfl (by decide) rfl (fun x2 ls h hl => ?_)
    refine pj_goto C dd_Md_look_182 ?_
    exact k156 _ _ _ _ _ _ h P (lv_sub hl [2, 1, 0] rfl)
theorem lt_Md_look_156 {B : pj_B} {A : Nat → Prop} {K : pj_K} {r0 : Int32} {z0 : pj_S} (hB : B.2.2.2.1 = pj_LM) (C : pj_C B A K cX11_look 4 RX11 2) (Q : pj_Qi B A K (some .int) r0 z0)  : ∀ (n : Nat) (v2 : Int32) (v3 : Int32) (z : pj_S) (H : Heap) (lo : List Loc) (ls : Array Slot), pj_lp2 Md_look_156 n v2 v3 z = some (r0, z0) → pj_P B A K z H lo → lv_has ls 4 [(0, .ref (B.2.1 0)), (2, .int v2), (3, .int v3)] → pj_W K H lo 156 ls [] := by
  intro n
  induction n with
  | zero => intro v2 v3 z H lo ls h; rw [pj_lp2_0] at h; cases h
  | succ n ih =>
    intro v2 v3 z H lo ls h P hl
    rw [pj_lp2_s] at h
    exact bt_Md_look_156 hB C Q   (pj_lp2 Md_look_156 n) ih v2 v3 z H lo ls h P hl
set_option maxHeartbeats 4000000 in
set_option maxRecDepth 100000 in
theorem ct_Md_look {l : Launch} {B : pj_B} (hB : B.2.2.2.1 = pj_LM) {v1 : Int32} {z : pj_S} {r0 : Int32} {z0 : pj_S} (h : Md_look v1 z = some (r0, z0)) : pj_Mi l yX11_look cX11_look 4 (some .int) 2 [.ref (B.2.1 0), .int v1] B z r0 z0 := by
  refine pj_meti (own := RX11) (by decide +kernel) rfl (Nat.le_of_ble_eq_true rfl) ?_
  intro A K hK C Q H lo ls P hl
  have hl : lv_has ls 4 [(0, .ref (B.2.1 0)), (1, .int v1)] := hl
  unfold Md_look at h
  refine pj_iload_n C dd_Md_look_0 rfl hl 1 rfl ?_
  refine pj_sw h (fun c0 h => ?_) (fun c0 h => ?_)
  · refine pj_swI (nI 0) (63) 64 C dd_Md_look_1 c0 (by decide) ?_
    refine pj_aload_n C dd_Md_look_64 rfl hl 0 rfl ?_
    refine pj_getR C P 0 (LM0 hB) rfl fl_Md_7 dd_Md_look_65 ?_
    refine pj_iconst (v := (nI 0)) C dd_Md_look_68 rfl ?_
    refine pj_iald C P 1 (LM1 hB) h dd_Md_look_69 (fun h => ?_)
    exact pj_iret C Q P h dd_Md_look_70
  refine pj_sw h (fun c1 h => ?_) (fun c1 h => ?_)
  · refine pj_swI (nI 1) (70) 71 C dd_Md_look_1 c1 (by decide) ?_
    refine pj_aload_n C dd_Md_look_71 rfl hl 0 rfl ?_
    refine pj_getR C P 0 (LM0 hB) rfl fl_Md_7 dd_Md_look_72 ?_
    refine pj_iconst (v := (nI 1)) C dd_Md_look_75 rfl ?_
    refine pj_iald C P 1 (LM1 hB) h dd_Md_look_76 (fun h => ?_)
    exact pj_iret C Q P h dd_Md_look_77
  refine pj_sw h (fun c2 h => ?_) (fun c2 h => ?_)
  · refine pj_swI (nI 2) (77) 78 C dd_Md_look_1 c2 (by decide) ?_
    refine pj_aload_n C dd_Md_look_78 rfl hl 0 rfl ?_
    refine pj_getR C P 0 (LM0 hB) rfl fl_Md_7 dd_Md_look_79 ?_
    refine pj_iconst (v := (nI 2)) C dd_Md_look_82 rfl ?_
    refine pj_iald C P 1 (LM1 hB) h dd_Md_look_83 (fun h => ?_)
    exact pj_iret C Q P h dd_Md_look_84
  refine pj_sw h (fun c3 h => ?_) (fun c3 h => ?_)
  · refine pj_swI (nI 3) (84) 85 C dd_Md_look_1 c3 (by decide) ?_
    refine pj_aload_n C dd_Md_look_85 rfl hl 0 rfl ?_
    refine pj_getR C P 0 (LM0 hB) rfl fl_Md_7 dd_Md_look_86 ?_
    refine pj_iconst (v := (nI 0)) C dd_Md_look_89 rfl ?_
    refine pj_iald C P 1 (LM1 hB) h dd_Md_look_90 (fun h => ?_)
    refine pj_aload_n C dd_Md_look_91 rfl hl 0 rfl ?_
    refine pj_getR C P 0 (LM0 hB) rfl fl_Md_7 dd_Md_look_92 ?_
    refine pj_iconst (v := (nI 1)) C dd_Md_look_95 rfl ?_
    refine pj_iald C P 1 (LM1 hB) h dd_Md_look_96 (fun h => ?_)
    refine pj_imul C dd_Md_look_97 ?_
    refine pj_aload_n C dd_Md_look_98 rfl hl 0 rfl ?_
    obtain ⟨r3, z2, e1, h⟩ := pj_cE h
    refine pj_cVi (st := [.int ((z.1 1 (Int32.toNatClampNeg (nI 0))) * (z.1 1 (Int32.toNatClampNeg (nI 1))))]) [] C P 0 (LM0 hB) rfl (ct_Md_hereMany hB e1) cl_Md_305 rfl (by decide) (by decide) hl.1 (Nat.le_of_ble_eq_true rfl) dd_Md_look_99 (fun H lo P => ?_)
    refine pj_isub C dd_Md_look_102 ?_
    exact pj_iret C Q P h dd_Md_look_103
  refine pj_sw h (fun c4 h => ?_) (fun c4 h => ?_)
  · refine pj_swI (nI 4) (103) 104 C dd_Md_look_1 c4 (by decide) ?_
    refine pj_aload_n C dd_Md_look_104 rfl hl 0 rfl ?_
    refine pj_getR C P 0 (LM0 hB) rfl fl_Md_7 dd_Md_look_105 ?_
    refine pj_iconst (v := (nI 3)) C dd_Md_look_108 rfl ?_
    refine pj_iald C P 1 (LM1 hB) h dd_Md_look_109 (fun h => ?_)
    exact pj_iret C Q P h dd_Md_look_110
  refine pj_sw h (fun c5 h => ?_) (fun c5 h => ?_)
  · refine pj_swI (nI 5) (110) 111 C dd_Md_look_1 c5 (by decide) ?_
    refine pj_aload_n C dd_Md_look_111 rfl hl 0 rfl ?_
    refine pj_getR C P 0 (LM0 hB) rfl fl_Md_7 dd_Md_look_112 ?_
    refine pj_iconst (v := (nI 4)) C dd_Md_look_115 rfl ?_
    refine pj_iald C P 1 (LM1 hB) h dd_Md_look_116 (fun h => ?_)
    exact pj_iret C Q P h dd_Md_look_117
  refine pj_sw h (fun c6 h => ?_) (fun c6 h => ?_)
  · refine pj_swI (nI 6) (117) 118 C dd_Md_look_1 c6 (by decide) ?_
    refine pj_aload_n C dd_Md_look_118 rfl hl 0 rfl ?_
    refine pj_getR C P 0 (LM0 hB) rfl fl_Md_7 dd_Md_look_119 ?_
    refine pj_iconst (v := (nI 5)) C dd_Md_look_122 rfl ?_
    refine pj_iald C P 1 (LM1 hB) h dd_Md_look_123 (fun h => ?_)
    exact pj_iret C Q P h dd_Md_look_124
  refine pj_sw h (fun c7 h => ?_) (fun c7 h => ?_)
  · refine pj_swI (nI 7) (124) 125 C dd_Md_look_1 c7 (by decide) ?_
    refine pj_aload_n C dd_Md_look_125 rfl hl 0 rfl ?_
    refine pj_getR C P 0 (LM0 hB) rfl fl_Md_7 dd_Md_look_126 ?_
    refine pj_bipush (v := (nI 6)) C dd_Md_look_129 rfl ?_
    refine pj_iald C P 1 (LM1 hB) h dd_Md_look_131 (fun h => ?_)
    exact pj_iret C Q P h dd_Md_look_132
  refine pj_sw h (fun c8 h => ?_) (fun c8 h => ?_)
  · refine pj_swI (nI 8) (132) 133 C dd_Md_look_1 c8 (by decide) ?_
    refine pj_aload_n C dd_Md_look_133 rfl hl 0 rfl ?_
    obtain ⟨r6, z5, e4, h⟩ := pj_cE h
    refine pj_cVi (st := []) [] C P 0 (LM0 hB) rfl (ct_Md_cuts hB e4) cl_Md_323 rfl (by decide) (by decide) hl.1 (Nat.le_of_ble_eq_true rfl) dd_Md_look_134 (fun H lo P => ?_)
    exact pj_iret C Q P h dd_Md_look_137
  refine pj_sw h (fun c9 h => ?_) (fun c9 h => ?_)
  · refine pj_swI (nI 9) (137) 138 C dd_Md_look_1 c9 (by decide) ?_
    refine pj_aload_n C dd_Md_look_138 rfl hl 0 rfl ?_
    refine pj_getR C P 0 (LM0 hB) rfl fl_Md_7 dd_Md_look_139 ?_
    refine pj_sipush (v := (nI 605)) C dd_Md_look_142 rfl ?_
    refine pj_iald C P 1 (LM1 hB) h dd_Md_look_145 (fun h => ?_)
    exact pj_iret C Q P h dd_Md_look_146
  refine pj_sw h (fun c10 h => ?_) (fun c10 h => ?_)
  · refine pj_swI (nI 10) (146) 147 C dd_Md_look_1 c10 (by decide) ?_
    refine pj_aload_n C dd_Md_look_147 rfl hl 0 rfl ?_
    refine pj_getI C P 0 (LM0 hB) rfl fl_Md_67 dd_Md_look_148 ?_
    exact pj_iret C Q P h dd_Md_look_151
  refine pj_sw h (fun c11 h => ?_) (fun c11 h => ?_)
  · refine pj_swI (nI 11) (151) 152 C dd_Md_look_1 c11 (by decide) ?_
    refine pj_iconst (v := (nI 0)) C dd_Md_look_152 rfl ?_
    refine pj_istore_n [(2, .int (nI 0)), (0, .ref (B.2.1 0)), (1, .int v1)] C dd_Md_look_153 rfl hl (by decide) rfl (fun ls hl => ?_)
    refine pj_iconst (v := (nI 0)) C dd_Md_look_154 rfl ?_
    refine pj_istore_n [(3, .int (nI 0)), (2, .int (nI 0)), (0, .ref (B.2.1 0)), (1, .int v1)] C dd_Md_look_155 rfl hl (by decide) rfl (fun ls hl => ?_)
    exact lt_Md_look_156 hB C Q 4000 _ _ _ _ _ _ h P (lv_sub hl [2, 1, 0] rfl)
  have u0 := pj_nI c0 (n := 0) (by decide)
  have u1 := pj_nI c1 (n := 1) (by decide)
  have u2 := pj_nI c2 (n := 2) (by decide)
  have u3 := pj_nI c3 (n := 3) (by decide)
  have u4 := pj_nI c4 (n := 4) (by decide)
  have u5 := pj_nI c5 (n := 5) (by decide)
  have u6 := pj_nI c6 (n := 6) (by decide)
  have u7 := pj_nI c7 (n := 7) (by decide)
  have u8 := pj_nI c8 (n := 8) (by decide)
  have u9 := pj_nI c9 (n := 9) (by decide)
  have u10 := pj_nI c10 (n := 10) (by decide)
  have u11 := pj_nI c11 (n := 11) (by decide)
  refine pj_swO 187 C dd_Md_look_1 (by omega) (by decide) ?_
  refine pj_iconst (v := (-1 : Int32)) C dd_Md_look_187 rfl ?_
  exact pj_iret C Q P h dd_Md_look_188
