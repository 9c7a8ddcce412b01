theorem pj_mem (i : Nat) {w : Cond} (h : lw_tbl[i]? = some w) (g : goodWord w = true) : w ∈ pj_tbl := List.mem_filter.mpr ⟨List.mem_of_getElem? h, g⟩
theorem pj_good {y : MethodName} {c : ByteArray} {n : Nat} {r : Option FieldType} (h : Cond.code y c n r ∈ pj_tbl) : GoodIn pj_tbl (pj_ws y c n r) := by
  intro w hw
  rcases List.mem_cons.mp hw with rfl | hw
  · exact ⟨h, good_of_word (List.mem_filter.mp h).2⟩
  · exact ⟨hw, good_of_word (List.mem_filter.mp hw).2⟩
def pj_Pre (B : pj_B) (z : pj_S) (sz : Nat) : State → Prop := fun U => U.heap.size = sz ∧ va_P B.1 vwCl (pj_w B z) U.heap ∧ pj_T B (pj_ar B sz) U ∧ pj_apart B
theorem pj_Pre.blind {av : List Value} {B : pj_B} {z : pj_S} {sz : Nat} : FrameBlind (va_Pc av (pj_Pre B z sz)) := fun a U g mk q => ⟨q.1, q.2.1, q.2.2.1, ⟨va_K.moved (u := U) (U := U.calling g mk a) (Vm.Alike.refl U.vm) q.2.2.2.1.1, pj_stat.same (u := U) (U := U.calling g mk a) q.2.2.2.1.2 rfl⟩, q.2.2.2.2⟩
def pj_Mi (l : Launch) (y : MethodName) (c : ByteArray) (n : Nat) (ret : Option FieldType) (lv : Nat) (av : List Value) (B : pj_B) (z : pj_S) (r0 : Int32) (z0 : pj_S) : Prop := ∀ sz : Nat, Met l y (pj_ws y c n ret) (pj_rm lv) (va_Pc av (pj_Pre B z sz)) (va_Qi (fun r (u : pj_S) => r = r0 ∧ u = z0) (fun u t => va_P B.1 vwCl (pj_w B u) t.heap) (pj_ar B sz)) 0 0 (pj_ar B sz)
def pj_Qi (B : pj_B) (A : Nat → Prop) (K : pj_K) (ret : Option FieldType) (r0 : Int32) (z0 : pj_S) : Prop := K.2.2.2.2.2.2.2.2.2.2.2.2 = MQ K.2.2.2.2.2.2.2.1 (va_Qi (fun r (u : pj_S) => r = r0 ∧ u = z0) (fun u t => va_P B.1 vwCl (pj_w B u) t.heap) A) K.2.2.2.2.2.2.1 K.2.2.2.2.1 K.2.2.2.2.2.2.2.2.2.2.1 K.2.2.2.2.2.2.2.2.2.2.2.1 A ∧ K.2.2.2.2.2.2.2.2.1.sig.returnType = ret ∧ K.2.2.2.2.2.2.2.2.1.locks = false
def pj_Ml (l : Launch) (y : MethodName) (c : ByteArray) (n : Nat) (ret : Option FieldType) (lv : Nat) (av : List Value) (B : pj_B) (z : pj_S) (r0 : Int64) (z0 : pj_S) : Prop := ∀ sz : Nat, Met l y (pj_ws y c n ret) (pj_rm lv) (va_Pc av (pj_Pre B z sz)) (va_Ql (fun r (u : pj_S) => r = r0 ∧ u = z0) (fun u t => va_P B.1 vwCl (pj_w B u) t.heap) (pj_ar B sz)) 0 0 (pj_ar B sz)
def pj_Ql (B : pj_B) (A : Nat → Prop) (K : pj_K) (ret : Option FieldType) (r0 : Int64) (z0 : pj_S) : Prop := K.2.2.2.2.2.2.2.2.2.2.2.2 = MQ K.2.2.2.2.2.2.2.1 (va_Ql (fun r (u : pj_S) => r = r0 ∧ u = z0) (fun u t => va_P B.1 vwCl (pj_w B u) t.heap) A) K.2.2.2.2.2.2.1 K.2.2.2.2.1 K.2.2.2.2.2.2.2.2.2.2.1 K.2.2.2.2.2.2.2.2.2.2.2.1 A ∧ K.2.2.2.2.2.2.2.2.1.sig.returnType = ret ∧ K.2.2.2.2.2.2.2.2.1.locks = false
def pj_Mv (l : Launch) (y : MethodName) (c : ByteArray) (n : Nat) (ret : Option FieldType) (lv : Nat) (av : List Value) (B : pj_B) (z : pj_S) (r0 : Unit) (z0 : pj_S) : Prop := ∀ sz : Nat, Met l y (pj_ws y c n ret) (pj_rm lv) (va_Pc av (pj_Pre B z sz)) (va_Qv (fun (u : pj_S) => u = z0) (fun u t => va_P B.1 vwCl (pj_w B u) t.heap) (pj_ar B sz)) 0 0 (pj_ar B sz)
def pj_Qv (B : pj_B) (A : Nat → Prop) (K : pj_K) (ret : Option FieldType) (r0 : Unit) (z0 : pj_S) : Prop := K.2.2.2.2.2.2.2.2.2.2.2.2 = MQ K.2.2.2.2.2.2.2.1 (va_Qv (fun (u : pj_S) => u = z0) (fun u t => va_P B.1 vwCl (pj_w B u) t.heap) A) K.2.2.2.2.2.2.1 K.2.2.2.2.1 K.2.2.2.2.2.2.2.2.2.2.1 K.2.2.2.2.2.2.2.2.2.2.2.1 A ∧ K.2.2.2.2.2.2.2.2.1.sig.returnType = ret ∧ K.2.2.2.2.2.2.2.2.1.locks = false
theorem pj_iret {B : pj_B} {A : Nat → Prop} {K : pj_K} {cc : ByteArray} {nL : Nat} {own : String} {lvl : Nat} {H : Heap} {lo : List Loc} {ls : Array Slot} {pc q : Nat} {z z0 : pj_S} {v r0 : Int32} (C : pj_C B A K cc nL own lvl) (Q : pj_Qi B A K (some .int) r0 z0) (P : pj_P B A K z H lo) (h : some (v, z) = some (r0, z0)) (d : pj_d cc pc .ireturn 1 q) : pj_W K H lo pc ls [.int v] := by
  cases h
  unfold pj_W
  rw [Q.1]
  exact W.iret C.1 C.2.1 Q.2.1 (fun t ht hW => ⟨⟨v, z, rfl, ⟨rfl, rfl⟩, by show va_P B.1 vwCl (pj_w B z) t.heap; rw [ht]; exact P.1⟩, P.2.F ht⟩) P.2.2.2 d.1 Q.2.2
theorem pj_zret {B : pj_B} {A : Nat → Prop} {K : pj_K} {cc : ByteArray} {nL : Nat} {own : String} {lvl : Nat} {H : Heap} {lo : List Loc} {ls : Array Slot} {pc q : Nat} {z z0 : pj_S} {v r0 : Int32} (C : pj_C B A K cc nL own lvl) (Q : pj_Qi B A K (some .boolean) r0 z0) (P : pj_P B A K z H lo) (h : pj_g (pj_bo v) (some (v, z)) = some (r0, z0)) (d : pj_d cc pc .ireturn 1 q) : pj_W K H lo pc ls [.int v] := by
  obtain ⟨hb, h⟩ := pj_gE h
  cases h
  unfold pj_W
  rw [Q.1]
  exact W.zret C.1 C.2.1 Q.2.1 (pj_boN hb) (fun t ht hW => ⟨⟨v, z, rfl, ⟨rfl, rfl⟩, by show va_P B.1 vwCl (pj_w B z) t.heap; rw [ht]; exact P.1⟩, P.2.F ht⟩) P.2.2.2 d.1 Q.2.2
theorem pj_lret {B : pj_B} {A : Nat → Prop} {K : pj_K} {cc : ByteArray} {nL : Nat} {own : String} {lvl : Nat} {H : Heap} {lo : List Loc} {ls : Array Slot} {pc q : Nat} {z z0 : pj_S} {v r0 : Int64} (C : pj_C B A K cc nL own lvl) (Q : pj_Ql B A K (some .long) r0 z0) (P : pj_P B A K z H lo) (h : some (v, z) = some (r0, z0)) (d : pj_d cc pc .lreturn 1 q) : pj_W K H lo pc ls [.long v] := by
  cases h
  unfold pj_W
  rw [Q.1]
  exact W.lret C.1 C.2.1 Q.2.1 (fun t ht hW => ⟨⟨v, z, rfl, ⟨rfl, rfl⟩, by show va_P B.1 vwCl (pj_w B z) t.heap; rw [ht]; exact P.1⟩, P.2.F ht⟩) P.2.2.2 d.1 Q.2.2
theorem pj_vret {B : pj_B} {A : Nat → Prop} {K : pj_K} {cc : ByteArray} {nL : Nat} {own : String} {lvl : Nat} {H : Heap} {lo : List Loc} {ls : Array Slot} {pc q : Nat} {z z0 : pj_S} {r0 : Unit} (C : pj_C B A K cc nL own lvl) (Q : pj_Qv B A K none r0 z0) (P : pj_P B A K z H lo) (h : some ((), z) = some (r0, z0)) (d : pj_d cc pc .return_ 1 q) : pj_W K H lo pc ls [] := by
  cases h
  unfold pj_W
  rw [Q.1]
  exact W.vret C.1 C.2.1 Q.2.1 (fun t ht hW => ⟨⟨z, rfl, rfl, by show va_P B.1 vwCl (pj_w B z) t.heap; rw [ht]; exact P.1⟩, P.2.F ht⟩) P.2.2.2 d.1 Q.2.2
set_option maxHeartbeats 2000000 in
/-- a method's contract out of a walk from its entry -/
theorem pj_meti {l : Launch} {y : MethodName} {c : ByteArray} {n lv : Nat} {ret : Option FieldType} {av : List Value} {B : pj_B} {z z0 : pj_S} {r0 : Int32} {own : String} (hy : plainName y.cls = true) (hown : y.cls = own) (hn : (lg_sl av).length ≤ n)
    (body : ∀ (A : Nat → Prop) (K : pj_K), K.2.1 = l → pj_C B A K c n own lv → pj_Qi B A K ret r0 z0 → ∀ (H : Heap) (lo : List Loc) (ls : Array Slot), pj_P B A K z H lo → lv_has ls n (lv_args 0 av) → pj_W K H lo 0 ls []) : pj_Mi l y c n ret lv av B z r0 z0 := by
  intro sz
  refine Met.ofW (cc := c) (maxL := n) (ret := ret) hy rfl ?_
  intro p e s m args below meth c0 s₁ X hml hv
  obtain ⟨rfl, hsz, hP, hT, hap⟩ := hv
  subst hsz
  have hl := lv_entry av (n := n) hn
  rw [lg_entry_eq]
  have hts := atoms_spec (ws := pj_ws y c n ret) X.pre
  have hA : ∀ k, k < B.2.2.2.1.length → pj_ar B s.heap.size (B.2.1 k) := fun k hk => Or.inl ⟨k, hk, rfl⟩
  exact body (pj_ar B s.heap.size) (p, l, e, pj_rm lv, s, m, av.toArray, below, meth, c0, 0, 0, _) rfl ⟨X.exec, X.bytes, hml, by rw [← hown]; exact findClass_of_methodNamed X.named, fun w hw => hts w (List.mem_cons_of_mem _ hw), hT, hap, hA, fun q h => Or.inr h, ⟨Nat.zero_le _, Nat.zero_le _⟩, Nat.le_refl _, Nat.le_refl _⟩ ⟨rfl, X.returns, X.notSynchronized⟩ s.heap [] _ ⟨hP, va_S.rf⟩ hl
set_option maxHeartbeats 2000000 in
/-- a method's contract out of a walk from its entry -/
theorem pj_metl {l : Launch} {y : MethodName} {c : ByteArray} {n lv : Nat} {ret : Option FieldType} {av : List Value} {B : pj_B} {z z0 : pj_S} {r0 : Int64} {own : String} (hy : plainName y.cls = true) (hown : y.cls = own) (hn : (lg_sl av).length ≤ n)
    (body : ∀ (A : Nat → Prop) (K : pj_K), K.2.1 = l → pj_C B A K c n own lv → pj_Ql B A K ret r0 z0 → ∀ (H : Heap) (lo : List Loc) (ls : Array Slot), pj_P B A K z H lo → lv_has ls n (lv_args 0 av) → pj_W K H lo 0 ls []) : pj_Ml l y c n ret lv av B z r0 z0 := by
  intro sz
  refine Met.ofW (cc := c) (maxL := n) (ret := ret) hy rfl ?_
  intro p e s m args below meth c0 s₁ X hml hv
  obtain ⟨rfl, hsz, hP, hT, hap⟩ := hv
  subst hsz
  have hl := lv_entry av (n := n) hn
  rw [lg_entry_eq]
  have hts := atoms_spec (ws := pj_ws y c n ret) X.pre
  have hA : ∀ k, k < B.2.2.2.1.length → pj_ar B s.heap.size (B.2.1 k) := fun k hk => Or.inl ⟨k, hk, rfl⟩
  exact body (pj_ar B s.heap.size) (p, l, e, pj_rm lv, s, m, av.toArray, below, meth, c0, 0, 0, _) rfl ⟨X.exec, X.bytes, hml, by rw [← hown]; exact findClass_of_methodNamed X.named, fun w hw => hts w (List.mem_cons_of_mem _ hw), hT, hap, hA, fun q h => Or.inr h, ⟨Nat.zero_le _, Nat.zero_le _⟩, Nat.le_refl _, Nat.le_refl _⟩ ⟨rfl, X.returns, X.notSynchronized⟩ s.heap [] _ ⟨hP, va_S.rf⟩ hl
set_option maxHeartbeats 2000000 in
/-- a method's contract out of a walk from its entry -/
theorem pj_metv {l : Launch} {y : MethodName} {c : ByteArray} {n lv : Nat} {ret : Option FieldType} {av : List Value} {B : pj_B} {z z0 : pj_S} {r0 : Unit} {own : String} (hy : plainName y.cls = true) (hown : y.cls = own) (hn : (lg_sl av).length ≤ n)
    (body : ∀ (A : Nat → Prop) (K : pj_K), K.2.1 = l → pj_C B A K c n own lv → pj_Qv B A K ret r0 z0 → ∀ (H : Heap) (lo : List Loc) (ls : Array Slot), pj_P B A K z H lo → lv_has ls n (lv_args 0 av) → pj_W K H lo 0 ls []) : pj_Mv l y c n ret lv av B z r0 z0 := by
  intro sz
  refine Met.ofW (cc := c) (maxL := n) (ret := ret) hy rfl ?_
  intro p e s m args below meth c0 s₁ X hml hv
  obtain ⟨rfl, hsz, hP, hT, hap⟩ := hv
  subst hsz
  have hl := lv_entry av (n := n) hn
  rw [lg_entry_eq]
  have hts := atoms_spec (ws := pj_ws y c n ret) X.pre
  have hA : ∀ k, k < B.2.2.2.1.length → pj_ar B s.heap.size (B.2.1 k) := fun k hk => Or.inl ⟨k, hk, rfl⟩
  exact body (pj_ar B s.heap.size) (p, l, e, pj_rm lv, s, m, av.toArray, below, meth, c0, 0, 0, _) rfl ⟨X.exec, X.bytes, hml, by rw [← hown]; exact findClass_of_methodNamed X.named, fun w hw => hts w (List.mem_cons_of_mem _ hw), hT, hap, hA, fun q h => Or.inr h, ⟨Nat.zero_le _, Nat.zero_le _⟩, Nat.le_refl _, Nat.le_refl _⟩ ⟨rfl, X.returns, X.notSynchronized⟩ s.heap [] _ ⟨hP, va_S.rf⟩ hl
/-- what a call's link needs: invokevirtual, invokestatic, a nest mate's static -/
def pj_gV (own : String) (idx : Nat) (y : MethodName) (c : ByteArray) (n : Nat) (ret : Option FieldType) (na : Nat) : Prop := Cond.methodLink own idx y ∈ pj_tbl ∧ Cond.instanceMethod y ∈ pj_tbl ∧ Cond.selects y.cls y y ∈ pj_tbl ∧ Cond.initialized y.cls ∈ pj_tbl ∧ Cond.code y c n ret ∈ pj_tbl ∧ y.cls ≠ "java/lang/invoke/MethodHandle" ∧ y.cls ≠ "java/lang/invoke/VarHandle" ∧ (parseMethodDescriptor y.desc).map (fun d => d.parameters.length) = some na
def pj_gS (own : String) (idx : Nat) (y : MethodName) (c : ByteArray) (n : Nat) (ret : Option FieldType) (na : Nat) : Prop := Cond.methodLink own idx y ∈ pj_tbl ∧ Cond.static y ∈ pj_tbl ∧ Cond.initialized y.cls ∈ pj_tbl ∧ Cond.code y c n ret ∈ pj_tbl ∧ y.cls ≠ "java/lang/invoke/MethodHandle" ∧ y.cls ≠ "java/lang/invoke/VarHandle" ∧ (parseMethodDescriptor y.desc).map (fun d => d.parameters.length) = some na
def pj_gN (own : String) (idx : Nat) (y : MethodName) (c : ByteArray) (n : Nat) (ret : Option FieldType) (na : Nat) : Prop := (own, idx, y) ∈ pj_nl ∧ Cond.static y ∈ pj_tbl ∧ Cond.initialized y.cls ∈ pj_tbl ∧ Cond.code y c n ret ∈ pj_tbl ∧ y.cls ≠ "java/lang/invoke/MethodHandle" ∧ y.cls ≠ "java/lang/invoke/VarHandle" ∧ (parseMethodDescriptor y.desc).map (fun d => d.parameters.length) = some na
theorem pj_area {B : pj_B} {A : Nat → Prop} {K : pj_K} {cc : ByteArray} {nL : Nat} {own : String} {lvl : Nat} {H : Heap} {lo : List Loc} {z : pj_S} (C : pj_C B A K cc nL own lvl) (P : pj_P B A K z H lo) : ∀ x, pj_ar B H.size x → A x := by
  intro x hx
  rcases hx with ⟨k, hk, rfl⟩ | hx
  · exact C.2.2.2.2.2.2.2.1 k hk
  · exact C.2.2.2.2.2.2.2.2.1 x (Nat.le_trans P.2.1 hx)
theorem pj_pre {B : pj_B} {A : Nat → Prop} {K : pj_K} {cc : ByteArray} {nL : Nat} {own : String} {lvl : Nat} {H : Heap} {lo : List Loc} {z : pj_S} (C : pj_C B A K cc nL own lvl) (P : pj_P B A K z H lo) {U : State} (hU : U.heap = H) (hW : K.2.2.2.2.1.WarmedH U.vm) (av : List Value) : va_Pc av (pj_Pre B z H.size) av.toArray U := by
  refine ⟨rfl, by rw [hU], by rw [hU]; exact P.1, ⟨va_K.moved hW.alike C.2.2.2.2.2.1.1, ?_⟩, C.2.2.2.2.2.2.1⟩
  rw [hU]
  exact C.2.2.2.2.2.1.2.to hW P.2 (pj_area C P)
theorem pj_room {B : pj_B} {A : Nat → Prop} {K : pj_K} {cc : ByteArray} {nL : Nat} {own : String} {lvl : Nat} {lv2 n2 : Nat} (C : pj_C B A K cc nL own lvl) (hl : lv2 + 1 ≤ lvl) (hn : n2 ≤ 45) : (pj_rm lv2).frames + 1 ≤ K.2.2.2.1.frames ∧ 8 + (n2 + 11) + (pj_rm lv2).locals ≤ K.2.2.2.1.locals := by
  obtain ⟨h1, h2⟩ := C.2.2.2.2.2.2.2.2.2.2
  refine ⟨Nat.le_trans hl h1, Nat.le_trans ?_ h2⟩
  show 8 + (n2 + 11) + 64 * lv2 ≤ 64 * lvl
  omega
set_option maxHeartbeats 2000000 in
theorem pj_cVi {B : pj_B} {A : Nat → Prop} {K : pj_K} {cc : ByteArray} {nL : Nat} {own : String} {lvl : Nat} {H : Heap} {lo : List Loc} {ls : Array Slot} {st : List Value} {pc q : Nat} {y : MethodName} {c2 : ByteArray} {n2 lv2 na idx : Nat} {ret : Option FieldType} {z z2 : pj_S} {r : Int32} {ci : Nat} {l : List (Nat × Nat)} {T : u_T} {N : Nat} (As : List Value) (C : pj_C B A K cc nL own lvl) (P : pj_P B A K z H lo) (k : Nat) (hk : B.2.2.2.1[k]? = some (.inl (ci, l))) (hc : vwCl[ci]? = some (y.cls, T, N)) (hM : pj_Mi K.2.1 y c2 n2 ret lv2 (.ref (B.2.1 k) :: As) B z r z2) (g : pj_gV own idx y c2 n2 ret na) (hna : As.length = na) (hl : lv2 + 1 ≤ lvl) (hn : n2 ≤ 45) (hls : ls.size = nL) (hst : (st.map fun v => v.category).sum ≤ 8) (d : pj_d cc pc (.invokevirtual idx) 3 q) (kk : ∀ (H2 : Heap) (lo2 : List Loc), pj_P B A K z2 H2 lo2 → pj_W K H2 lo2 q ls (.int r :: st)) : pj_W K H lo pc ls (As.reverse ++ .ref (B.2.1 k) :: st) := by
  obtain ⟨d, rfl⟩ := d
  obtain ⟨g1, g2, g3, g4, g5, g6, g7, g8⟩ := g
  have hts := C.2.2.2.2.1
  refine va_calli (va_runV (C := y.cls) (As := As) (rest := st) ⟨C.1, C.2.1, C.2.2.1, C.2.2.2.1, hts⟩ (hM H.size) ⟨callB_of na hts (pj_good g5) rfl rfl rfl (hts _ g4) (hts _ g1) ⟨g6, g7, g8⟩ (pj_room C hl hn), hts _ g2, hts _ g3⟩ ⟨pj_Pre.blind, va_recv C.2.2.2.2.2.1.1 P.1 hc (pj_wg hk), fun U hU hW => pj_pre C P hU hW _⟩ rfl hna hls rfl (lv_room hst) d C.2.2.2.2.2.2.2.2.2.1) P.2 (fun x _ h => pj_area C P x h) (pj_area C P) (fun r2 u t H1 lo1 ht hvm hp hB hz hk hS => ?_)
  obtain ⟨rfl, rfl⟩ := hp
  exact kk H1 lo1 ⟨by rw [← ht]; exact hB, hS⟩
set_option maxHeartbeats 2000000 in
theorem pj_cSi {B : pj_B} {A : Nat → Prop} {K : pj_K} {cc : ByteArray} {nL : Nat} {own : String} {lvl : Nat} {H : Heap} {lo : List Loc} {ls : Array Slot} {st : List Value} {pc q : Nat} {y : MethodName} {c2 : ByteArray} {n2 lv2 na idx : Nat} {ret : Option FieldType} {z z2 : pj_S} {r : Int32} (As : List Value) (C : pj_C B A K cc nL own lvl) (P : pj_P B A K z H lo) (hM : pj_Mi K.2.1 y c2 n2 ret lv2 As B z r z2) (g : pj_gS own idx y c2 n2 ret na) (hna : As.length = na) (hl : lv2 + 1 ≤ lvl) (hn : n2 ≤ 45) (hls : ls.size = nL) (hst : (st.map fun v => v.category).sum ≤ 8) (d : pj_d cc pc (.invokestatic idx) 3 q) (kk : ∀ (H2 : Heap) (lo2 : List Loc), pj_P B A K z2 H2 lo2 → pj_W K H2 lo2 q ls (.int r :: st)) : pj_W K H lo pc ls (As.reverse ++ st) := by
  obtain ⟨d, rfl⟩ := d
  obtain ⟨g1, g2, g4, g5, g6, g7, g8⟩ := g
  have hts := C.2.2.2.2.1
  refine va_calli (va_runS (As := As) (rest := st) ⟨C.1, C.2.1, C.2.2.1, C.2.2.2.1, hts⟩ (hM H.size) ⟨callB_of na hts (pj_good g5) rfl rfl rfl (hts _ g4) (hts _ g1) ⟨g6, g7, g8⟩ (pj_room C hl hn), hts _ g2⟩ ⟨pj_Pre.blind, fun U hU hW => pj_pre C P hU hW _⟩ rfl hna hls rfl (lv_room hst) d C.2.2.2.2.2.2.2.2.2.1) P.2 (fun x _ h => pj_area C P x h) (pj_area C P) (fun r2 u t H1 lo1 ht hvm hp hB hz hk hS => ?_)
  obtain ⟨rfl, rfl⟩ := hp
  exact kk H1 lo1 ⟨by rw [← ht]; exact hB, hS⟩
set_option maxHeartbeats 2000000 in
theorem pj_cNi {B : pj_B} {A : Nat → Prop} {K : pj_K} {cc : ByteArray} {nL : Nat} {own : String} {lvl : Nat} {H : Heap} {lo : List Loc} {ls : Array Slot} {st : List Value} {pc q : Nat} {y : MethodName} {c2 : ByteArray} {n2 lv2 na idx : Nat} {ret : Option FieldType} {z z2 : pj_S} {r : Int32} (As : List Value) (C : pj_C B A K cc nL own lvl) (P : pj_P B A K z H lo) (hM : pj_Mi K.2.1 y c2 n2 ret lv2 As B z r z2) (g : pj_gN own idx y c2 n2 ret na) (hna : As.length = na) (hl : lv2 + 1 ≤ lvl) (hn : n2 ≤ 45) (hls : ls.size = nL) (hst : (st.map fun v => v.category).sum ≤ 8) (d : pj_d cc pc (.invokestatic idx) 3 q) (kk : ∀ (H2 : Heap) (lo2 : List Loc), pj_P B A K z2 H2 lo2 → pj_W K H2 lo2 q ls (.int r :: st)) : pj_W K H lo pc ls (As.reverse ++ st) := by
  obtain ⟨d, rfl⟩ := d
  obtain ⟨g1, g2, g4, g5, g6, g7, g8⟩ := g
  have hts := C.2.2.2.2.1
  refine va_calli (va_runSN (As := As) (rest := st) ⟨C.1, C.2.1, C.2.2.1, C.2.2.2.1, hts⟩ (hM H.size) ⟨va_cnB na hts (pj_good g5) rfl rfl rfl (C.2.2.2.2.2.1.2.1 _ g1) (hts _ g4) ⟨g6, g7, g8⟩ (pj_room C hl hn), hts _ g2, trivial⟩ ⟨pj_Pre.blind, fun U hU hW => pj_pre C P hU hW _⟩ rfl hna hls rfl (lv_room hst) d C.2.2.2.2.2.2.2.2.2.1) P.2 (fun x _ h => pj_area C P x h) (pj_area C P) (fun r2 u t H1 lo1 ht hvm hp hB hz hk hS => ?_)
  obtain ⟨rfl, rfl⟩ := hp
  exact kk H1 lo1 ⟨by rw [← ht]; exact hB, hS⟩
set_option maxHeartbeats 2000000 in
theorem pj_cVl {B : pj_B} {A : Nat → Prop} {K : pj_K} {cc : ByteArray} {nL : Nat} {own : String} {lvl : Nat} {H : Heap} {lo : List Loc} {ls : Array Slot} {st : List Value} {pc q : Nat} {y : MethodName} {c2 : ByteArray} {n2 lv2 na idx : Nat} {ret : Option FieldType} {z z2 : pj_S} {r : Int64} {ci : Nat} {l : List (Nat × Nat)} {T : u_T} {N : Nat} (As : List Value) (C : pj_C B A K cc nL own lvl) (P : pj_P B A K z H lo) (k : Nat) (hk : B.2.2.2.1[k]? = some (.inl (ci, l))) (hc : vwCl[ci]? = some (y.cls, T, N)) (hM : pj_Ml K.2.1 y c2 n2 ret lv2 (.ref (B.2.1 k) :: As) B z r z2) (g : pj_gV own idx y c2 n2 ret na) (hna : As.length = na) (hl : lv2 + 1 ≤ lvl) (hn : n2 ≤ 45) (hls : ls.size = nL) (hst : (st.map fun v => v.category).sum ≤ 8) (d : pj_d cc pc (.invokevirtual idx) 3 q) (kk : ∀ (H2 : Heap) (lo2 : List Loc), pj_P B A K z2 H2 lo2 → pj_W K H2 lo2 q ls (.long r :: st)) : pj_W K H lo pc ls (As.reverse ++ .ref (B.2.1 k) :: st) := by
  obtain ⟨d, rfl⟩ := d
  obtain ⟨g1, g2, g3, g4, g5, g6, g7, g8⟩ := g
  have hts := C.2.2.2.2.1
  refine va_calll (va_runV (C := y.cls) (As := As) (rest := st) ⟨C.1, C.2.1, C.2.2.1, C.2.2.2.1, hts⟩ (hM H.size) ⟨callB_of na hts (pj_good g5) rfl rfl rfl (hts _ g4) (hts _ g1) ⟨g6, g7, g8⟩ (pj_room C hl hn), hts _ g2, hts _ g3⟩ ⟨pj_Pre.blind, va_recv C.2.2.2.2.2.1.1 P.1 hc (pj_wg hk), fun U hU hW => pj_pre C P hU hW _⟩ rfl hna hls rfl (lv_room hst) d C.2.2.2.2.2.2.2.2.2.1) P.2 (fun x _ h => pj_area C P x h) (pj_area C P) (fun r2 u t H1 lo1 ht hvm hp hB hz hk hS => ?_)
  obtain ⟨rfl, rfl⟩ := hp
  exact kk H1 lo1 ⟨by rw [← ht]; exact hB, hS⟩
set_option maxHeartbeats 2000000 in
theorem pj_cSl {B : pj_B} {A : Nat → Prop} {K : pj_K} {cc : ByteArray} {nL : Nat} {own : String} {lvl : Nat} {H : Heap} {lo : List Loc} {ls : Array Slot} {st : List Value} {pc q : Nat} {y : MethodName} {c2 : ByteArray} {n2 lv2 na idx : Nat} {ret : Option FieldType} {z z2 : pj_S} {r : Int64} (As : List Value) (C : pj_C B A K cc nL own lvl) (P : pj_P B A K z H lo) (hM : pj_Ml K.2.1 y c2 n2 ret lv2 As B z r z2) (g : pj_gS own idx y c2 n2 ret na) (hna : As.length = na) (hl : lv2 + 1 ≤ lvl) (hn : n2 ≤ 45) (hls : ls.size = nL) (hst : (st.map fun v => v.category).sum ≤ 8) (d : pj_d cc pc (.invokestatic idx) 3 q) (kk : ∀ (H2 : Heap) (lo2 : List Loc), pj_P B A K z2 H2 lo2 → pj_W K H2 lo2 q ls (.long r :: st)) : pj_W K H lo pc ls (As.reverse ++ st) := by
  obtain ⟨d, rfl⟩ := d
  obtain ⟨g1, g2, g4, g5, g6, g7, g8⟩ := g
  have hts := C.2.2.2.2.1
  refine va_calll (va_runS (As := As) (rest := st) ⟨C.1, C.2.1, C.2.2.1, C.2.2.2.1, hts⟩ (hM H.size) ⟨callB_of na hts (pj_good g5) rfl rfl rfl (hts _ g4) (hts _ g1) ⟨g6, g7, g8⟩ (pj_room C hl hn), hts _ g2⟩ ⟨pj_Pre.blind, fun U hU hW => pj_pre C P hU hW _⟩ rfl hna hls rfl (lv_room hst) d C.2.2.2.2.2.2.2.2.2.1) P.2 (fun x _ h => pj_area C P x h) (pj_area C P) (fun r2 u t H1 lo1 ht hvm hp hB hz hk hS => ?_)
  obtain ⟨rfl, rfl⟩ := hp
  exact kk H1 lo1 ⟨by rw [← ht]; exact hB, hS⟩
set_option maxHeartbeats 2000000 in
theorem pj_cNl {B : pj_B} {A : Nat → Prop} {K : pj_K} {cc : ByteArray} {nL : Nat} {own : String} {lvl : Nat} {H : Heap} {lo : List Loc} {ls : Array Slot} {st : List Value} {pc q : Nat} {y : MethodName} {c2 : ByteArray} {n2 lv2 na idx : Nat} {ret : Option FieldType} {z z2 : pj_S} {r : Int64} (As : List Value) (C : pj_C B A K cc nL own lvl) (P : pj_P B A K z H lo) (hM : pj_Ml K.2.1 y c2 n2 ret lv2 As B z r z2) (g : pj_gN own idx y c2 n2 ret na) (hna : As.length = na) (hl : lv2 + 1 ≤ lvl) (hn : n2 ≤ 45) (hls : ls.size = nL) (hst : (st.map fun v => v.category).sum ≤ 8) (d : pj_d cc pc (.invokestatic idx) 3 q) (kk : ∀ (H2 : Heap) (lo2 : List Loc), pj_P B A K z2 H2 lo2 → pj_W K H2 lo2 q ls (.long r :: st)) : pj_W K H lo pc ls (As.reverse ++ st) := by
  obtain ⟨d, rfl⟩ := d
  obtain ⟨g1, g2, g4, g5, g6, g7, g8⟩ := g
  have hts := C.2.2.2.2.1
  refine va_calll (va_runSN (As := As) (rest := st) ⟨C.1, C.2.1, C.2.2.1, C.2.2.2.1, hts⟩ (hM H.size) ⟨va_cnB na hts (pj_good g5) rfl rfl rfl (C.2.2.2.2.2.1.2.1 _ g1) (hts _ g4) ⟨g6, g7, g8⟩ (pj_room C hl hn), hts _ g2, trivial⟩ ⟨pj_Pre.blind, fun U hU hW => pj_pre C P hU hW _⟩ rfl hna hls rfl (lv_room hst) d C.2.2.2.2.2.2.2.2.2.1) P.2 (fun x _ h => pj_area C P x h) (pj_area C P) (fun r2 u t H1 lo1 ht hvm hp hB hz hk hS => ?_)
  obtain ⟨rfl, rfl⟩ := hp
  exact kk H1 lo1 ⟨by rw [← ht]; exact hB, hS⟩
set_option maxHeartbeats 2000000 in
theorem pj_cVv {B : pj_B} {A : Nat → Prop} {K : pj_K} {cc : ByteArray} {nL : Nat} {own : String} {lvl : Nat} {H : Heap} {lo : List Loc} {ls : Array Slot} {st : List Value} {pc q : Nat} {y : MethodName} {c2 : ByteArray} {n2 lv2 na idx : Nat} {ret : Option FieldType} {z z2 : pj_S} {r : Unit} {ci : Nat} {l : List (Nat × Nat)} {T : u_T} {N : Nat} (As : List Value) (C : pj_C B A K cc nL own lvl) (P : pj_P B A K z H lo) (k : Nat) (hk : B.2.2.2.1[k]? = some (.inl (ci, l))) (hc : vwCl[ci]? = some (y.cls, T, N)) (hM : pj_Mv K.2.1 y c2 n2 ret lv2 (.ref (B.2.1 k) :: As) B z r z2) (g : pj_gV own idx y c2 n2 ret na) (hna : As.length = na) (hl : lv2 + 1 ≤ lvl) (hn : n2 ≤ 45) (hls : ls.size = nL) (hst : (st.map fun v => v.category).sum ≤ 8) (d : pj_d cc pc (.invokevirtual idx) 3 q) (kk : ∀ (H2 : Heap) (lo2 : List Loc), pj_P B A K z2 H2 lo2 → pj_W K H2 lo2 q ls st) : pj_W K H lo pc ls (As.reverse ++ .ref (B.2.1 k) :: st) := by
  obtain ⟨d, rfl⟩ := d
  obtain ⟨g1, g2, g3, g4, g5, g6, g7, g8⟩ := g
  have hts := C.2.2.2.2.1
  refine va_callv (va_runV (C := y.cls) (As := As) (rest := st) ⟨C.1, C.2.1, C.2.2.1, C.2.2.2.1, hts⟩ (hM H.size) ⟨callB_of na hts (pj_good g5) rfl rfl rfl (hts _ g4) (hts _ g1) ⟨g6, g7, g8⟩ (pj_room C hl hn), hts _ g2, hts _ g3⟩ ⟨pj_Pre.blind, va_recv C.2.2.2.2.2.1.1 P.1 hc (pj_wg hk), fun U hU hW => pj_pre C P hU hW _⟩ rfl hna hls rfl (lv_room hst) d C.2.2.2.2.2.2.2.2.2.1) P.2 (fun x _ h => pj_area C P x h) (pj_area C P) (fun u t H1 lo1 ht hvm hp hB hz hk hS => ?_)
  subst hp
  exact kk H1 lo1 ⟨by rw [← ht]; exact hB, hS⟩
set_option maxHeartbeats 2000000 in
theorem pj_cSv {B : pj_B} {A : Nat → Prop} {K : pj_K} {cc : ByteArray} {nL : Nat} {own : String} {lvl : Nat} {H : Heap} {lo : List Loc} {ls : Array Slot} {st : List Value} {pc q : Nat} {y : MethodName} {c2 : ByteArray} {n2 lv2 na idx : Nat} {ret : Option FieldType} {z z2 : pj_S} {r : Unit} (As : List Value) (C : pj_C B A K cc nL own lvl) (P : pj_P B A K z H lo) (hM : pj_Mv K.2.1 y c2 n2 ret lv2 As B z r z2) (g : pj_gS own idx y c2 n2 ret na) (hna : As.length = na) (hl : lv2 + 1 ≤ lvl) (hn : n2 ≤ 45) (hls : ls.size = nL) (hst : (st.map fun v => v.category).sum ≤ 8) (d : pj_d cc pc (.invokestatic idx) 3 q) (kk : ∀ (H2 : Heap) (lo2 : List Loc), pj_P B A K z2 H2 lo2 → pj_W K H2 lo2 q ls st) : pj_W K H lo pc ls (As.reverse ++ st) := by
  obtain ⟨d, rfl⟩ := d
  obtain ⟨g1, g2, g4, g5, g6, g7, g8⟩ := g
  have hts := C.2.2.2.2.1
  refine va_callv (va_runS (As := As) (rest := st) ⟨C.1, C.2.1, C.2.2.1, C.2.2.2.1, hts⟩ (hM H.size) ⟨callB_of na hts (pj_good g5) rfl rfl rfl (hts _ g4) (hts _ g1) ⟨g6, g7, g8⟩ (pj_room C hl hn), hts _ g2⟩ ⟨pj_Pre.blind, fun U hU hW => pj_pre C P hU hW _⟩ rfl hna hls rfl (lv_room hst) d C.2.2.2.2.2.2.2.2.2.1) P.2 (fun x _ h => pj_area C P x h) (pj_area C P) (fun u t H1 lo1 ht hvm hp hB hz hk hS => ?_)
  subst hp
  exact kk H1 lo1 ⟨by rw [← ht]; exact hB, hS⟩
set_option maxHeartbeats 2000000 in
theorem pj_cNv {B : pj_B} {A : Nat → Prop} {K : pj_K} {cc : ByteArray} {nL : Nat} {own : String} {lvl : Nat} {H : Heap} {lo : List Loc} {ls : Array Slot} {st : List Value} {pc q : Nat} {y : MethodName} {c2 : ByteArray} {n2 lv2 na idx : Nat} {ret : Option FieldType} {z z2 : pj_S} {r : Unit} (As : List Value) (C : pj_C B A K cc nL own lvl) (P : pj_P B A K z H lo) (hM : pj_Mv K.2.1 y c2 n2 ret lv2 As B z r z2) (g : pj_gN own idx y c2 n2 ret na) (hna : As.length = na) (hl : lv2 + 1 ≤ lvl) (hn : n2 ≤ 45) (hls : ls.size = nL) (hst : (st.map fun v => v.category).sum ≤ 8) (d : pj_d cc pc (.invokestatic idx) 3 q) (kk : ∀ (H2 : Heap) (lo2 : List Loc), pj_P B A K z2 H2 lo2 → pj_W K H2 lo2 q ls st) : pj_W K H lo pc ls (As.reverse ++ st) := by
  obtain ⟨d, rfl⟩ := d
  obtain ⟨g1, g2, g4, g5, g6, g7, g8⟩ := g
  have hts := C.2.2.2.2.1
  refine va_callv (va_runSN (As := As) (rest := st) ⟨C.1, C.2.1, C.2.2.1, C.2.2.2.1, hts⟩ (hM H.size) ⟨va_cnB na hts (pj_good g5) rfl rfl rfl (C.2.2.2.2.2.1.2.1 _ g1) (hts _ g4) ⟨g6, g7, g8⟩ (pj_room C hl hn), hts _ g2, trivial⟩ ⟨pj_Pre.blind, fun U hU hW => pj_pre C P hU hW _⟩ rfl hna hls rfl (lv_room hst) d C.2.2.2.2.2.2.2.2.2.1) P.2 (fun x _ h => pj_area C P x h) (pj_area C P) (fun u t H1 lo1 ht hvm hp hB hz hk hS => ?_)
  subst hp
  exact kk H1 lo1 ⟨by rw [← ht]; exact hB, hS⟩
theorem pj_mmin {B : pj_B} {A : Nat → Prop} {K : pj_K} {cc : ByteArray} {nL : Nat} {own : String} {lvl : Nat} {H : Heap} {lo : List Loc} {ls : Array Slot} {st : List Value} {pc q : Nat} {x y : Int32} {idx na : Nat} (C : pj_C B A K cc nL own lvl) (g : pj_gS own idx Lib.Math.min.name Lib.Math.min.code 2 (some .int) na) (hlv : 1 ≤ lvl) (hls : ls.size = nL) (hst : (st.map fun v => v.category).sum ≤ 8) (d : pj_d cc pc (.invokestatic idx) 3 q) (k : pj_W K H lo q ls (.int (pj_min x y) :: st)) : pj_W K H lo pc ls (.int y :: .int x :: st) := by
  obtain ⟨d, rfl⟩ := d
  obtain ⟨g1, g2, g4, g5, g6, g7, g8⟩ := g
  have hts := C.2.2.2.2.1
  obtain ⟨r1, r2⟩ := C.2.2.2.2.2.2.2.2.2.2
  exact va_mmin C.1 C.2.1 (by rw [hls]; exact C.2.2.1) C.2.2.2.1 (hts _ g1) (hts _ g2) (hts _ g4) (hts _ g5) (Nat.le_trans hlv r1) (by omega) C.2.2.2.2.2.2.2.2.2.1.1 C.2.2.2.2.2.2.2.2.2.1.2 d k
theorem pj_mmax {B : pj_B} {A : Nat → Prop} {K : pj_K} {cc : ByteArray} {nL : Nat} {own : String} {lvl : Nat} {H : Heap} {lo : List Loc} {ls : Array Slot} {st : List Value} {pc q : Nat} {x y : Int32} {idx na : Nat} (C : pj_C B A K cc nL own lvl) (g : pj_gS own idx Lib.Math.max.name Lib.Math.max.code 2 (some .int) na) (hlv : 1 ≤ lvl) (hls : ls.size = nL) (hst : (st.map fun v => v.category).sum ≤ 8) (d : pj_d cc pc (.invokestatic idx) 3 q) (k : pj_W K H lo q ls (.int (pj_max x y) :: st)) : pj_W K H lo pc ls (.int y :: .int x :: st) := by
  obtain ⟨d, rfl⟩ := d
  obtain ⟨g1, g2, g4, g5, g6, g7, g8⟩ := g
  have hts := C.2.2.2.2.1
  obtain ⟨r1, r2⟩ := C.2.2.2.2.2.2.2.2.2.2
  exact va_mmax C.1 C.2.1 (by rw [hls]; exact C.2.2.1) C.2.2.2.1 (hts _ g1) (hts _ g2) (hts _ g4) (hts _ g5) (Nat.le_trans hlv r1) (by omega) C.2.2.2.2.2.2.2.2.2.1.1 C.2.2.2.2.2.2.2.2.2.1.2 d k
