/-! constructors: worlds that grow -/
def pj_rmc (n mc ms : Nat) : Room := { frames := n, cells := mc, slots := ms, locals := 64 * n }
def pj_cPre (B : pj_B) (h0 ci : Nat) (fs : List Value) (sz : Nat) : State → Prop := fun U => U.heap.size = sz ∧ va_P B.1 vwCl [(h0, .inr (ci, fs))] U.heap ∧ pj_T B (va_A [(h0, .inr (ci, fs))] sz) U
theorem pj_cPre.blind {av : List Value} {B : pj_B} {h0 ci sz : Nat} {fs : List Value} : FrameBlind (va_Pc av (pj_cPre B h0 ci fs sz)) := fun a U g mk q => ⟨q.1, q.2.1, q.2.2.1, ⟨va_K.moved (u := U) (U := U.calling g mk a) (Vm.Alike.refl U.vm) q.2.2.2.1, pj_stat.same (u := U) (U := U.calling g mk a) q.2.2.2.2 rfl⟩⟩
theorem pj_D1 {A : Nat → Prop} {q : Nat × va_E} (h : A q.1) : va_D A [q] := by
  refine ⟨fun i j x y hi hj _ => ?_, fun k x hk => ?_⟩
  · have h1 := (List.getElem?_eq_some_iff.mp hi).1
    have h2 := (List.getElem?_eq_some_iff.mp hj).1
    simp at h1 h2
    omega
  · have h1 := (List.getElem?_eq_some_iff.mp hk).1
    simp at h1
    subst h1
    cases hk
    exact h
theorem pj_apart_of {A : Nat → Prop} {B : pj_B} {z : pj_S} (h : va_D A (pj_w B z)) : pj_apart B := by
  intro i j hi hj e
  obtain ⟨y1, h1⟩ : ∃ y, B.2.2.2.1[i]? = some y := ⟨_, List.getElem?_eq_getElem hi⟩
  obtain ⟨y2, h2⟩ : ∃ y, B.2.2.2.1[j]? = some y := ⟨_, List.getElem?_eq_getElem hj⟩
  exact h.1 i j _ _ (pj_wg h1) (pj_wg h2) e
section CTOR
variable {p : Program} {l : Launch} {e : Env} {R : Room} {s : State} {m : MethodId} {args : Array Value} {below : List Frame} {meth : Method} {c : Code} {H : Heap} {locs : List Loc} {cells slots : Nat} {Q : State → Prop}
variable {cc : ByteArray} {pc q : Nat} {ls : Array Slot} {rest : List Value} {A : Nat → Prop} {ws : va_W} {H0 : Heap} {B : pj_B}
theorem pj_newI (hx : p.tables.exec = Jvm.exec) (hb : c.code = cc) (harr : (Cond.arrayClass .int).before args s = true) (hK : va_K B.1 vwCl (pj_ty B) s) (hP : va_P B.1 vwCl ws H) (hD : va_D A ws) (hS : va_S A H0 H locs) (hA : ∀ q, H0.size ≤ q → A q) {n : Int32} (N : Nat) (hn : ¬ n < 0) (hN : n.toNatClampNeg = N) (hby : N * componentBytes .int ≤ 536870912) (hcells : cells + 1 ≤ R.cells) (hslots : slots + N ≤ R.slots) (d : pj_d cc pc (.newarray .int) 2 q)
    (kk : ∀ (a : Nat) (H1 : Heap), va_P B.1 vwCl (ws ++ [(a, .inl (B.2.2.1.1, N, .inl (fun _ => 0)))]) H1 → va_D A (ws ++ [(a, .inl (B.2.2.1.1, N, .inl (fun _ => 0)))]) → va_S A H0 H1 locs → W p l e R s m args below meth c H1 locs (cells + 1) (slots + N) Q (F0 m q ls (.ref a :: rest))) : W p l e R s m args below meth c H locs cells slots Q (F0 m pc ls (.int n :: rest)) := by
  obtain ⟨d, rfl⟩ := d
  refine va_newa (atype := .int) (ty := .int) (a0 := (N, .inl (fun _ => 0))) hx hb harr rfl hK hP hD hS hA (fun _ => rfl) hn hN hby hcells hslots d (fun a cA H1 hK2 hP hD hS => ?_)
  have e1 : s.vm.findClass ("[" ++ (FieldType.int).toString) = some cA := (hK2.2 3 _ rfl).2
  have e2 : s.vm.findClass ("[" ++ (FieldType.int).toString) = some B.2.2.1.1 := (hK.2 0 _ rfl).2
  have e3 : cA = B.2.2.1.1 := Option.some.inj (e1.symm.trans e2)
  subst e3
  exact kk a H1 hP hD hS
theorem pj_newJ (hx : p.tables.exec = Jvm.exec) (hb : c.code = cc) (harr : (Cond.arrayClass .long).before args s = true) (hK : va_K B.1 vwCl (pj_ty B) s) (hP : va_P B.1 vwCl ws H) (hD : va_D A ws) (hS : va_S A H0 H locs) (hA : ∀ q, H0.size ≤ q → A q) {n : Int32} (N : Nat) (hn : ¬ n < 0) (hN : n.toNatClampNeg = N) (hby : N * componentBytes .long ≤ 536870912) (hcells : cells + 1 ≤ R.cells) (hslots : slots + N ≤ R.slots) (d : pj_d cc pc (.newarray .long) 2 q)
    (kk : ∀ (a : Nat) (H1 : Heap), va_P B.1 vwCl (ws ++ [(a, .inl (B.2.2.1.2.1, N, .inr (.inl (fun _ => 0))))]) H1 → va_D A (ws ++ [(a, .inl (B.2.2.1.2.1, N, .inr (.inl (fun _ => 0))))]) → va_S A H0 H1 locs → W p l e R s m args below meth c H1 locs (cells + 1) (slots + N) Q (F0 m q ls (.ref a :: rest))) : W p l e R s m args below meth c H locs cells slots Q (F0 m pc ls (.int n :: rest)) := by
  obtain ⟨d, rfl⟩ := d
  refine va_newa (atype := .long) (ty := .long) (a0 := (N, .inr (.inl (fun _ => 0)))) hx hb harr rfl hK hP hD hS hA (fun _ => rfl) hn hN hby hcells hslots d (fun a cA H1 hK2 hP hD hS => ?_)
  have e1 : s.vm.findClass ("[" ++ (FieldType.long).toString) = some cA := (hK2.2 3 _ rfl).2
  have e2 : s.vm.findClass ("[" ++ (FieldType.long).toString) = some B.2.2.1.2.1 := (hK.2 1 _ rfl).2
  have e3 : cA = B.2.2.1.2.1 := Option.some.inj (e1.symm.trans e2)
  subst e3
  exact kk a H1 hP hD hS
theorem pj_newB (hx : p.tables.exec = Jvm.exec) (hb : c.code = cc) (harr : (Cond.arrayClass .byte).before args s = true) (hK : va_K B.1 vwCl (pj_ty B) s) (hP : va_P B.1 vwCl ws H) (hD : va_D A ws) (hS : va_S A H0 H locs) (hA : ∀ q, H0.size ≤ q → A q) {n : Int32} (N : Nat) (hn : ¬ n < 0) (hN : n.toNatClampNeg = N) (hby : N * componentBytes .byte ≤ 536870912) (hcells : cells + 1 ≤ R.cells) (hslots : slots + N ≤ R.slots) (d : pj_d cc pc (.newarray .byte) 2 q)
    (kk : ∀ (a : Nat) (H1 : Heap), va_P B.1 vwCl (ws ++ [(a, .inl (B.2.2.1.2.2, N, .inl (fun _ => 0)))]) H1 → va_D A (ws ++ [(a, .inl (B.2.2.1.2.2, N, .inl (fun _ => 0)))]) → va_S A H0 H1 locs → W p l e R s m args below meth c H1 locs (cells + 1) (slots + N) Q (F0 m q ls (.ref a :: rest))) : W p l e R s m args below meth c H locs cells slots Q (F0 m pc ls (.int n :: rest)) := by
  obtain ⟨d, rfl⟩ := d
  refine va_newa (atype := .byte) (ty := .byte) (a0 := (N, .inl (fun _ => 0))) hx hb harr rfl hK hP hD hS hA (fun _ => rfl) hn hN hby hcells hslots d (fun a cA H1 hK2 hP hD hS => ?_)
  have e1 : s.vm.findClass ("[" ++ (FieldType.byte).toString) = some cA := (hK2.2 3 _ rfl).2
  have e2 : s.vm.findClass ("[" ++ (FieldType.byte).toString) = some B.2.2.1.2.2 := (hK.2 2 _ rfl).2
  have e3 : cA = B.2.2.1.2.2 := Option.some.inj (e1.symm.trans e2)
  subst e3
  exact kk a H1 hP hD hS
end CTOR
theorem wo_ini : Cond.instanceMethod objectInit ∈ pj_tbl := (pj_m1 26 rfl rfl)
theorem wo_code : Cond.code objectInit ⟨#[0xb1]⟩ 1 none ∈ pj_tbl := (pj_m1 27 rfl rfl)
theorem wa_int : Cond.arrayClass .int ∈ pj_tbl := (pj_m1 112 rfl rfl)
theorem wa_long : Cond.arrayClass .long ∈ pj_tbl := (pj_m1 216 rfl rfl)
theorem wa_byte : Cond.arrayClass .byte ∈ pj_tbl := (pj_m1 231 rfl rfl)
theorem pd_v0 : (parseMethodDescriptor "()V").map (fun d => d.parameters.length) = some 0 := by decide +kernel
theorem ic_Book_0 : pj_d cX0_init 0 (.aload_n 0) 1 1 := ⟨by decide +kernel, rfl⟩
theorem ic_Book_1 : pj_d cX0_init 1 (.invokespecial 3) 3 4 := ⟨by decide +kernel, rfl⟩
theorem ic_Book_4 : pj_d cX0_init 4 (.aload_n 0) 1 5 := ⟨by decide +kernel, rfl⟩
theorem ic_Book_5 : pj_d cX0_init 5 (.bipush 100) 2 7 := ⟨by decide +kernel, rfl⟩
theorem ic_Book_7 : pj_d cX0_init 7 (.newarray .int) 2 9 := ⟨by decide +kernel, rfl⟩
theorem ic_Book_9 : pj_d cX0_init 9 (.putfield 9) 3 12 := ⟨by decide +kernel, rfl⟩
theorem ic_Book_12 : pj_d cX0_init 12 (.aload_n 0) 1 13 := ⟨by decide +kernel, rfl⟩
theorem ic_Book_13 : pj_d cX0_init 13 (.bipush 100) 2 15 := ⟨by decide +kernel, rfl⟩
theorem ic_Book_15 : pj_d cX0_init 15 (.newarray .int) 2 17 := ⟨by decide +kernel, rfl⟩
theorem ic_Book_17 : pj_d cX0_init 17 (.putfield 15) 3 20 := ⟨by decide +kernel, rfl⟩
theorem ic_Book_20 : pj_d cX0_init 20 (.aload_n 0) 1 21 := ⟨by decide +kernel, rfl⟩
theorem ic_Book_21 : pj_d cX0_init 21 (.bipush 100) 2 23 := ⟨by decide +kernel, rfl⟩
theorem ic_Book_23 : pj_d cX0_init 23 (.newarray .int) 2 25 := ⟨by decide +kernel, rfl⟩
theorem ic_Book_25 : pj_d cX0_init 25 (.putfield 18) 3 28 := ⟨by decide +kernel, rfl⟩
theorem ic_Book_28 : pj_d cX0_init 28 (.return_) 1 29 := ⟨by decide +kernel, rfl⟩
theorem wcc_X0 : Cond.code yX0_init cX0_init 1 none ∈ pj_tbl := (pj_m1 117 rfl rfl)
def at_Book (B : pj_B) (h0 : Nat) (u : Nat → Nat) : va_W := [(h0, .inr (0, [.ref (u 0), .ref (u 1), .ref (u 2), .int 0])), ((u 0), .inl (B.2.2.1.1, 100, .inl (fun _ => 0))), ((u 1), .inl (B.2.2.1.1, 100, .inl (fun _ => 0))), ((u 2), .inl (B.2.2.1.1, 100, .inl (fun _ => 0)))]
set_option maxHeartbeats 4000000 in
set_option maxRecDepth 100000 in
theorem cn_Book {l : Launch} {B : pj_B} {h0 sz : Nat} : Met l yX0_init (pj_ws yX0_init cX0_init 1 none) (pj_rmc 1 3 300) (va_Pc [.ref h0] (pj_cPre B h0 0 [.null, .null, .null, .int 0] sz)) (va_Qv (fun _ : Nat → Nat => True) (fun u t => va_P B.1 vwCl (at_Book B h0 u) t.heap ∧ va_D (va_A [(h0, .inr (0, [.null, .null, .null, .int 0]))] sz) (at_Book B h0 u)) (va_A [(h0, .inr (0, [.null, .null, .null, .int 0]))] sz)) 3 300 (va_A [(h0, .inr (0, [.null, .null, .null, .int 0]))] sz) := by
  refine Met.ofW (cc := cX0_init) (maxL := 1) (ret := none) (by decide +kernel) rfl ?_
  intro p e s m args below meth c s₁ B0 hml hv
  obtain ⟨rfl, hsz, hP, hT⟩ := hv
  have hx := B0.exec
  have hb := B0.bytes
  have hr := B0.returns
  have hts0 := atoms_spec (ws := pj_ws yX0_init cX0_init 1 none) B0.pre
  have hts : ∀ w ∈ pj_tbl, w.before _ s = true := fun w hw => hts0 w (List.mem_cons_of_mem _ hw)
  have hown : s.vm.findClass RX0 = some m.cls := findClass_of_methodNamed B0.named
  have hlocks := B0.notSynchronized
  have hin : meth.name = "<init>" := (name_of_methodNamed B0.named B0.method).1
  subst hsz
  have hD : va_D (va_A [(h0, .inr (0, [.null, .null, .null, .int 0]))] s.heap.size) [(h0, .inr (0, [.null, .null, .null, .int 0]))] := pj_D1 (Or.inl ⟨0, _, rfl⟩)
  generalize hAe : va_A [(h0, .inr (0, [.null, .null, .null, .int 0]))] s.heap.size = A at hT hD ⊢
  have hA : ∀ q : Nat, s.heap.size ≤ q → A q := fun q h => by rw [← hAe]; exact Or.inr h
  have hS : va_S A s.heap s.heap [] := va_S.rf
  have hK := hT.1
  have hl := lv_entry ([.ref h0]) (n := 1) (Nat.le_of_ble_eq_true rfl)
  rw [lg_entry_eq]
  generalize (lg_sl ([.ref h0]) ++ List.replicate (1 - (lg_sl ([.ref h0])).length) Slot.unset).toArray = ls at hl ⊢
  have hl : lv_has ls 1 [(0, .ref h0)] := hl
  refine W.eq (g2 := F0 m 0 ls []) rfl ?_
  refine lv_aload_n hx hb ic_Book_0.1 rfl (lv_at hl 0 rfl) ?_
  refine W.objInit hx hb hown (hts _ (show Cond.methodLink RX0 3 objectInit ∈ pj_tbl from (pj_m1 118 rfl rfl))) (hts _ wo_ini) (hts _ wo_code) rfl (by rw [hml]; exact hl.1) rfl ic_Book_1.1 (Nat.le_of_ble_eq_true rfl) (Nat.le_of_ble_eq_true rfl) ?_
  refine W.eq (g2 := F0 m 4 ls []) rfl ?_
  refine W.eq (g2 := F0 m 4 ls []) rfl ?_
  refine lv_aload_n hx hb ic_Book_4.1 rfl (lv_at hl 0 rfl) ?_
  refine lv_bipush (v := 100) hx hb ic_Book_5.1 (by decide) ?_
  refine pj_newI hx hb (hts _ wa_int) hK hP hD hS hA 100 (by decide) (by decide) (Nat.le_of_ble_eq_true rfl) (Nat.le_of_ble_eq_true rfl) (Nat.le_of_ble_eq_true rfl) ic_Book_7 (fun q1 H hP hD hS => ?_)
  have hP : va_P B.1 vwCl [(h0, .inr (0, [.null, .null, .null, .int 0])), (q1, .inl (B.2.2.1.1, 100, .inl (fun _ => 0)))] H := hP
  have hD : va_D A [(h0, .inr (0, [.null, .null, .null, .int 0])), (q1, .inl (B.2.2.1.1, 100, .inl (fun _ => 0)))] := hD
  refine W.widen (k := 1) (n := 100) (Nat.le_of_ble_eq_true rfl) (Nat.le_of_ble_eq_true rfl) ?_
  refine va_putF (D := B.1) (ci := 0) (v := .ref q1) (ty := .array .int) (C := RX0) (T := TX0) (N := 4) hx hb hts tinX0 tyX0 tyX0_ok nmX0 hown hK hP hD hS 0 rfl rfl 0 (by decide) (hts _ (show Cond.fieldLink RX0 9 RX0 (TX0 0).2.1 (TX0 0).2.2.1 ∈ pj_tbl from (pj_m1 119 rfl rfl))) (fun _ h9 => h9) rfl hin rfl (by decide +kernel) rfl rfl (Nat.le_of_ble_eq_true rfl) ic_Book_9.1 (fun H locs hP hD hS => ?_)
  have hP : va_P B.1 vwCl [(h0, .inr (0, [.ref q1, .null, .null, .int 0])), (q1, .inl (B.2.2.1.1, 100, .inl (fun _ => 0)))] H := hP
  have hD : va_D A [(h0, .inr (0, [.ref q1, .null, .null, .int 0])), (q1, .inl (B.2.2.1.1, 100, .inl (fun _ => 0)))] := hD
  refine W.eq (g2 := F0 m 12 ls []) rfl ?_
  refine W.eq (g2 := F0 m 12 ls []) rfl ?_
  refine lv_aload_n hx hb ic_Book_12.1 rfl (lv_at hl 0 rfl) ?_
  refine lv_bipush (v := 100) hx hb ic_Book_13.1 (by decide) ?_
  refine pj_newI hx hb (hts _ wa_int) hK hP hD hS hA 100 (by decide) (by decide) (Nat.le_of_ble_eq_true rfl) (Nat.le_of_ble_eq_true rfl) (Nat.le_of_ble_eq_true rfl) ic_Book_15 (fun q2 H hP hD hS => ?_)
  have hP : va_P B.1 vwCl [(h0, .inr (0, [.ref q1, .null, .null, .int 0])), (q1, .inl (B.2.2.1.1, 100, .inl (fun _ => 0))), (q2, .inl (B.2.2.1.1, 100, .inl (fun _ => 0)))] H := hP
  have hD : va_D A [(h0, .inr (0, [.ref q1, .null, .null, .int 0])), (q1, .inl (B.2.2.1.1, 100, .inl (fun _ => 0))), (q2, .inl (B.2.2.1.1, 100, .inl (fun _ => 0)))] := hD
  refine W.widen (k := 2) (n := 200) (Nat.le_of_ble_eq_true rfl) (Nat.le_of_ble_eq_true rfl) ?_
  refine va_putF (D := B.1) (ci := 0) (v := .ref q2) (ty := .array .int) (C := RX0) (T := TX0) (N := 4) hx hb hts tinX0 tyX0 tyX0_ok nmX0 hown hK hP hD hS 0 rfl rfl 1 (by decide) (hts _ (show Cond.fieldLink RX0 15 RX0 (TX0 1).2.1 (TX0 1).2.2.1 ∈ pj_tbl from (pj_m1 120 rfl rfl))) (fun _ h9 => h9) rfl hin rfl (by decide +kernel) rfl rfl (Nat.le_of_ble_eq_true rfl) ic_Book_17.1 (fun H locs hP hD hS => ?_)
  have hP : va_P B.1 vwCl [(h0, .inr (0, [.ref q1, .ref q2, .null, .int 0])), (q1, .inl (B.2.2.1.1, 100, .inl (fun _ => 0))), (q2, .inl (B.2.2.1.1, 100, .inl (fun _ => 0)))] H := hP
  have hD : va_D A [(h0, .inr (0, [.ref q1, .ref q2, .null, .int 0])), (q1, .inl (B.2.2.1.1, 100, .inl (fun _ => 0))), (q2, .inl (B.2.2.1.1, 100, .inl (fun _ => 0)))] := hD
  refine W.eq (g2 := F0 m 20 ls []) rfl ?_
  refine W.eq (g2 := F0 m 20 ls []) rfl ?_
  refine lv_aload_n hx hb ic_Book_20.1 rfl (lv_at hl 0 rfl) ?_
  refine lv_bipush (v := 100) hx hb ic_Book_21.1 (by decide) ?_
  refine pj_newI hx hb (hts _ wa_int) hK hP hD hS hA 100 (by decide) (by decide) (Nat.le_of_ble_eq_true rfl) (Nat.le_of_ble_eq_true rfl) (Nat.le_of_ble_eq_true rfl) ic_Book_23 (fun q3 H hP hD hS => ?_)
  have hP : va_P B.1 vwCl [(h0, .inr (0, [.ref q1, .ref q2, .null, .int 0])), (q1, .inl (B.2.2.1.1, 100, .inl (fun _ => 0))), (q2, .inl (B.2.2.1.1, 100, .inl (fun _ => 0))), (q3, .inl (B.2.2.1.1, 100, .inl (fun _ => 0)))] H := hP
  have hD : va_D A [(h0, .inr (0, [.ref q1, .ref q2, .null, .int 0])), (q1, .inl (B.2.2.1.1, 100, .inl (fun _ => 0))), (q2, .inl (B.2.2.1.1, 100, .inl (fun _ => 0))), (q3, .inl (B.2.2.1.1, 100, .inl (fun _ => 0)))] := hD
  refine W.widen (k := 3) (n := 300) (Nat.le_of_ble_eq_true rfl) (Nat.le_of_ble_eq_true rfl) ?_
  refine va_putF (D := B.1) (ci := 0) (v := .ref q3) (ty := .array .int) (C := RX0) (T := TX0) (N := 4) hx hb hts tinX0 tyX0 tyX0_ok nmX0 hown hK hP hD hS 0 rfl rfl 2 (by decide) (hts _ (show Cond.fieldLink RX0 18 RX0 (TX0 2).2.1 (TX0 2).2.2.1 ∈ pj_tbl from (pj_m1 121 rfl rfl))) (fun _ h9 => h9) rfl hin rfl (by decide +kernel) rfl rfl (Nat.le_of_ble_eq_true rfl) ic_Book_25.1 (fun H locs hP hD hS => ?_)
  have hP : va_P B.1 vwCl [(h0, .inr (0, [.ref q1, .ref q2, .ref q3, .int 0])), (q1, .inl (B.2.2.1.1, 100, .inl (fun _ => 0))), (q2, .inl (B.2.2.1.1, 100, .inl (fun _ => 0))), (q3, .inl (B.2.2.1.1, 100, .inl (fun _ => 0)))] H := hP
  have hD : va_D A [(h0, .inr (0, [.ref q1, .ref q2, .ref q3, .int 0])), (q1, .inl (B.2.2.1.1, 100, .inl (fun _ => 0))), (q2, .inl (B.2.2.1.1, 100, .inl (fun _ => 0))), (q3, .inl (B.2.2.1.1, 100, .inl (fun _ => 0)))] := hD
  refine W.eq (g2 := F0 m 28 ls []) rfl ?_
  exact W.vret hx hb hr (fun t ht hW => ⟨⟨fun k => [q1, q2, q3].getD k 0, rfl, trivial, by rw [ht]; exact hP, hD⟩, hS.F ht⟩) hS.2.2 ic_Book_28.1
theorem ic_Fabric_0 : pj_d cX1_init 0 (.aload_n 0) 1 1 := ⟨by decide +kernel, rfl⟩
theorem ic_Fabric_1 : pj_d cX1_init 1 (.invokespecial 3) 3 4 := ⟨by decide +kernel, rfl⟩
theorem ic_Fabric_4 : pj_d cX1_init 4 (.return_) 1 5 := ⟨by decide +kernel, rfl⟩
theorem wcc_X1 : Cond.code yX1_init cX1_init 1 none ∈ pj_tbl := (pj_m1 38 rfl rfl)
def at_Fabric (B : pj_B) (h0 : Nat) (u : Nat → Nat) : va_W := [(h0, .inr (1, [.int 0, .int 0, .int 0, .long 0, .long 0, .long 0, .long 0, .long 0, .long 0, .long 0]))]
set_option maxHeartbeats 4000000 in
set_option maxRecDepth 100000 in
theorem cn_Fabric {l : Launch} {B : pj_B} {h0 sz : Nat} : Met l yX1_init (pj_ws yX1_init cX1_init 1 none) (pj_rmc 1 0 0) (va_Pc [.ref h0] (pj_cPre B h0 1 [.int 0, .int 0, .int 0, .long 0, .long 0, .long 0, .long 0, .long 0, .long 0, .long 0] sz)) (va_Qv (fun _ : Nat → Nat => True) (fun u t => va_P B.1 vwCl (at_Fabric B h0 u) t.heap ∧ va_D (va_A [(h0, .inr (1, [.int 0, .int 0, .int 0, .long 0, .long 0, .long 0, .long 0, .long 0, .long 0, .long 0]))] sz) (at_Fabric B h0 u)) (va_A [(h0, .inr (1, [.int 0, .int 0, .int 0, .long 0, .long 0, .long 0, .long 0, .long 0, .long 0, .long 0]))] sz)) 0 0 (va_A [(h0, .inr (1, [.int 0, .int 0, .int 0, .long 0, .long 0, .long 0, .long 0, .long 0, .long 0, .long 0]))] sz) := by
  refine Met.ofW (cc := cX1_init) (maxL := 1) (ret := none) (by decide +kernel) rfl ?_
  intro p e s m args below meth c s₁ B0 hml hv
  obtain ⟨rfl, hsz, hP, hT⟩ := hv
  have hx := B0.exec
  have hb := B0.bytes
  have hr := B0.returns
  have hts0 := atoms_spec (ws := pj_ws yX1_init cX1_init 1 none) B0.pre
  have hts : ∀ w ∈ pj_tbl, w.before _ s = true := fun w hw => hts0 w (List.mem_cons_of_mem _ hw)
  have hown : s.vm.findClass RX1 = some m.cls := findClass_of_methodNamed B0.named
  have hlocks := B0.notSynchronized
  have hin : meth.name = "<init>" := (name_of_methodNamed B0.named B0.method).1
  subst hsz
  have hD : va_D (va_A [(h0, .inr (1, [.int 0, .int 0, .int 0, .long 0, .long 0, .long 0, .long 0, .long 0, .long 0, .long 0]))] s.heap.size) [(h0, .inr (1, [.int 0, .int 0, .int 0, .long 0, .long 0, .long 0, .long 0, .long 0, .long 0, .long 0]))] := pj_D1 (Or.inl ⟨0, _, rfl⟩)
  generalize hAe : va_A [(h0, .inr (1, [.int 0, .int 0, .int 0, .long 0, .long 0, .long 0, .long 0, .long 0, .long 0, .long 0]))] s.heap.size = A at hT hD ⊢
  have hA : ∀ q : Nat, s.heap.size ≤ q → A q := fun q h => by rw [← hAe]; exact Or.inr h
  have hS : va_S A s.heap s.heap [] := va_S.rf
  have hK := hT.1
  have hl := lv_entry ([.ref h0]) (n := 1) (Nat.le_of_ble_eq_true rfl)
  rw [lg_entry_eq]
  generalize (lg_sl ([.ref h0]) ++ List.replicate (1 - (lg_sl ([.ref h0])).length) Slot.unset).toArray = ls at hl ⊢
  have hl : lv_has ls 1 [(0, .ref h0)] := hl
  refine W.eq (g2 := F0 m 0 ls []) rfl ?_
  refine lv_aload_n hx hb ic_Fabric_0.1 rfl (lv_at hl 0 rfl) ?_
  refine W.objInit hx hb hown (hts _ (show Cond.methodLink RX1 3 objectInit ∈ pj_tbl from (pj_m1 39 rfl rfl))) (hts _ wo_ini) (hts _ wo_code) rfl (by rw [hml]; exact hl.1) rfl ic_Fabric_1.1 (Nat.le_of_ble_eq_true rfl) (Nat.le_of_ble_eq_true rfl) ?_
  refine W.eq (g2 := F0 m 4 ls []) rfl ?_
  exact W.vret hx hb hr (fun t ht hW => ⟨⟨fun _ => 0, rfl, trivial, by rw [ht]; exact hP, hD⟩, hS.F ht⟩) hS.2.2 ic_Fabric_4.1
theorem ic_Law_0 : pj_d cX2_init 0 (.aload_n 0) 1 1 := ⟨by decide +kernel, rfl⟩
theorem ic_Law_1 : pj_d cX2_init 1 (.invokespecial 3) 3 4 := ⟨by decide +kernel, rfl⟩
theorem ic_Law_4 : pj_d cX2_init 4 (.aload_n 0) 1 5 := ⟨by decide +kernel, rfl⟩
theorem ic_Law_5 : pj_d cX2_init 5 (.sipush 400) 3 8 := ⟨by decide +kernel, rfl⟩
theorem ic_Law_8 : pj_d cX2_init 8 (.newarray .int) 2 10 := ⟨by decide +kernel, rfl⟩
theorem ic_Law_10 : pj_d cX2_init 10 (.putfield 9) 3 13 := ⟨by decide +kernel, rfl⟩
theorem ic_Law_13 : pj_d cX2_init 13 (.aload_n 0) 1 14 := ⟨by decide +kernel, rfl⟩
theorem ic_Law_14 : pj_d cX2_init 14 (.bipush 64) 2 16 := ⟨by decide +kernel, rfl⟩
theorem ic_Law_16 : pj_d cX2_init 16 (.newarray .int) 2 18 := ⟨by decide +kernel, rfl⟩
theorem ic_Law_18 : pj_d cX2_init 18 (.putfield 15) 3 21 := ⟨by decide +kernel, rfl⟩
theorem ic_Law_21 : pj_d cX2_init 21 (.return_) 1 22 := ⟨by decide +kernel, rfl⟩
theorem wcc_X2 : Cond.code yX2_init cX2_init 1 none ∈ pj_tbl := (pj_m1 90 rfl rfl)
def at_Law (B : pj_B) (h0 : Nat) (u : Nat → Nat) : va_W := [(h0, .inr (2, [.ref (u 0), .ref (u 1), .int 0, .int 0, .int 0])), ((u 0), .inl (B.2.2.1.1, 400, .inl (fun _ => 0))), ((u 1), .inl (B.2.2.1.1, 64, .inl (fun _ => 0)))]
set_option maxHeartbeats 4000000 in
set_option maxRecDepth 100000 in
theorem cn_Law {l : Launch} {B : pj_B} {h0 sz : Nat} : Met l yX2_init (pj_ws yX2_init cX2_init 1 none) (pj_rmc 1 2 464) (va_Pc [.ref h0] (pj_cPre B h0 2 [.null, .null, .int 0, .int 0, .int 0] sz)) (va_Qv (fun _ : Nat → Nat => True) (fun u t => va_P B.1 vwCl (at_Law B h0 u) t.heap ∧ va_D (va_A [(h0, .inr (2, [.null, .null, .int 0, .int 0, .int 0]))] sz) (at_Law B h0 u)) (va_A [(h0, .inr (2, [.null, .null, .int 0, .int 0, .int 0]))] sz)) 2 464 (va_A [(h0, .inr (2, [.null, .null, .int 0, .int 0, .int 0]))] sz) := by
  refine Met.ofW (cc := cX2_init) (maxL := 1) (ret := none) (by decide +kernel) rfl ?_
  intro p e s m args below meth c s₁ B0 hml hv
  obtain ⟨rfl, hsz, hP, hT⟩ := hv
  have hx := B0.exec
  have hb := B0.bytes
  have hr := B0.returns
  have hts0 := atoms_spec (ws := pj_ws yX2_init cX2_init 1 none) B0.pre
  have hts : ∀ w ∈ pj_tbl, w.before _ s = true := fun w hw => hts0 w (List.mem_cons_of_mem _ hw)
  have hown : s.vm.findClass RX2 = some m.cls := findClass_of_methodNamed B0.named
  have hlocks := B0.notSynchronized
  have hin : meth.name = "<init>" := (name_of_methodNamed B0.named B0.method).1
  subst hsz
  have hD : va_D (va_A [(h0, .inr (2, [.null, .null, .int 0, .int 0, .int 0]))] s.heap.size) [(h0, .inr (2, [.null, .null, .int 0, .int 0, .int 0]))] := pj_D1 (Or.inl ⟨0, _, rfl⟩)
  generalize hAe : va_A [(h0, .inr (2, [.null, .null, .int 0, .int 0, .int 0]))] s.heap.size = A at hT hD ⊢
  have hA : ∀ q : Nat, s.heap.size ≤ q → A q := fun q h => by rw [← hAe]; exact Or.inr h
  have hS : va_S A s.heap s.heap [] := va_S.rf
  have hK := hT.1
  have hl := lv_entry ([.ref h0]) (n := 1) (Nat.le_of_ble_eq_true rfl)
  rw [lg_entry_eq]
  generalize (lg_sl ([.ref h0]) ++ List.replicate (1 - (lg_sl ([.ref h0])).length) Slot.unset).toArray = ls at hl ⊢
  have hl : lv_has ls 1 [(0, .ref h0)] := hl
  refine W.eq (g2 := F0 m 0 ls []) rfl ?_
  refine lv_aload_n hx hb ic_Law_0.1 rfl (lv_at hl 0 rfl) ?_
  refine W.objInit hx hb hown (hts _ (show Cond.methodLink RX2 3 objectInit ∈ pj_tbl from (pj_m1 91 rfl rfl))) (hts _ wo_ini) (hts _ wo_code) rfl (by rw [hml]; exact hl.1) rfl ic_Law_1.1 (Nat.le_of_ble_eq_true rfl) (Nat.le_of_ble_eq_true rfl) ?_
  refine W.eq (g2 := F0 m 4 ls []) rfl ?_
  refine W.eq (g2 := F0 m 4 ls []) rfl ?_
  refine lv_aload_n hx hb ic_Law_4.1 rfl (lv_at hl 0 rfl) ?_
  refine lv_sipush (v := 400) hx hb ic_Law_5.1 (by decide) ?_
  refine pj_newI hx hb (hts _ wa_int) hK hP hD hS hA 400 (by decide) (by decide) (Nat.le_of_ble_eq_true rfl) (Nat.le_of_ble_eq_true rfl) (Nat.le_of_ble_eq_true rfl) ic_Law_8 (fun q1 H hP hD hS => ?_)
  have hP : va_P B.1 vwCl [(h0, .inr (2, [.null, .null, .int 0, .int 0, .int 0])), (q1, .inl (B.2.2.1.1, 400, .inl (fun _ => 0)))] H := hP
  have hD : va_D A [(h0, .inr (2, [.null, .null, .int 0, .int 0, .int 0])), (q1, .inl (B.2.2.1.1, 400, .inl (fun _ => 0)))] := hD
  refine W.widen (k := 1) (n := 400) (Nat.le_of_ble_eq_true rfl) (Nat.le_of_ble_eq_true rfl) ?_
  refine va_putF (D := B.1) (ci := 2) (v := .ref q1) (ty := .array .int) (C := RX2) (T := TX2) (N := 5) hx hb hts tinX2 tyX2 tyX2_ok nmX2 hown hK hP hD hS 0 rfl rfl 0 (by decide) (hts _ (show Cond.fieldLink RX2 9 RX2 (TX2 0).2.1 (TX2 0).2.2.1 ∈ pj_tbl from (pj_m1 92 rfl rfl))) (fun _ h9 => h9) rfl hin rfl (by decide +kernel) rfl rfl (Nat.le_of_ble_eq_true rfl) ic_Law_10.1 (fun H locs hP hD hS => ?_)
  have hP : va_P B.1 vwCl [(h0, .inr (2, [.ref q1, .null, .int 0, .int 0, .int 0])), (q1, .inl (B.2.2.1.1, 400, .inl (fun _ => 0)))] H := hP
  have hD : va_D A [(h0, .inr (2, [.ref q1, .null, .int 0, .int 0, .int 0])), (q1, .inl (B.2.2.1.1, 400, .inl (fun _ => 0)))] := hD
  refine W.eq (g2 := F0 m 13 ls []) rfl ?_
  refine W.eq (g2 := F0 m 13 ls []) rfl ?_
  refine lv_aload_n hx hb ic_Law_13.1 rfl (lv_at hl 0 rfl) ?_
  refine lv_bipush (v := 64) hx hb ic_Law_14.1 (by decide) ?_
  refine pj_newI hx hb (hts _ wa_int) hK hP hD hS hA 64 (by decide) (by decide) (Nat.le_of_ble_eq_true rfl) (Nat.le_of_ble_eq_true rfl) (Nat.le_of_ble_eq_true rfl) ic_Law_16 (fun q2 H hP hD hS => ?_)
  have hP : va_P B.1 vwCl [(h0, .inr (2, [.ref q1, .null, .int 0, .int 0, .int 0])), (q1, .inl (B.2.2.1.1, 400, .inl (fun _ => 0))), (q2, .inl (B.2.2.1.1, 64, .inl (fun _ => 0)))] H := hP
  have hD : va_D A [(h0, .inr (2, [.ref q1, .null, .int 0, .int 0, .int 0])), (q1, .inl (B.2.2.1.1, 400, .inl (fun _ => 0))), (q2, .inl (B.2.2.1.1, 64, .inl (fun _ => 0)))] := hD
  refine W.widen (k := 2) (n := 464) (Nat.le_of_ble_eq_true rfl) (Nat.le_of_ble_eq_true rfl) ?_
  refine va_putF (D := B.1) (ci := 2) (v := .ref q2) (ty := .array .int) (C := RX2) (T := TX2) (N := 5) hx hb hts tinX2 tyX2 tyX2_ok nmX2 hown hK hP hD hS 0 rfl rfl 1 (by decide) (hts _ (show Cond.fieldLink RX2 15 RX2 (TX2 1).2.1 (TX2 1).2.2.1 ∈ pj_tbl from (pj_m1 94 rfl rfl))) (fun _ h9 => h9) rfl hin rfl (by decide +kernel) rfl rfl (Nat.le_of_ble_eq_true rfl) ic_Law_18.1 (fun H locs hP hD hS => ?_)
  have hP : va_P B.1 vwCl [(h0, .inr (2, [.ref q1, .ref q2, .int 0, .int 0, .int 0])), (q1, .inl (B.2.2.1.1, 400, .inl (fun _ => 0))), (q2, .inl (B.2.2.1.1, 64, .inl (fun _ => 0)))] H := hP
  have hD : va_D A [(h0, .inr (2, [.ref q1, .ref q2, .int 0, .int 0, .int 0])), (q1, .inl (B.2.2.1.1, 400, .inl (fun _ => 0))), (q2, .inl (B.2.2.1.1, 64, .inl (fun _ => 0)))] := hD
  refine W.eq (g2 := F0 m 21 ls []) rfl ?_
  exact W.vret hx hb hr (fun t ht hW => ⟨⟨fun k => [q1, q2].getD k 0, rfl, trivial, by rw [ht]; exact hP, hD⟩, hS.F ht⟩) hS.2.2 ic_Law_21.1
theorem ic_Reader_0 : pj_d cX3_init 0 (.aload_n 0) 1 1 := ⟨by decide +kernel, rfl⟩
theorem ic_Reader_1 : pj_d cX3_init 1 (.invokespecial 3) 3 4 := ⟨by decide +kernel, rfl⟩
theorem ic_Reader_4 : pj_d cX3_init 4 (.aload_n 0) 1 5 := ⟨by decide +kernel, rfl⟩
theorem ic_Reader_5 : pj_d cX3_init 5 (.sipush 401) 3 8 := ⟨by decide +kernel, rfl⟩
theorem ic_Reader_8 : pj_d cX3_init 8 (.newarray .int) 2 10 := ⟨by decide +kernel, rfl⟩
theorem ic_Reader_10 : pj_d cX3_init 10 (.putfield 9) 3 13 := ⟨by decide +kernel, rfl⟩
theorem ic_Reader_13 : pj_d cX3_init 13 (.aload_n 0) 1 14 := ⟨by decide +kernel, rfl⟩
theorem ic_Reader_14 : pj_d cX3_init 14 (.sipush 401) 3 17 := ⟨by decide +kernel, rfl⟩
theorem ic_Reader_17 : pj_d cX3_init 17 (.newarray .int) 2 19 := ⟨by decide +kernel, rfl⟩
theorem ic_Reader_19 : pj_d cX3_init 19 (.putfield 15) 3 22 := ⟨by decide +kernel, rfl⟩
theorem ic_Reader_22 : pj_d cX3_init 22 (.aload_n 0) 1 23 := ⟨by decide +kernel, rfl⟩
theorem ic_Reader_23 : pj_d cX3_init 23 (.sipush 401) 3 26 := ⟨by decide +kernel, rfl⟩
theorem ic_Reader_26 : pj_d cX3_init 26 (.newarray .int) 2 28 := ⟨by decide +kernel, rfl⟩
theorem ic_Reader_28 : pj_d cX3_init 28 (.putfield 18) 3 31 := ⟨by decide +kernel, rfl⟩
theorem ic_Reader_31 : pj_d cX3_init 31 (.aload_n 0) 1 32 := ⟨by decide +kernel, rfl⟩
theorem ic_Reader_32 : pj_d cX3_init 32 (.sipush 400) 3 35 := ⟨by decide +kernel, rfl⟩
theorem ic_Reader_35 : pj_d cX3_init 35 (.newarray .int) 2 37 := ⟨by decide +kernel, rfl⟩
theorem ic_Reader_37 : pj_d cX3_init 37 (.putfield 21) 3 40 := ⟨by decide +kernel, rfl⟩
theorem ic_Reader_40 : pj_d cX3_init 40 (.aload_n 0) 1 41 := ⟨by decide +kernel, rfl⟩
theorem ic_Reader_41 : pj_d cX3_init 41 (.iconst (-1)) 1 42 := ⟨by decide +kernel, rfl⟩
theorem ic_Reader_42 : pj_d cX3_init 42 (.putfield 24) 3 45 := ⟨by decide +kernel, rfl⟩
theorem ic_Reader_45 : pj_d cX3_init 45 (.return_) 1 46 := ⟨by decide +kernel, rfl⟩
theorem wcc_X3 : Cond.code yX3_init cX3_init 1 none ∈ pj_tbl := (pj_m1 236 rfl rfl)
def at_Reader (B : pj_B) (h0 : Nat) (u : Nat → Nat) : va_W := [(h0, .inr (3, [.ref (u 0), .ref (u 1), .ref (u 2), .ref (u 3), .int 0, .int 0, .int 0, .int 0, .int 0, .int (-1)])), ((u 0), .inl (B.2.2.1.1, 401, .inl (fun _ => 0))), ((u 1), .inl (B.2.2.1.1, 401, .inl (fun _ => 0))), ((u 2), .inl (B.2.2.1.1, 401, .inl (fun _ => 0))), ((u 3), .inl (B.2.2.1.1, 400, .inl (fun _ => 0)))]
set_option maxHeartbeats 4000000 in
set_option maxRecDepth 100000 in
theorem cn_Reader {l : Launch} {B : pj_B} {h0 sz : Nat} : Met l yX3_init (pj_ws yX3_init cX3_init 1 none) (pj_rmc 1 4 1603) (va_Pc [.ref h0] (pj_cPre B h0 3 [.null, .null, .null, .null, .int 0, .int 0, .int 0, .int 0, .int 0, .int 0] sz)) (va_Qv (fun _ : Nat → Nat => True) (fun u t => va_P B.1 vwCl (at_Reader B h0 u) t.heap ∧ va_D (va_A [(h0, .inr (3, [.null, .null, .null, .null, .int 0, .int 0, .int 0, .int 0, .int 0, .int 0]))] sz) (at_Reader B h0 u)) (va_A [(h0, .inr (3, [.null, .null, .null, .null, .int 0, .int 0, .int 0, .int 0, .int 0, .int 0]))] sz)) 4 1603 (va_A [(h0, .inr (3, [.null, .null, .null, .null, .int 0, .int 0, .int 0, .int 0, .int 0, .int 0]))] sz) := by
  refine Met.ofW (cc := cX3_init) (maxL := 1) (ret := none) (by decide +kernel) rfl ?_
  intro p e s m args below meth c s₁ B0 hml hv
  obtain ⟨rfl, hsz, hP, hT⟩ := hv
  have hx := B0.exec
  have hb := B0.bytes
  have hr := B0.returns
  have hts0 := atoms_spec (ws := pj_ws yX3_init cX3_init 1 none) B0.pre
  have hts : ∀ w ∈ pj_tbl, w.before _ s = true := fun w hw => hts0 w (List.mem_cons_of_mem _ hw)
  have hown : s.vm.findClass RX3 = some m.cls := findClass_of_methodNamed B0.named
  have hlocks := B0.notSynchronized
  have hin : meth.name = "<init>" := (name_of_methodNamed B0.named B0.method).1
  subst hsz
  have hD : va_D (va_A [(h0, .inr (3, [.null, .null, .null, .null, .int 0, .int 0, .int 0, .int 0, .int 0, .int 0]))] s.heap.size) [(h0, .inr (3, [.null, .null, .null, .null, .int 0, .int 0, .int 0, .int 0, .int 0, .int 0]))] := pj_D1 (Or.inl ⟨0, _, rfl⟩)
  generalize hAe : va_A [(h0, .inr (3, [.null, .null, .null, .null, .int 0, .int 0, .int 0, .int 0, .int 0, .int 0]))] s.heap.size = A at hT hD ⊢
  have hA : ∀ q : Nat, s.heap.size ≤ q → A q := fun q h => by rw [← hAe]; exact Or.inr h
  have hS : va_S A s.heap s.heap [] := va_S.rf
  have hK := hT.1
  have hl := lv_entry ([.ref h0]) (n := 1) (Nat.le_of_ble_eq_true rfl)
  rw [lg_entry_eq]
  generalize (lg_sl ([.ref h0]) ++ List.replicate (1 - (lg_sl ([.ref h0])).length) Slot.unset).toArray = ls at hl ⊢
  have hl : lv_has ls 1 [(0, .ref h0)] := hl
  refine W.eq (g2 := F0 m 0 ls []) rfl ?_
  refine lv_aload_n hx hb ic_Reader_0.1 rfl (lv_at hl 0 rfl) ?_
  refine W.objInit hx hb hown (hts _ (show Cond.methodLink RX3 3 objectInit ∈ pj_tbl from (pj_m1 237 rfl rfl))) (hts _ wo_ini) (hts _ wo_code) rfl (by rw [hml]; exact hl.1) rfl ic_Reader_1.1 (Nat.le_of_ble_eq_true rfl) (Nat.le_of_ble_eq_true rfl) ?_
  refine W.eq (g2 := F0 m 4 ls []) rfl ?_
  refine W.eq (g2 := F0 m 4 ls []) rfl ?_
  refine lv_aload_n hx hb ic_Reader_4.1 rfl (lv_at hl 0 rfl) ?_
  refine lv_sipush (v := 401) hx hb ic_Reader_5.1 (by decide) ?_
  refine pj_newI hx hb (hts _ wa_int) hK hP hD hS hA 401 (by decide) (by decide) (Nat.le_of_ble_eq_true rfl) (Nat.le_of_ble_eq_true rfl) (Nat.le_of_ble_eq_true rfl) ic_Reader_8 (fun q1 H hP hD hS => ?_)
  have hP : va_P B.1 vwCl [(h0, .inr (3, [.null, .null, .null, .null, .int 0, .int 0, .int 0, .int 0, .int 0, .int 0])), (q1, .inl (B.2.2.1.1, 401, .inl (fun _ => 0)))] H := hP
  have hD : va_D A [(h0, .inr (3, [.null, .null, .null, .null, .int 0, .int 0, .int 0, .int 0, .int 0, .int 0])), (q1, .inl (B.2.2.1.1, 401, .inl (fun _ => 0)))] := hD
  refine W.widen (k := 1) (n := 401) (Nat.le_of_ble_eq_true rfl) (Nat.le_of_ble_eq_true rfl) ?_
  refine va_putF (D := B.1) (ci := 3) (v := .ref q1) (ty := .array .int) (C := RX3) (T := TX3) (N := 10) hx hb hts tinX3 tyX3 tyX3_ok nmX3 hown hK hP hD hS 0 rfl rfl 0 (by decide) (hts _ (show Cond.fieldLink RX3 9 RX3 (TX3 0).2.1 (TX3 0).2.2.1 ∈ pj_tbl from (pj_m1 238 rfl rfl))) (fun _ h9 => h9) rfl hin rfl (by decide +kernel) rfl rfl (Nat.le_of_ble_eq_true rfl) ic_Reader_10.1 (fun H locs hP hD hS => ?_)
  have hP : va_P B.1 vwCl [(h0, .inr (3, [.ref q1, .null, .null, .null, .int 0, .int 0, .int 0, .int 0, .int 0, .int 0])), (q1, .inl (B.2.2.1.1, 401, .inl (fun _ => 0)))] H := hP
  have hD : va_D A [(h0, .inr (3, [.ref q1, .null, .null, .null, .int 0, .int 0, .int 0, .int 0, .int 0, .int 0])), (q1, .inl (B.2.2.1.1, 401, .inl (fun _ => 0)))] := hD
  refine W.eq (g2 := F0 m 13 ls []) rfl ?_
  refine W.eq (g2 := F0 m 13 ls []) rfl ?_
  refine lv_aload_n hx hb ic_Reader_13.1 rfl (lv_at hl 0 rfl) ?_
  refine lv_sipush (v := 401) hx hb ic_Reader_14.1 (by decide) ?_
  refine pj_newI hx hb (hts _ wa_int) hK hP hD hS hA 401 (by decide) (by decide) (Nat.le_of_ble_eq_true rfl) (Nat.le_of_ble_eq_true rfl) (Nat.le_of_ble_eq_true rfl) ic_Reader_17 (fun q2 H hP hD hS => ?_)
  have hP : va_P B.1 vwCl [(h0, .inr (3, [.ref q1, .null, .null, .null, .int 0, .int 0, .int 0, .int 0, .int 0, .int 0])), (q1, .inl (B.2.2.1.1, 401, .inl (fun _ => 0))), (q2, .inl (B.2.2.1.1, 401, .inl (fun _ => 0)))] H := hP
  have hD : va_D A [(h0, .inr (3, [.ref q1, .null, .null, .null, .int 0, .int 0, .int 0, .int 0, .int 0, .int 0])), (q1, .inl (B.2.2.1.1, 401, .inl (fun _ => 0))), (q2, .inl (B.2.2.1.1, 401, .inl (fun _ => 0)))] := hD
  refine W.widen (k := 2) (n := 802) (Nat.le_of_ble_eq_true rfl) (Nat.le_of_ble_eq_true rfl) ?_
  refine va_putF (D := B.1) (ci := 3) (v := .ref q2) (ty := .array .int) (C := RX3) (T := TX3) (N := 10) hx hb hts tinX3 tyX3 tyX3_ok nmX3 hown hK hP hD hS 0 rfl rfl 1 (by decide) (hts _ (show Cond.fieldLink RX3 15 RX3 (TX3 1).2.1 (TX3 1).2.2.1 ∈ pj_tbl from (pj_m1 239 rfl rfl))) (fun _ h9 => h9) rfl hin rfl (by decide +kernel) rfl rfl (Nat.le_of_ble_eq_true rfl) ic_Reader_19.1 (fun H locs hP hD hS => ?_)
  have hP : va_P B.1 vwCl [(h0, .inr (3, [.ref q1, .ref q2, .null, .null, .int 0, .int 0, .int 0, .int 0, .int 0, .int 0])), (q1, .inl (B.2.2.1.1, 401, .inl (fun _ => 0))), (q2, .inl (B.2.2.1.1, 401, .inl (fun _ => 0)))] H := hP
  have hD : va_D A [(h0, .inr (3, [.ref q1, .ref q2, .null, .null, .int 0, .int 0, .int 0, .int 0, .int 0, .int 0])), (q1, .inl (B.2.2.1.1, 401, .inl (fun _ => 0))), (q2, .inl (B.2.2.1.1, 401, .inl (fun _ => 0)))] := hD
  refine W.eq (g2 := F0 m 22 ls []) rfl ?_
  refine W.eq (g2 := F0 m 22 ls []) rfl ?_
  refine lv_aload_n hx hb ic_Reader_22.1 rfl (lv_at hl 0 rfl) ?_
  refine lv_sipush (v := 401) hx hb ic_Reader_23.1 (by decide) ?_
  refine pj_newI hx hb (hts _ wa_int) hK hP hD hS hA 401 (by decide) (by decide) (Nat.le_of_ble_eq_true rfl) (Nat.le_of_ble_eq_true rfl) (Nat.le_of_ble_eq_true rfl) ic_Reader_26 (fun q3 H hP hD hS => ?_)
  have hP : va_P B.1 vwCl [(h0, .inr (3, [.ref q1, .ref q2, .null, .null, .int 0, .int 0, .int 0, .int 0, .int 0, .int 0])), (q1, .inl (B.2.2.1.1, 401, .inl (fun _ => 0))), (q2, .inl (B.2.2.1.1, 401, .inl (fun _ => 0))), (q3, .inl (B.2.2.1.1, 401, .inl (fun _ => 0)))] H := hP
  have hD : va_D A [(h0, .inr (3, [.ref q1, .ref q2, .null, .null, .int 0, .int 0, .int 0, .int 0, .int 0, .int 0])), (q1, .inl (B.2.2.1.1, 401, .inl (fun _ => 0))), (q2, .inl (B.2.2.1.1, 401, .inl (fun _ => 0))), (q3, .inl (B.2.2.1.1, 401, .inl (fun _ => 0)))] := hD
  refine W.widen (k := 3) (n := 1203) (Nat.le_of_ble_eq_true rfl) (Nat.le_of_ble_eq_true rfl) ?_
  refine va_putF (D := B.1) (ci := 3) (v := .ref q3) (ty := .array .int) (C := RX3) (T := TX3) (N := 10) hx hb hts tinX3 tyX3 tyX3_ok nmX3 hown hK hP hD hS 0 rfl rfl 2 (by decide) (hts _ (show Cond.fieldLink RX3 18 RX3 (TX3 2).2.1 (TX3 2).2.2.1 ∈ pj_tbl from (pj_m2 0 rfl rfl))) (fun _ h9 => h9) rfl hin rfl (by decide +kernel) rfl rfl (Nat.le_of_ble_eq_true rfl) ic_Reader_28.1 (fun H locs hP hD hS => ?_)
  have hP : va_P B.1 vwCl [(h0, .inr (3, [.ref q1, .ref q2, .ref q3, .null, .int 0, .int 0, .int 0, .int 0, .int 0, .int 0])), (q1, .inl (B.2.2.1.1, 401, .inl (fun _ => 0))), (q2, .inl (B.2.2.1.1, 401, .inl (fun _ => 0))), (q3, .inl (B.2.2.1.1, 401, .inl (fun _ => 0)))] H := hP
  have hD : va_D A [(h0, .inr (3, [.ref q1, .ref q2, .ref q3, .null, .int 0, .int 0, .int 0, .int 0, .int 0, .int 0])), (q1, .inl (B.2.2.1.1, 401, .inl (fun _ => 0))), (q2, .inl (B.2.2.1.1, 401, .inl (fun _ => 0))), (q3, .inl (B.2.2.1.1, 401, .inl (fun _ => 0)))] := hD
  refine W.eq (g2 := F0 m 31 ls []) rfl ?_
  refine W.eq (g2 := F0 m 31 ls []) rfl ?_
  refine lv_aload_n hx hb ic_Reader_31.1 rfl (lv_at hl 0 rfl) ?_
  refine lv_sipush (v := 400) hx hb ic_Reader_32.1 (by decide) ?_
  refine pj_newI hx hb (hts _ wa_int) hK hP hD hS hA 400 (by decide) (by decide) (Nat.le_of_ble_eq_true rfl) (Nat.le_of_ble_eq_true rfl) (Nat.le_of_ble_eq_true rfl) ic_Reader_35 (fun q4 H hP hD hS => ?_)
  have hP : va_P B.1 vwCl [(h0, .inr (3, [.ref q1, .ref q2, .ref q3, .null, .int 0, .int 0, .int 0, .int 0, .int 0, .int 0])), (q1, .inl (B.2.2.1.1, 401, .inl (fun _ => 0))), (q2, .inl (B.2.2.1.1, 401, .inl (fun _ => 0))), (q3, .inl (B.2.2.1.1, 401, .inl (fun _ => 0))), (q4, .inl (B.2.2.1.1, 400, .inl (fun _ => 0)))] H := hP
  have hD : va_D A [(h0, .inr (3, [.ref q1, .ref q2, .ref q3, .null, .int 0, .int 0, .int 0, .int 0, .int 0, .int 0])), (q1, .inl (B.2.2.1.1, 401, .inl (fun _ => 0))), (q2, .inl (B.2.2.1.1, 401, .inl (fun _ => 0))), (q3, .inl (B.2.2.1.1, 401, .inl (fun _ => 0))), (q4, .inl (B.2.2.1.1, 400, .inl (fun _ => 0)))] := hD
  refine W.widen (k := 4) (n := 1603) (Nat.le_of_ble_eq_true rfl) (Nat.le_of_ble_eq_true rfl) ?_
  refine va_putF (D := B.1) (ci := 3) (v := .ref q4) (ty := .array .int) (C := RX3) (T := TX3) (N := 10) hx hb hts tinX3 tyX3 tyX3_ok nmX3 hown hK hP hD hS 0 rfl rfl 3 (by decide) (hts _ (show Cond.fieldLink RX3 21 RX3 (TX3 3).2.1 (TX3 3).2.2.1 ∈ pj_tbl from (pj_m2 1 rfl rfl))) (fun _ h9 => h9) rfl hin rfl (by decide +kernel) rfl rfl (Nat.le_of_ble_eq_true rfl) ic_Reader_37.1 (fun H locs hP hD hS => ?_)
  have hP : va_P B.1 vwCl [(h0, .inr (3, [.ref q1, .ref q2, .ref q3, .ref q4, .int 0, .int 0, .int 0, .int 0, .int 0, .int 0])), (q1, .inl (B.2.2.1.1, 401, .inl (fun _ => 0))), (q2, .inl (B.2.2.1.1, 401, .inl (fun _ => 0))), (q3, .inl (B.2.2.1.1, 401, .inl (fun _ => 0))), (q4, .inl (B.2.2.1.1, 400, .inl (fun _ => 0)))] H := hP
  have hD : va_D A [(h0, .inr (3, [.ref q1, .ref q2, .ref q3, .ref q4, .int 0, .int 0, .int 0, .int 0, .int 0, .int 0])), (q1, .inl (B.2.2.1.1, 401, .inl (fun _ => 0))), (q2, .inl (B.2.2.1.1, 401, .inl (fun _ => 0))), (q3, .inl (B.2.2.1.1, 401, .inl (fun _ => 0))), (q4, .inl (B.2.2.1.1, 400, .inl (fun _ => 0)))] := hD
  refine W.eq (g2 := F0 m 40 ls []) rfl ?_
  refine W.eq (g2 := F0 m 40 ls []) rfl ?_
  refine lv_aload_n hx hb ic_Reader_40.1 rfl (lv_at hl 0 rfl) ?_
  refine lv_iconst (v := -1) hx hb ic_Reader_41.1 (by decide) ?_
  refine va_put (D := B.1) (ci := 3) (v := .int (-1)) (ty := .int) (C := RX3) (T := TX3) (N := 10) hx hb hts tinX3 tyX3 tyX3_ok nmX3 hown hK hP hD hS 0 rfl rfl 9 (by decide) (hts _ (show Cond.fieldLink RX3 24 RX3 (TX3 9).2.1 (TX3 9).2.2.1 ∈ pj_tbl from (pj_m2 8 rfl rfl))) (fun _ h9 => h9) rfl (by decide +kernel) rfl rfl (Nat.le_of_ble_eq_true rfl) ic_Reader_42.1 (fun H locs hP hD hS => ?_)
  have hP : va_P B.1 vwCl [(h0, .inr (3, [.ref q1, .ref q2, .ref q3, .ref q4, .int 0, .int 0, .int 0, .int 0, .int 0, .int (-1)])), (q1, .inl (B.2.2.1.1, 401, .inl (fun _ => 0))), (q2, .inl (B.2.2.1.1, 401, .inl (fun _ => 0))), (q3, .inl (B.2.2.1.1, 401, .inl (fun _ => 0))), (q4, .inl (B.2.2.1.1, 400, .inl (fun _ => 0)))] H := hP
  have hD : va_D A [(h0, .inr (3, [.ref q1, .ref q2, .ref q3, .ref q4, .int 0, .int 0, .int 0, .int 0, .int 0, .int (-1)])), (q1, .inl (B.2.2.1.1, 401, .inl (fun _ => 0))), (q2, .inl (B.2.2.1.1, 401, .inl (fun _ => 0))), (q3, .inl (B.2.2.1.1, 401, .inl (fun _ => 0))), (q4, .inl (B.2.2.1.1, 400, .inl (fun _ => 0)))] := hD
  refine W.eq (g2 := F0 m 45 ls []) rfl ?_
  exact W.vret hx hb hr (fun t ht hW => ⟨⟨fun k => [q1, q2, q3, q4].getD k 0, rfl, trivial, by rw [ht]; exact hP, hD⟩, hS.F ht⟩) hS.2.2 ic_Reader_45.1
theorem ic_Past_0 : pj_d cX4_init 0 (.aload_n 0) 1 1 := ⟨by decide +kernel, rfl⟩
theorem ic_Past_1 : pj_d cX4_init 1 (.invokespecial 3) 3 4 := ⟨by decide +kernel, rfl⟩
theorem ic_Past_4 : pj_d cX4_init 4 (.aload_n 0) 1 5 := ⟨by decide +kernel, rfl⟩
theorem ic_Past_5 : pj_d cX4_init 5 (.bipush 8) 2 7 := ⟨by decide +kernel, rfl⟩
theorem ic_Past_7 : pj_d cX4_init 7 (.newarray .long) 2 9 := ⟨by decide +kernel, rfl⟩
theorem ic_Past_9 : pj_d cX4_init 9 (.putfield 9) 3 12 := ⟨by decide +kernel, rfl⟩
theorem ic_Past_12 : pj_d cX4_init 12 (.aload_n 0) 1 13 := ⟨by decide +kernel, rfl⟩
theorem ic_Past_13 : pj_d cX4_init 13 (.bipush 8) 2 15 := ⟨by decide +kernel, rfl⟩
theorem ic_Past_15 : pj_d cX4_init 15 (.newarray .long) 2 17 := ⟨by decide +kernel, rfl⟩
theorem ic_Past_17 : pj_d cX4_init 17 (.putfield 15) 3 20 := ⟨by decide +kernel, rfl⟩
theorem ic_Past_20 : pj_d cX4_init 20 (.aload_n 0) 1 21 := ⟨by decide +kernel, rfl⟩
theorem ic_Past_21 : pj_d cX4_init 21 (.bipush 8) 2 23 := ⟨by decide +kernel, rfl⟩
theorem ic_Past_23 : pj_d cX4_init 23 (.newarray .long) 2 25 := ⟨by decide +kernel, rfl⟩
theorem ic_Past_25 : pj_d cX4_init 25 (.putfield 18) 3 28 := ⟨by decide +kernel, rfl⟩
theorem ic_Past_28 : pj_d cX4_init 28 (.aload_n 0) 1 29 := ⟨by decide +kernel, rfl⟩
theorem ic_Past_29 : pj_d cX4_init 29 (.bipush 8) 2 31 := ⟨by decide +kernel, rfl⟩
theorem ic_Past_31 : pj_d cX4_init 31 (.newarray .int) 2 33 := ⟨by decide +kernel, rfl⟩
theorem ic_Past_33 : pj_d cX4_init 33 (.putfield 21) 3 36 := ⟨by decide +kernel, rfl⟩
theorem ic_Past_36 : pj_d cX4_init 36 (.aload_n 0) 1 37 := ⟨by decide +kernel, rfl⟩
theorem ic_Past_37 : pj_d cX4_init 37 (.bipush 8) 2 39 := ⟨by decide +kernel, rfl⟩
theorem ic_Past_39 : pj_d cX4_init 39 (.newarray .int) 2 41 := ⟨by decide +kernel, rfl⟩
theorem ic_Past_41 : pj_d cX4_init 41 (.putfield 25) 3 44 := ⟨by decide +kernel, rfl⟩
theorem ic_Past_44 : pj_d cX4_init 44 (.aload_n 0) 1 45 := ⟨by decide +kernel, rfl⟩
theorem ic_Past_45 : pj_d cX4_init 45 (.bipush 8) 2 47 := ⟨by decide +kernel, rfl⟩
theorem ic_Past_47 : pj_d cX4_init 47 (.newarray .int) 2 49 := ⟨by decide +kernel, rfl⟩
theorem ic_Past_49 : pj_d cX4_init 49 (.putfield 28) 3 52 := ⟨by decide +kernel, rfl⟩
theorem ic_Past_52 : pj_d cX4_init 52 (.aload_n 0) 1 53 := ⟨by decide +kernel, rfl⟩
theorem ic_Past_53 : pj_d cX4_init 53 (.bipush 8) 2 55 := ⟨by decide +kernel, rfl⟩
theorem ic_Past_55 : pj_d cX4_init 55 (.newarray .int) 2 57 := ⟨by decide +kernel, rfl⟩
theorem ic_Past_57 : pj_d cX4_init 57 (.putfield 31) 3 60 := ⟨by decide +kernel, rfl⟩
theorem ic_Past_60 : pj_d cX4_init 60 (.return_) 1 61 := ⟨by decide +kernel, rfl⟩
theorem wcc_X4 : Cond.code yX4_init cX4_init 1 none ∈ pj_tbl := (pj_m1 185 rfl rfl)
def at_Past (B : pj_B) (h0 : Nat) (u : Nat → Nat) : va_W := [(h0, .inr (4, [.ref (u 0), .ref (u 1), .ref (u 2), .ref (u 3), .ref (u 4), .ref (u 5), .ref (u 6), .int 0, .int 0])), ((u 0), .inl (B.2.2.1.2.1, 8, .inr (.inl (fun _ => 0)))), ((u 1), .inl (B.2.2.1.2.1, 8, .inr (.inl (fun _ => 0)))), ((u 2), .inl (B.2.2.1.2.1, 8, .inr (.inl (fun _ => 0)))), ((u 3), .inl (B.2.2.1.1, 8, .inl (fun _ => 0))), ((u 4), .inl (B.2.2.1.1, 8, .inl (fun _ => 0))), ((u 5), .inl (B.2.2.1.1, 8, .inl (fun _ => 0))), ((u 6), .inl (B.2.2.1.1, 8, .inl (fun _ => 0)))]
set_option maxHeartbeats 4000000 in
set_option maxRecDepth 100000 in
theorem cn_Past {l : Launch} {B : pj_B} {h0 sz : Nat} : Met l yX4_init (pj_ws yX4_init cX4_init 1 none) (pj_rmc 1 7 56) (va_Pc [.ref h0] (pj_cPre B h0 4 [.null, .null, .null, .null, .null, .null, .null, .int 0, .int 0] sz)) (va_Qv (fun _ : Nat → Nat => True) (fun u t => va_P B.1 vwCl (at_Past B h0 u) t.heap ∧ va_D (va_A [(h0, .inr (4, [.null, .null, .null, .null, .null, .null, .null, .int 0, .int 0]))] sz) (at_Past B h0 u)) (va_A [(h0, .inr (4, [.null, .null, .null, .null, .null, .null, .null, .int 0, .int 0]))] sz)) 7 56 (va_A [(h0, .inr (4, [.null, .null, .null, .null, .null, .null, .null, .int 0, .int 0]))] sz) := by
  refine Met.ofW (cc := cX4_init) (maxL := 1) (ret := none) (by decide +kernel) rfl ?_
  intro p e s m args below meth c s₁ B0 hml hv
  obtain ⟨rfl, hsz, hP, hT⟩ := hv
  have hx := B0.exec
  have hb := B0.bytes
  have hr := B0.returns
  have hts0 := atoms_spec (ws := pj_ws yX4_init cX4_init 1 none) B0.pre
  have hts : ∀ w ∈ pj_tbl, w.before _ s = true := fun w hw => hts0 w (List.mem_cons_of_mem _ hw)
  have hown : s.vm.findClass RX4 = some m.cls := findClass_of_methodNamed B0.named
  have hlocks := B0.notSynchronized
  have hin : meth.name = "<init>" := (name_of_methodNamed B0.named B0.method).1
  subst hsz
  have hD : va_D (va_A [(h0, .inr (4, [.null, .null, .null, .null, .null, .null, .null, .int 0, .int 0]))] s.heap.size) [(h0, .inr (4, [.null, .null, .null, .null, .null, .null, .null, .int 0, .int 0]))] := pj_D1 (Or.inl ⟨0, _, rfl⟩)
  generalize hAe : va_A [(h0, .inr (4, [.null, .null, .null, .null, .null, .null, .null, .int 0, .int 0]))] s.heap.size = A at hT hD ⊢
  have hA : ∀ q : Nat, s.heap.size ≤ q → A q := fun q h => by rw [← hAe]; exact Or.inr h
  have hS : va_S A s.heap s.heap [] := va_S.rf
  have hK := hT.1
  have hl := lv_entry ([.ref h0]) (n := 1) (Nat.le_of_ble_eq_true rfl)
  rw [lg_entry_eq]
  generalize (lg_sl ([.ref h0]) ++ List.replicate (1 - (lg_sl ([.ref h0])).length) Slot.unset).toArray = ls at hl ⊢
  have hl : lv_has ls 1 [(0, .ref h0)] := hl
  refine W.eq (g2 := F0 m 0 ls []) rfl ?_
  refine lv_aload_n hx hb ic_Past_0.1 rfl (lv_at hl 0 rfl) ?_
  refine W.objInit hx hb hown (hts _ (show Cond.methodLink RX4 3 objectInit ∈ pj_tbl from (pj_m1 186 rfl rfl))) (hts _ wo_ini) (hts _ wo_code) rfl (by rw [hml]; exact hl.1) rfl ic_Past_1.1 (Nat.le_of_ble_eq_true rfl) (Nat.le_of_ble_eq_true rfl) ?_
  refine W.eq (g2 := F0 m 4 ls []) rfl ?_
  refine W.eq (g2 := F0 m 4 ls []) rfl ?_
  refine lv_aload_n hx hb ic_Past_4.1 rfl (lv_at hl 0 rfl) ?_
  refine lv_bipush (v := 8) hx hb ic_Past_5.1 (by decide) ?_
  refine pj_newJ hx hb (hts _ wa_long) hK hP hD hS hA 8 (by decide) (by decide) (Nat.le_of_ble_eq_true rfl) (Nat.le_of_ble_eq_true rfl) (Nat.le_of_ble_eq_true rfl) ic_Past_7 (fun q1 H hP hD hS => ?_)
  have hP : va_P B.1 vwCl [(h0, .inr (4, [.null, .null, .null, .null, .null, .null, .null, .int 0, .int 0])), (q1, .inl (B.2.2.1.2.1, 8, .inr (.inl (fun _ => 0))))] H := hP
  have hD : va_D A [(h0, .inr (4, [.null, .null, .null, .null, .null, .null, .null, .int 0, .int 0])), (q1, .inl (B.2.2.1.2.1, 8, .inr (.inl (fun _ => 0))))] := hD
  refine W.widen (k := 1) (n := 8) (Nat.le_of_ble_eq_true rfl) (Nat.le_of_ble_eq_true rfl) ?_
  refine va_putF (D := B.1) (ci := 4) (v := .ref q1) (ty := .array .long) (C := RX4) (T := TX4) (N := 9) hx hb hts tinX4 tyX4 tyX4_ok nmX4 hown hK hP hD hS 0 rfl rfl 0 (by decide) (hts _ (show Cond.fieldLink RX4 9 RX4 (TX4 0).2.1 (TX4 0).2.2.1 ∈ pj_tbl from (pj_m1 187 rfl rfl))) (fun _ h9 => h9) rfl hin rfl (by decide +kernel) rfl rfl (Nat.le_of_ble_eq_true rfl) ic_Past_9.1 (fun H locs hP hD hS => ?_)
  have hP : va_P B.1 vwCl [(h0, .inr (4, [.ref q1, .null, .null, .null, .null, .null, .null, .int 0, .int 0])), (q1, .inl (B.2.2.1.2.1, 8, .inr (.inl (fun _ => 0))))] H := hP
  have hD : va_D A [(h0, .inr (4, [.ref q1, .null, .null, .null, .null, .null, .null, .int 0, .int 0])), (q1, .inl (B.2.2.1.2.1, 8, .inr (.inl (fun _ => 0))))] := hD
  refine W.eq (g2 := F0 m 12 ls []) rfl ?_
  refine W.eq (g2 := F0 m 12 ls []) rfl ?_
  refine lv_aload_n hx hb ic_Past_12.1 rfl (lv_at hl 0 rfl) ?_
  refine lv_bipush (v := 8) hx hb ic_Past_13.1 (by decide) ?_
  refine pj_newJ hx hb (hts _ wa_long) hK hP hD hS hA 8 (by decide) (by decide) (Nat.le_of_ble_eq_true rfl) (Nat.le_of_ble_eq_true rfl) (Nat.le_of_ble_eq_true rfl) ic_Past_15 (fun q2 H hP hD hS => ?_)
  have hP : va_P B.1 vwCl [(h0, .inr (4, [.ref q1, .null, .null, .null, .null, .null, .null, .int 0, .int 0])), (q1, .inl (B.2.2.1.2.1, 8, .inr (.inl (fun _ => 0)))), (q2, .inl (B.2.2.1.2.1, 8, .inr (.inl (fun _ => 0))))] H := hP
  have hD : va_D A [(h0, .inr (4, [.ref q1, .null, .null, .null, .null, .null, .null, .int 0, .int 0])), (q1, .inl (B.2.2.1.2.1, 8, .inr (.inl (fun _ => 0)))), (q2, .inl (B.2.2.1.2.1, 8, .inr (.inl (fun _ => 0))))] := hD
  refine W.widen (k := 2) (n := 16) (Nat.le_of_ble_eq_true rfl) (Nat.le_of_ble_eq_true rfl) ?_
  refine va_putF (D := B.1) (ci := 4) (v := .ref q2) (ty := .array .long) (C := RX4) (T := TX4) (N := 9) hx hb hts tinX4 tyX4 tyX4_ok nmX4 hown hK hP hD hS 0 rfl rfl 1 (by decide) (hts _ (show Cond.fieldLink RX4 15 RX4 (TX4 1).2.1 (TX4 1).2.2.1 ∈ pj_tbl from (pj_m1 188 rfl rfl))) (fun _ h9 => h9) rfl hin rfl (by decide +kernel) rfl rfl (Nat.le_of_ble_eq_true rfl) ic_Past_17.1 (fun H locs hP hD hS => ?_)
  have hP : va_P B.1 vwCl [(h0, .inr (4, [.ref q1, .ref q2, .null, .null, .null, .null, .null, .int 0, .int 0])), (q1, .inl (B.2.2.1.2.1, 8, .inr (.inl (fun _ => 0)))), (q2, .inl (B.2.2.1.2.1, 8, .inr (.inl (fun _ => 0))))] H := hP
  have hD : va_D A [(h0, .inr (4, [.ref q1, .ref q2, .null, .null, .null, .null, .null, .int 0, .int 0])), (q1, .inl (B.2.2.1.2.1, 8, .inr (.inl (fun _ => 0)))), (q2, .inl (B.2.2.1.2.1, 8, .inr (.inl (fun _ => 0))))] := hD
  refine W.eq (g2 := F0 m 20 ls []) rfl ?_
  refine W.eq (g2 := F0 m 20 ls []) rfl ?_
  refine lv_aload_n hx hb ic_Past_20.1 rfl (lv_at hl 0 rfl) ?_
  refine lv_bipush (v := 8) hx hb ic_Past_21.1 (by decide) ?_
  refine pj_newJ hx hb (hts _ wa_long) hK hP hD hS hA 8 (by decide) (by decide) (Nat.le_of_ble_eq_true rfl) (Nat.le_of_ble_eq_true rfl) (Nat.le_of_ble_eq_true rfl) ic_Past_23 (fun q3 H hP hD hS => ?_)
  have hP : va_P B.1 vwCl [(h0, .inr (4, [.ref q1, .ref q2, .null, .null, .null, .null, .null, .int 0, .int 0])), (q1, .inl (B.2.2.1.2.1, 8, .inr (.inl (fun _ => 0)))), (q2, .inl (B.2.2.1.2.1, 8, .inr (.inl (fun _ => 0)))), (q3, .inl (B.2.2.1.2.1, 8, .inr (.inl (fun _ => 0))))] H := hP
  have hD : va_D A [(h0, .inr (4, [.ref q1, .ref q2, .null, .null, .null, .null, .null, .int 0, .int 0])), (q1, .inl (B.2.2.1.2.1, 8, .inr (.inl (fun _ => 0)))), (q2, .inl (B.2.2.1.2.1, 8, .inr (.inl (fun _ => 0)))), (q3, .inl (B.2.2.1.2.1, 8, .inr (.inl (fun _ => 0))))] := hD
  refine W.widen (k := 3) (n := 24) (Nat.le_of_ble_eq_true rfl) (Nat.le_of_ble_eq_true rfl) ?_
  refine va_putF (D := B.1) (ci := 4) (v := .ref q3) (ty := .array .long) (C := RX4) (T := TX4) (N := 9) hx hb hts tinX4 tyX4 tyX4_ok nmX4 hown hK hP hD hS 0 rfl rfl 2 (by decide) (hts _ (show Cond.fieldLink RX4 18 RX4 (TX4 2).2.1 (TX4 2).2.2.1 ∈ pj_tbl from (pj_m1 189 rfl rfl))) (fun _ h9 => h9) rfl hin rfl (by decide +kernel) rfl rfl (Nat.le_of_ble_eq_true rfl) ic_Past_25.1 (fun H locs hP hD hS => ?_)
  have hP : va_P B.1 vwCl [(h0, .inr (4, [.ref q1, .ref q2, .ref q3, .null, .null, .null, .null, .int 0, .int 0])), (q1, .inl (B.2.2.1.2.1, 8, .inr (.inl (fun _ => 0)))), (q2, .inl (B.2.2.1.2.1, 8, .inr (.inl (fun _ => 0)))), (q3, .inl (B.2.2.1.2.1, 8, .inr (.inl (fun _ => 0))))] H := hP
  have hD : va_D A [(h0, .inr (4, [.ref q1, .ref q2, .ref q3, .null, .null, .null, .null, .int 0, .int 0])), (q1, .inl (B.2.2.1.2.1, 8, .inr (.inl (fun _ => 0)))), (q2, .inl (B.2.2.1.2.1, 8, .inr (.inl (fun _ => 0)))), (q3, .inl (B.2.2.1.2.1, 8, .inr (.inl (fun _ => 0))))] := hD
  refine W.eq (g2 := F0 m 28 ls []) rfl ?_
  refine W.eq (g2 := F0 m 28 ls []) rfl ?_
  refine lv_aload_n hx hb ic_Past_28.1 rfl (lv_at hl 0 rfl) ?_
  refine lv_bipush (v := 8) hx hb ic_Past_29.1 (by decide) ?_
  refine pj_newI hx hb (hts _ wa_int) hK hP hD hS hA 8 (by decide) (by decide) (Nat.le_of_ble_eq_true rfl) (Nat.le_of_ble_eq_true rfl) (Nat.le_of_ble_eq_true rfl) ic_Past_31 (fun q4 H hP hD hS => ?_)
  have hP : va_P B.1 vwCl [(h0, .inr (4, [.ref q1, .ref q2, .ref q3, .null, .null, .null, .null, .int 0, .int 0])), (q1, .inl (B.2.2.1.2.1, 8, .inr (.inl (fun _ => 0)))), (q2, .inl (B.2.2.1.2.1, 8, .inr (.inl (fun _ => 0)))), (q3, .inl (B.2.2.1.2.1, 8, .inr (.inl (fun _ => 0)))), (q4, .inl (B.2.2.1.1, 8, .inl (fun _ => 0)))] H := hP
  have hD : va_D A [(h0, .inr (4, [.ref q1, .ref q2, .ref q3, .null, .null, .null, .null, .int 0, .int 0])), (q1, .inl (B.2.2.1.2.1, 8, .inr (.inl (fun _ => 0)))), (q2, .inl (B.2.2.1.2.1, 8, .inr (.inl (fun _ => 0)))), (q3, .inl (B.2.2.1.2.1, 8, .inr (.inl (fun _ => 0)))), (q4, .inl (B.2.2.1.1, 8, .inl (fun _ => 0)))] := hD
  refine W.widen (k := 4) (n := 32) (Nat.le_of_ble_eq_true rfl) (Nat.le_of_ble_eq_true rfl) ?_
  refine va_putF (D := B.1) (ci := 4) (v := .ref q4) (ty := .array .int) (C := RX4) (T := TX4) (N := 9) hx hb hts tinX4 tyX4 tyX4_ok nmX4 hown hK hP hD hS 0 rfl rfl 3 (by decide) (hts _ (show Cond.fieldLink RX4 21 RX4 (TX4 3).2.1 (TX4 3).2.2.1 ∈ pj_tbl from (pj_m1 190 rfl rfl))) (fun _ h9 => h9) rfl hin rfl (by decide +kernel) rfl rfl (Nat.le_of_ble_eq_true rfl) ic_Past_33.1 (fun H locs hP hD hS => ?_)
  have hP : va_P B.1 vwCl [(h0, .inr (4, [.ref q1, .ref q2, .ref q3, .ref q4, .null, .null, .null, .int 0, .int 0])), (q1, .inl (B.2.2.1.2.1, 8, .inr (.inl (fun _ => 0)))), (q2, .inl (B.2.2.1.2.1, 8, .inr (.inl (fun _ => 0)))), (q3, .inl (B.2.2.1.2.1, 8, .inr (.inl (fun _ => 0)))), (q4, .inl (B.2.2.1.1, 8, .inl (fun _ => 0)))] H := hP
  have hD : va_D A [(h0, .inr (4, [.ref q1, .ref q2, .ref q3, .ref q4, .null, .null, .null, .int 0, .int 0])), (q1, .inl (B.2.2.1.2.1, 8, .inr (.inl (fun _ => 0)))), (q2, .inl (B.2.2.1.2.1, 8, .inr (.inl (fun _ => 0)))), (q3, .inl (B.2.2.1.2.1, 8, .inr (.inl (fun _ => 0)))), (q4, .inl (B.2.2.1.1, 8, .inl (fun _ => 0)))] := hD
  refine W.eq (g2 := F0 m 36 ls []) rfl ?_
  refine W.eq (g2 := F0 m 36 ls []) rfl ?_
  refine lv_aload_n hx hb ic_Past_36.1 rfl (lv_at hl 0 rfl) ?_
  refine lv_bipush (v := 8) hx hb ic_Past_37.1 (by decide) ?_
  refine pj_newI hx hb (hts _ wa_int) hK hP hD hS hA 8 (by decide) (by decide) (Nat.le_of_ble_eq_true rfl) (Nat.le_of_ble_eq_true rfl) (Nat.le_of_ble_eq_true rfl) ic_Past_39 (fun q5 H hP hD hS => ?_)
  have hP : va_P B.1 vwCl [(h0, .inr (4, [.ref q1, .ref q2, .ref q3, .ref q4, .null, .null, .null, .int 0, .int 0])), (q1, .inl (B.2.2.1.2.1, 8, .inr (.inl (fun _ => 0)))), (q2, .inl (B.2.2.1.2.1, 8, .inr (.inl (fun _ => 0)))), (q3, .inl (B.2.2.1.2.1, 8, .inr (.inl (fun _ => 0)))), (q4, .inl (B.2.2.1.1, 8, .inl (fun _ => 0))), (q5, .inl (B.2.2.1.1, 8, .inl (fun _ => 0)))] H := hP
  have hD : va_D A [(h0, .inr (4, [.ref q1, .ref q2, .ref q3, .ref q4, .null, .null, .null, .int 0, .int 0])), (q1, .inl (B.2.2.1.2.1, 8, .inr (.inl (fun _ => 0)))), (q2, .inl (B.2.2.1.2.1, 8, .inr (.inl (fun _ => 0)))), (q3, .inl (B.2.2.1.2.1, 8, .inr (.inl (fun _ => 0)))), (q4, .inl (B.2.2.1.1, 8, .inl (fun _ => 0))), (q5, .inl (B.2.2.1.1, 8, .inl (fun _ => 0)))] := hD
  refine W.widen (k := 5) (n := 40) (Nat.le_of_ble_eq_true rfl) (Nat.le_of_ble_eq_true rfl) ?_
  refine va_putF (D := B.1) (ci := 4) (v := .ref q5) (ty := .array .int) (C := RX4) (T := TX4) (N := 9) hx hb hts tinX4 tyX4 tyX4_ok nmX4 hown hK hP hD hS 0 rfl rfl 4 (by decide) (hts _ (show Cond.fieldLink RX4 25 RX4 (TX4 4).2.1 (TX4 4).2.2.1 ∈ pj_tbl from (pj_m1 191 rfl rfl))) (fun _ h9 => h9) rfl hin rfl (by decide +kernel) rfl rfl (Nat.le_of_ble_eq_true rfl) ic_Past_41.1 (fun H locs hP hD hS => ?_)
  have hP : va_P B.1 vwCl [(h0, .inr (4, [.ref q1, .ref q2, .ref q3, .ref q4, .ref q5, .null, .null, .int 0, .int 0])), (q1, .inl (B.2.2.1.2.1, 8, .inr (.inl (fun _ => 0)))), (q2, .inl (B.2.2.1.2.1, 8, .inr (.inl (fun _ => 0)))), (q3, .inl (B.2.2.1.2.1, 8, .inr (.inl (fun _ => 0)))), (q4, .inl (B.2.2.1.1, 8, .inl (fun _ => 0))), (q5, .inl (B.2.2.1.1, 8, .inl (fun _ => 0)))] H := hP
  have hD : va_D A [(h0, .inr (4, [.ref q1, .ref q2, .ref q3, .ref q4, .ref q5, .null, .null, .int 0, .int 0])), (q1, .inl (B.2.2.1.2.1, 8, .inr (.inl (fun _ => 0)))), (q2, .inl (B.2.2.1.2.1, 8, .inr (.inl (fun _ => 0)))), (q3, .inl (B.2.2.1.2.1, 8, .inr (.inl (fun _ => 0)))), (q4, .inl (B.2.2.1.1, 8, .inl (fun _ => 0))), (q5, .inl (B.2.2.1.1, 8, .inl (fun _ => 0)))] := hD
  refine W.eq (g2 := F0 m 44 ls []) rfl ?_
  refine W.eq (g2 := F0 m 44 ls []) rfl ?_
  refine lv_aload_n hx hb ic_Past_44.1 rfl (lv_at hl 0 rfl) ?_
  refine lv_bipush (v := 8) hx hb ic_Past_45.1 (by decide) ?_
  refine pj_newI hx hb (hts _ wa_int) hK hP hD hS hA 8 (by decide) (by decide) (Nat.le_of_ble_eq_true rfl) (Nat.le_of_ble_eq_true rfl) (Nat.le_of_ble_eq_true rfl) ic_Past_47 (fun q6 H hP hD hS => ?_)
  have hP : va_P B.1 vwCl [(h0, .inr (4, [.ref q1, .ref q2, .ref q3, .ref q4, .ref q5, .null, .null, .int 0, .int 0])), (q1, .inl (B.2.2.1.2.1, 8, .inr (.inl (fun _ => 0)))), (q2, .inl (B.2.2.1.2.1, 8, .inr (.inl (fun _ => 0)))), (q3, .inl (B.2.2.1.2.1, 8, .inr (.inl (fun _ => 0)))), (q4, .inl (B.2.2.1.1, 8, .inl (fun _ => 0))), (q5, .inl (B.2.2.1.1, 8, .inl (fun _ => 0))), (q6, .inl (B.2.2.1.1, 8, .inl (fun _ => 0)))] H := hP
  have hD : va_D A [(h0, .inr (4, [.ref q1, .ref q2, .ref q3, .ref q4, .ref q5, .null, .null, .int 0, .int 0])), (q1, .inl (B.2.2.1.2.1, 8, .inr (.inl (fun _ => 0)))), (q2, .inl (B.2.2.1.2.1, 8, .inr (.inl (fun _ => 0)))), (q3, .inl (B.2.2.1.2.1, 8, .inr (.inl (fun _ => 0)))), (q4, .inl (B.2.2.1.1, 8, .inl (fun _ => 0))), (q5, .inl (B.2.2.1.1, 8, .inl (fun _ => 0))), (q6, .inl (B.2.2.1.1, 8, .inl (fun _ => 0)))] := hD
  refine W.widen (k := 6) (n := 48) (Nat.le_of_ble_eq_true rfl) (Nat.le_of_ble_eq_true rfl) ?_
  refine va_putF (D := B.1) (ci := 4) (v := .ref q6) (ty := .array .int) (C := RX4) (T := TX4) (N := 9) hx hb hts tinX4 tyX4 tyX4_ok nmX4 hown hK hP hD hS 0 rfl rfl 5 (by decide) (hts _ (show Cond.fieldLink RX4 28 RX4 (TX4 5).2.1 (TX4 5).2.2.1 ∈ pj_tbl from (pj_m1 192 rfl rfl))) (fun _ h9 => h9) rfl hin rfl (by decide +kernel) rfl rfl (Nat.le_of_ble_eq_true rfl) ic_Past_49.1 (fun H locs hP hD hS => ?_)
  have hP : va_P B.1 vwCl [(h0, .inr (4, [.ref q1, .ref q2, .ref q3, .ref q4, .ref q5, .ref q6, .null, .int 0, .int 0])), (q1, .inl (B.2.2.1.2.1, 8, .inr (.inl (fun _ => 0)))), (q2, .inl (B.2.2.1.2.1, 8, .inr (.inl (fun _ => 0)))), (q3, .inl (B.2.2.1.2.1, 8, .inr (.inl (fun _ => 0)))), (q4, .inl (B.2.2.1.1, 8, .inl (fun _ => 0))), (q5, .inl (B.2.2.1.1, 8, .inl (fun _ => 0))), (q6, .inl (B.2.2.1.1, 8, .inl (fun _ => 0)))] H := hP
  have hD : va_D A [(h0, .inr (4, [.ref q1, .ref q2, .ref q3, .ref q4, .ref q5, .ref q6, .null, .int 0, .int 0])), (q1, .inl (B.2.2.1.2.1, 8, .inr (.inl (fun _ => 0)))), (q2, .inl (B.2.2.1.2.1, 8, .inr (.inl (fun _ => 0)))), (q3, .inl (B.2.2.1.2.1, 8, .inr (.inl (fun _ => 0)))), (q4, .inl (B.2.2.1.1, 8, .inl (fun _ => 0))), (q5, .inl (B.2.2.1.1, 8, .inl (fun _ => 0))), (q6, .inl (B.2.2.1.1, 8, .inl (fun _ => 0)))] := hD
  refine W.eq (g2 := F0 m 52 ls []) rfl ?_
  refine W.eq (g2 := F0 m 52 ls []) rfl ?_
  refine lv_aload_n hx hb ic_Past_52.1 rfl (lv_at hl 0 rfl) ?_
  refine lv_bipush (v := 8) hx hb ic_Past_53.1 (by decide) ?_
  refine pj_newI hx hb (hts _ wa_int) hK hP hD hS hA 8 (by decide) (by decide) (Nat.le_of_ble_eq_true rfl) (Nat.le_of_ble_eq_true rfl) (Nat.le_of_ble_eq_true rfl) ic_Past_55 (fun q7 H hP hD hS => ?_)
  have hP : va_P B.1 vwCl [(h0, .inr (4, [.ref q1, .ref q2, .ref q3, .ref q4, .ref q5, .ref q6, .null, .int 0, .int 0])), (q1, .inl (B.2.2.1.2.1, 8, .inr (.inl (fun _ => 0)))), (q2, .inl (B.2.2.1.2.1, 8, .inr (.inl (fun _ => 0)))), (q3, .inl (B.2.2.1.2.1, 8, .inr (.inl (fun _ => 0)))), (q4, .inl (B.2.2.1.1, 8, .inl (fun _ => 0))), (q5, .inl (B.2.2.1.1, 8, .inl (fun _ => 0))), (q6, .inl (B.2.2.1.1, 8, .inl (fun _ => 0))), (q7, .inl (B.2.2.1.1, 8, .inl (fun _ => 0)))] H := hP
  have hD : va_D A [(h0, .inr (4, [.ref q1, .ref q2, .ref q3, .ref q4, .ref q5, .ref q6, .null, .int 0, .int 0])), (q1, .inl (B.2.2.1.2.1, 8, .inr (.inl (fun _ => 0)))), (q2, .inl (B.2.2.1.2.1, 8, .inr (.inl (fun _ => 0)))), (q3, .inl (B.2.2.1.2.1, 8, .inr (.inl (fun _ => 0)))), (q4, .inl (B.2.2.1.1, 8, .inl (fun _ => 0))), (q5, .inl (B.2.2.1.1, 8, .inl (fun _ => 0))), (q6, .inl (B.2.2.1.1, 8, .inl (fun _ => 0))), (q7, .inl (B.2.2.1.1, 8, .inl (fun _ => 0)))] := hD
  refine W.widen (k := 7) (n := 56) (Nat.le_of_ble_eq_true rfl) (Nat.le_of_ble_eq_true rfl) ?_
  refine va_putF (D := B.1) (ci := 4) (v := .ref q7) (ty := .array .int) (C := RX4) (T := TX4) (N := 9) hx hb hts tinX4 tyX4 tyX4_ok nmX4 hown hK hP hD hS 0 rfl rfl 6 (by decide) (hts _ (show Cond.fieldLink RX4 31 RX4 (TX4 6).2.1 (TX4 6).2.2.1 ∈ pj_tbl from (pj_m1 193 rfl rfl))) (fun _ h9 => h9) rfl hin rfl (by decide +kernel) rfl rfl (Nat.le_of_ble_eq_true rfl) ic_Past_57.1 (fun H locs hP hD hS => ?_)
  have hP : va_P B.1 vwCl [(h0, .inr (4, [.ref q1, .ref q2, .ref q3, .ref q4, .ref q5, .ref q6, .ref q7, .int 0, .int 0])), (q1, .inl (B.2.2.1.2.1, 8, .inr (.inl (fun _ => 0)))), (q2, .inl (B.2.2.1.2.1, 8, .inr (.inl (fun _ => 0)))), (q3, .inl (B.2.2.1.2.1, 8, .inr (.inl (fun _ => 0)))), (q4, .inl (B.2.2.1.1, 8, .inl (fun _ => 0))), (q5, .inl (B.2.2.1.1, 8, .inl (fun _ => 0))), (q6, .inl (B.2.2.1.1, 8, .inl (fun _ => 0))), (q7, .inl (B.2.2.1.1, 8, .inl (fun _ => 0)))] H := hP
  have hD : va_D A [(h0, .inr (4, [.ref q1, .ref q2, .ref q3, .ref q4, .ref q5, .ref q6, .ref q7, .int 0, .int 0])), (q1, .inl (B.2.2.1.2.1, 8, .inr (.inl (fun _ => 0)))), (q2, .inl (B.2.2.1.2.1, 8, .inr (.inl (fun _ => 0)))), (q3, .inl (B.2.2.1.2.1, 8, .inr (.inl (fun _ => 0)))), (q4, .inl (B.2.2.1.1, 8, .inl (fun _ => 0))), (q5, .inl (B.2.2.1.1, 8, .inl (fun _ => 0))), (q6, .inl (B.2.2.1.1, 8, .inl (fun _ => 0))), (q7, .inl (B.2.2.1.1, 8, .inl (fun _ => 0)))] := hD
  refine W.eq (g2 := F0 m 60 ls []) rfl ?_
  exact W.vret hx hb hr (fun t ht hW => ⟨⟨fun k => [q1, q2, q3, q4, q5, q6, q7].getD k 0, rfl, trivial, by rw [ht]; exact hP, hD⟩, hS.F ht⟩) hS.2.2 ic_Past_60.1
theorem ic_Puller_0 : pj_d cX5_init 0 (.aload_n 0) 1 1 := ⟨by decide +kernel, rfl⟩
theorem ic_Puller_1 : pj_d cX5_init 1 (.invokespecial 3) 3 4 := ⟨by decide +kernel, rfl⟩
theorem ic_Puller_4 : pj_d cX5_init 4 (.aload_n 0) 1 5 := ⟨by decide +kernel, rfl⟩
theorem ic_Puller_5 : pj_d cX5_init 5 (.bipush 36) 2 7 := ⟨by decide +kernel, rfl⟩
theorem ic_Puller_7 : pj_d cX5_init 7 (.newarray .int) 2 9 := ⟨by decide +kernel, rfl⟩
theorem ic_Puller_9 : pj_d cX5_init 9 (.putfield 9) 3 12 := ⟨by decide +kernel, rfl⟩
theorem ic_Puller_12 : pj_d cX5_init 12 (.return_) 1 13 := ⟨by decide +kernel, rfl⟩
theorem wcc_X5 : Cond.code yX5_init cX5_init 1 none ∈ pj_tbl := (pj_m2 35 rfl rfl)
def at_Puller (B : pj_B) (h0 : Nat) (u : Nat → Nat) : va_W := [(h0, .inr (5, [.ref (u 0), .int 0, .int 0, .long 0, .long 0])), ((u 0), .inl (B.2.2.1.1, 36, .inl (fun _ => 0)))]
set_option maxHeartbeats 4000000 in
set_option maxRecDepth 100000 in
theorem cn_Puller {l : Launch} {B : pj_B} {h0 sz : Nat} : Met l yX5_init (pj_ws yX5_init cX5_init 1 none) (pj_rmc 1 1 36) (va_Pc [.ref h0] (pj_cPre B h0 5 [.null, .int 0, .int 0, .long 0, .long 0] sz)) (va_Qv (fun _ : Nat → Nat => True) (fun u t => va_P B.1 vwCl (at_Puller B h0 u) t.heap ∧ va_D (va_A [(h0, .inr (5, [.null, .int 0, .int 0, .long 0, .long 0]))] sz) (at_Puller B h0 u)) (va_A [(h0, .inr (5, [.null, .int 0, .int 0, .long 0, .long 0]))] sz)) 1 36 (va_A [(h0, .inr (5, [.null, .int 0, .int 0, .long 0, .long 0]))] sz) := by
  refine Met.ofW (cc := cX5_init) (maxL := 1) (ret := none) (by decide +kernel) rfl ?_
  intro p e s m args below meth c s₁ B0 hml hv
  obtain ⟨rfl, hsz, hP, hT⟩ := hv
  have hx := B0.exec
  have hb := B0.bytes
  have hr := B0.returns
  have hts0 := atoms_spec (ws := pj_ws yX5_init cX5_init 1 none) B0.pre
  have hts : ∀ w ∈ pj_tbl, w.before _ s = true := fun w hw => hts0 w (List.mem_cons_of_mem _ hw)
  have hown : s.vm.findClass RX5 = some m.cls := findClass_of_methodNamed B0.named
  have hlocks := B0.notSynchronized
  have hin : meth.name = "<init>" := (name_of_methodNamed B0.named B0.method).1
  subst hsz
  have hD : va_D (va_A [(h0, .inr (5, [.null, .int 0, .int 0, .long 0, .long 0]))] s.heap.size) [(h0, .inr (5, [.null, .int 0, .int 0, .long 0, .long 0]))] := pj_D1 (Or.inl ⟨0, _, rfl⟩)
  generalize hAe : va_A [(h0, .inr (5, [.null, .int 0, .int 0, .long 0, .long 0]))] s.heap.size = A at hT hD ⊢
  have hA : ∀ q : Nat, s.heap.size ≤ q → A q := fun q h => by rw [← hAe]; exact Or.inr h
  have hS : va_S A s.heap s.heap [] := va_S.rf
  have hK := hT.1
  have hl := lv_entry ([.ref h0]) (n := 1) (Nat.le_of_ble_eq_true rfl)
  rw [lg_entry_eq]
  generalize (lg_sl ([.ref h0]) ++ List.replicate (1 - (lg_sl ([.ref h0])).length) Slot.unset).toArray = ls at hl ⊢
  have hl : lv_has ls 1 [(0, .ref h0)] := hl
  refine W.eq (g2 := F0 m 0 ls []) rfl ?_
  refine lv_aload_n hx hb ic_Puller_0.1 rfl (lv_at hl 0 rfl) ?_
  refine W.objInit hx hb hown (hts _ (show Cond.methodLink RX5 3 objectInit ∈ pj_tbl from (pj_m2 36 rfl rfl))) (hts _ wo_ini) (hts _ wo_code) rfl (by rw [hml]; exact hl.1) rfl ic_Puller_1.1 (Nat.le_of_ble_eq_true rfl) (Nat.le_of_ble_eq_true rfl) ?_
  refine W.eq (g2 := F0 m 4 ls []) rfl ?_
  refine W.eq (g2 := F0 m 4 ls []) rfl ?_
  refine lv_aload_n hx hb ic_Puller_4.1 rfl (lv_at hl 0 rfl) ?_
  refine lv_bipush (v := 36) hx hb ic_Puller_5.1 (by decide) ?_
  refine pj_newI hx hb (hts _ wa_int) hK hP hD hS hA 36 (by decide) (by decide) (Nat.le_of_ble_eq_true rfl) (Nat.le_of_ble_eq_true rfl) (Nat.le_of_ble_eq_true rfl) ic_Puller_7 (fun q1 H hP hD hS => ?_)
  have hP : va_P B.1 vwCl [(h0, .inr (5, [.null, .int 0, .int 0, .long 0, .long 0])), (q1, .inl (B.2.2.1.1, 36, .inl (fun _ => 0)))] H := hP
  have hD : va_D A [(h0, .inr (5, [.null, .int 0, .int 0, .long 0, .long 0])), (q1, .inl (B.2.2.1.1, 36, .inl (fun _ => 0)))] := hD
  refine W.widen (k := 1) (n := 36) (Nat.le_of_ble_eq_true rfl) (Nat.le_of_ble_eq_true rfl) ?_
  refine va_putF (D := B.1) (ci := 5) (v := .ref q1) (ty := .array .int) (C := RX5) (T := TX5) (N := 5) hx hb hts tinX5 tyX5 tyX5_ok nmX5 hown hK hP hD hS 0 rfl rfl 0 (by decide) (hts _ (show Cond.fieldLink RX5 9 RX5 (TX5 0).2.1 (TX5 0).2.2.1 ∈ pj_tbl from (pj_m2 37 rfl rfl))) (fun _ h9 => h9) rfl hin rfl (by decide +kernel) rfl rfl (Nat.le_of_ble_eq_true rfl) ic_Puller_9.1 (fun H locs hP hD hS => ?_)
  have hP : va_P B.1 vwCl [(h0, .inr (5, [.ref q1, .int 0, .int 0, .long 0, .long 0])), (q1, .inl (B.2.2.1.1, 36, .inl (fun _ => 0)))] H := hP
  have hD : va_D A [(h0, .inr (5, [.ref q1, .int 0, .int 0, .long 0, .long 0])), (q1, .inl (B.2.2.1.1, 36, .inl (fun _ => 0)))] := hD
  refine W.eq (g2 := F0 m 12 ls []) rfl ?_
  exact W.vret hx hb hr (fun t ht hW => ⟨⟨fun k => [q1].getD k 0, rfl, trivial, by rw [ht]; exact hP, hD⟩, hS.F ht⟩) hS.2.2 ic_Puller_12.1
theorem ic_Saver_0 : pj_d cX6_init 0 (.aload_n 0) 1 1 := ⟨by decide +kernel, rfl⟩
theorem ic_Saver_1 : pj_d cX6_init 1 (.invokespecial 3) 3 4 := ⟨by decide +kernel, rfl⟩
theorem ic_Saver_4 : pj_d cX6_init 4 (.return_) 1 5 := ⟨by decide +kernel, rfl⟩
theorem wcc_X6 : Cond.code yX6_init cX6_init 1 none ∈ pj_tbl := (pj_m2 63 rfl rfl)
def at_Saver (B : pj_B) (h0 : Nat) (u : Nat → Nat) : va_W := [(h0, .inr (6, [.int 0, .long 0]))]
set_option maxHeartbeats 4000000 in
set_option maxRecDepth 100000 in
theorem cn_Saver {l : Launch} {B : pj_B} {h0 sz : Nat} : Met l yX6_init (pj_ws yX6_init cX6_init 1 none) (pj_rmc 1 0 0) (va_Pc [.ref h0] (pj_cPre B h0 6 [.int 0, .long 0] sz)) (va_Qv (fun _ : Nat → Nat => True) (fun u t => va_P B.1 vwCl (at_Saver B h0 u) t.heap ∧ va_D (va_A [(h0, .inr (6, [.int 0, .long 0]))] sz) (at_Saver B h0 u)) (va_A [(h0, .inr (6, [.int 0, .long 0]))] sz)) 0 0 (va_A [(h0, .inr (6, [.int 0, .long 0]))] sz) := by
  refine Met.ofW (cc := cX6_init) (maxL := 1) (ret := none) (by decide +kernel) rfl ?_
  intro p e s m args below meth c s₁ B0 hml hv
  obtain ⟨rfl, hsz, hP, hT⟩ := hv
  have hx := B0.exec
  have hb := B0.bytes
  have hr := B0.returns
  have hts0 := atoms_spec (ws := pj_ws yX6_init cX6_init 1 none) B0.pre
  have hts : ∀ w ∈ pj_tbl, w.before _ s = true := fun w hw => hts0 w (List.mem_cons_of_mem _ hw)
  have hown : s.vm.findClass RX6 = some m.cls := findClass_of_methodNamed B0.named
  have hlocks := B0.notSynchronized
  have hin : meth.name = "<init>" := (name_of_methodNamed B0.named B0.method).1
  subst hsz
  have hD : va_D (va_A [(h0, .inr (6, [.int 0, .long 0]))] s.heap.size) [(h0, .inr (6, [.int 0, .long 0]))] := pj_D1 (Or.inl ⟨0, _, rfl⟩)
  generalize hAe : va_A [(h0, .inr (6, [.int 0, .long 0]))] s.heap.size = A at hT hD ⊢
  have hA : ∀ q : Nat, s.heap.size ≤ q → A q := fun q h => by rw [← hAe]; exact Or.inr h
  have hS : va_S A s.heap s.heap [] := va_S.rf
  have hK := hT.1
  have hl := lv_entry ([.ref h0]) (n := 1) (Nat.le_of_ble_eq_true rfl)
  rw [lg_entry_eq]
  generalize (lg_sl ([.ref h0]) ++ List.replicate (1 - (lg_sl ([.ref h0])).length) Slot.unset).toArray = ls at hl ⊢
  have hl : lv_has ls 1 [(0, .ref h0)] := hl
  refine W.eq (g2 := F0 m 0 ls []) rfl ?_
  refine lv_aload_n hx hb ic_Saver_0.1 rfl (lv_at hl 0 rfl) ?_
  refine W.objInit hx hb hown (hts _ (show Cond.methodLink RX6 3 objectInit ∈ pj_tbl from (pj_m2 64 rfl rfl))) (hts _ wo_ini) (hts _ wo_code) rfl (by rw [hml]; exact hl.1) rfl ic_Saver_1.1 (Nat.le_of_ble_eq_true rfl) (Nat.le_of_ble_eq_true rfl) ?_
  refine W.eq (g2 := F0 m 4 ls []) rfl ?_
  exact W.vret hx hb hr (fun t ht hW => ⟨⟨fun _ => 0, rfl, trivial, by rw [ht]; exact hP, hD⟩, hS.F ht⟩) hS.2.2 ic_Saver_4.1
theorem ic_Tape_0 : pj_d cX7_init 0 (.aload_n 0) 1 1 := ⟨by decide +kernel, rfl⟩
theorem ic_Tape_1 : pj_d cX7_init 1 (.invokespecial 3) 3 4 := ⟨by decide +kernel, rfl⟩
theorem ic_Tape_4 : pj_d cX7_init 4 (.aload_n 0) 1 5 := ⟨by decide +kernel, rfl⟩
theorem ic_Tape_5 : pj_d cX7_init 5 (.sipush 400) 3 8 := ⟨by decide +kernel, rfl⟩
theorem ic_Tape_8 : pj_d cX7_init 8 (.newarray .byte) 2 10 := ⟨by decide +kernel, rfl⟩
theorem ic_Tape_10 : pj_d cX7_init 10 (.putfield 9) 3 13 := ⟨by decide +kernel, rfl⟩
theorem ic_Tape_13 : pj_d cX7_init 13 (.return_) 1 14 := ⟨by decide +kernel, rfl⟩
theorem wcc_X7 : Cond.code yX7_init cX7_init 1 none ∈ pj_tbl := (pj_m1 221 rfl rfl)
def at_Tape (B : pj_B) (h0 : Nat) (u : Nat → Nat) : va_W := [(h0, .inr (7, [.ref (u 0), .int 0])), ((u 0), .inl (B.2.2.1.2.2, 400, .inl (fun _ => 0)))]
set_option maxHeartbeats 4000000 in
set_option maxRecDepth 100000 in
theorem cn_Tape {l : Launch} {B : pj_B} {h0 sz : Nat} : Met l yX7_init (pj_ws yX7_init cX7_init 1 none) (pj_rmc 1 1 400) (va_Pc [.ref h0] (pj_cPre B h0 7 [.null, .int 0] sz)) (va_Qv (fun _ : Nat → Nat => True) (fun u t => va_P B.1 vwCl (at_Tape B h0 u) t.heap ∧ va_D (va_A [(h0, .inr (7, [.null, .int 0]))] sz) (at_Tape B h0 u)) (va_A [(h0, .inr (7, [.null, .int 0]))] sz)) 1 400 (va_A [(h0, .inr (7, [.null, .int 0]))] sz) := by
  refine Met.ofW (cc := cX7_init) (maxL := 1) (ret := none) (by decide +kernel) rfl ?_
  intro p e s m args below meth c s₁ B0 hml hv
  obtain ⟨rfl, hsz, hP, hT⟩ := hv
  have hx := B0.exec
  have hb := B0.bytes
  have hr := B0.returns
  have hts0 := atoms_spec (ws := pj_ws yX7_init cX7_init 1 none) B0.pre
  have hts : ∀ w ∈ pj_tbl, w.before _ s = true := fun w hw => hts0 w (List.mem_cons_of_mem _ hw)
  have hown : s.vm.findClass RX7 = some m.cls := findClass_of_methodNamed B0.named
  have hlocks := B0.notSynchronized
  have hin : meth.name = "<init>" := (name_of_methodNamed B0.named B0.method).1
  subst hsz
  have hD : va_D (va_A [(h0, .inr (7, [.null, .int 0]))] s.heap.size) [(h0, .inr (7, [.null, .int 0]))] := pj_D1 (Or.inl ⟨0, _, rfl⟩)
  generalize hAe : va_A [(h0, .inr (7, [.null, .int 0]))] s.heap.size = A at hT hD ⊢
  have hA : ∀ q : Nat, s.heap.size ≤ q → A q := fun q h => by rw [← hAe]; exact Or.inr h
  have hS : va_S A s.heap s.heap [] := va_S.rf
  have hK := hT.1
  have hl := lv_entry ([.ref h0]) (n := 1) (Nat.le_of_ble_eq_true rfl)
  rw [lg_entry_eq]
  generalize (lg_sl ([.ref h0]) ++ List.replicate (1 - (lg_sl ([.ref h0])).length) Slot.unset).toArray = ls at hl ⊢
  have hl : lv_has ls 1 [(0, .ref h0)] := hl
  refine W.eq (g2 := F0 m 0 ls []) rfl ?_
  refine lv_aload_n hx hb ic_Tape_0.1 rfl (lv_at hl 0 rfl) ?_
  refine W.objInit hx hb hown (hts _ (show Cond.methodLink RX7 3 objectInit ∈ pj_tbl from (pj_m1 222 rfl rfl))) (hts _ wo_ini) (hts _ wo_code) rfl (by rw [hml]; exact hl.1) rfl ic_Tape_1.1 (Nat.le_of_ble_eq_true rfl) (Nat.le_of_ble_eq_true rfl) ?_
  refine W.eq (g2 := F0 m 4 ls []) rfl ?_
  refine W.eq (g2 := F0 m 4 ls []) rfl ?_
  refine lv_aload_n hx hb ic_Tape_4.1 rfl (lv_at hl 0 rfl) ?_
  refine lv_sipush (v := 400) hx hb ic_Tape_5.1 (by decide) ?_
  refine pj_newB hx hb (hts _ wa_byte) hK hP hD hS hA 400 (by decide) (by decide) (Nat.le_of_ble_eq_true rfl) (Nat.le_of_ble_eq_true rfl) (Nat.le_of_ble_eq_true rfl) ic_Tape_8 (fun q1 H hP hD hS => ?_)
  have hP : va_P B.1 vwCl [(h0, .inr (7, [.null, .int 0])), (q1, .inl (B.2.2.1.2.2, 400, .inl (fun _ => 0)))] H := hP
  have hD : va_D A [(h0, .inr (7, [.null, .int 0])), (q1, .inl (B.2.2.1.2.2, 400, .inl (fun _ => 0)))] := hD
  refine W.widen (k := 1) (n := 400) (Nat.le_of_ble_eq_true rfl) (Nat.le_of_ble_eq_true rfl) ?_
  refine va_putF (D := B.1) (ci := 7) (v := .ref q1) (ty := .array .byte) (C := RX7) (T := TX7) (N := 2) hx hb hts tinX7 tyX7 tyX7_ok nmX7 hown hK hP hD hS 0 rfl rfl 0 (by decide) (hts _ (show Cond.fieldLink RX7 9 RX7 (TX7 0).2.1 (TX7 0).2.2.1 ∈ pj_tbl from (pj_m1 223 rfl rfl))) (fun _ h9 => h9) rfl hin rfl (by decide +kernel) rfl rfl (Nat.le_of_ble_eq_true rfl) ic_Tape_10.1 (fun H locs hP hD hS => ?_)
  have hP : va_P B.1 vwCl [(h0, .inr (7, [.ref q1, .int 0])), (q1, .inl (B.2.2.1.2.2, 400, .inl (fun _ => 0)))] H := hP
  have hD : va_D A [(h0, .inr (7, [.ref q1, .int 0])), (q1, .inl (B.2.2.1.2.2, 400, .inl (fun _ => 0)))] := hD
  refine W.eq (g2 := F0 m 13 ls []) rfl ?_
  exact W.vret hx hb hr (fun t ht hW => ⟨⟨fun k => [q1].getD k 0, rfl, trivial, by rw [ht]; exact hP, hD⟩, hS.F ht⟩) hS.2.2 ic_Tape_13.1
theorem ic_Wool_0 : pj_d cX9_init 0 (.aload_n 0) 1 1 := ⟨by decide +kernel, rfl⟩
theorem ic_Wool_1 : pj_d cX9_init 1 (.invokespecial 3) 3 4 := ⟨by decide +kernel, rfl⟩
theorem ic_Wool_4 : pj_d cX9_init 4 (.aload_n 0) 1 5 := ⟨by decide +kernel, rfl⟩
theorem ic_Wool_5 : pj_d cX9_init 5 (.bipush 20) 2 7 := ⟨by decide +kernel, rfl⟩
theorem ic_Wool_7 : pj_d cX9_init 7 (.newarray .int) 2 9 := ⟨by decide +kernel, rfl⟩
theorem ic_Wool_9 : pj_d cX9_init 9 (.putfield 9) 3 12 := ⟨by decide +kernel, rfl⟩
theorem ic_Wool_12 : pj_d cX9_init 12 (.return_) 1 13 := ⟨by decide +kernel, rfl⟩
theorem wcc_X9 : Cond.code yX9_init cX9_init 1 none ∈ pj_tbl := (pj_m1 139 rfl rfl)
def at_Wool (B : pj_B) (h0 : Nat) (u : Nat → Nat) : va_W := [(h0, .inr (9, [.ref (u 0), .int 0])), ((u 0), .inl (B.2.2.1.1, 20, .inl (fun _ => 0)))]
set_option maxHeartbeats 4000000 in
set_option maxRecDepth 100000 in
theorem cn_Wool {l : Launch} {B : pj_B} {h0 sz : Nat} : Met l yX9_init (pj_ws yX9_init cX9_init 1 none) (pj_rmc 1 1 20) (va_Pc [.ref h0] (pj_cPre B h0 9 [.null, .int 0] sz)) (va_Qv (fun _ : Nat → Nat => True) (fun u t => va_P B.1 vwCl (at_Wool B h0 u) t.heap ∧ va_D (va_A [(h0, .inr (9, [.null, .int 0]))] sz) (at_Wool B h0 u)) (va_A [(h0, .inr (9, [.null, .int 0]))] sz)) 1 20 (va_A [(h0, .inr (9, [.null, .int 0]))] sz) := by
  refine Met.ofW (cc := cX9_init) (maxL := 1) (ret := none) (by decide +kernel) rfl ?_
  intro p e s m args below meth c s₁ B0 hml hv
  obtain ⟨rfl, hsz, hP, hT⟩ := hv
  have hx := B0.exec
  have hb := B0.bytes
  have hr := B0.returns
  have hts0 := atoms_spec (ws := pj_ws yX9_init cX9_init 1 none) B0.pre
  have hts : ∀ w ∈ pj_tbl, w.before _ s = true := fun w hw => hts0 w (List.mem_cons_of_mem _ hw)
  have hown : s.vm.findClass RX9 = some m.cls := findClass_of_methodNamed B0.named
  have hlocks := B0.notSynchronized
  have hin : meth.name = "<init>" := (name_of_methodNamed B0.named B0.method).1
  subst hsz
  have hD : va_D (va_A [(h0, .inr (9, [.null, .int 0]))] s.heap.size) [(h0, .inr (9, [.null, .int 0]))] := pj_D1 (Or.inl ⟨0, _, rfl⟩)
  generalize hAe : va_A [(h0, .inr (9, [.null, .int 0]))] s.heap.size = A at hT hD ⊢
  have hA : ∀ q : Nat, s.heap.size ≤ q → A q := fun q h => by rw [← hAe]; exact Or.inr h
  have hS : va_S A s.heap s.heap [] := va_S.rf
  have hK := hT.1
  have hl := lv_entry ([.ref h0]) (n := 1) (Nat.le_of_ble_eq_true rfl)
  rw [lg_entry_eq]
  generalize (lg_sl ([.ref h0]) ++ List.replicate (1 - (lg_sl ([.ref h0])).length) Slot.unset).toArray = ls at hl ⊢
  have hl : lv_has ls 1 [(0, .ref h0)] := hl
  refine W.eq (g2 := F0 m 0 ls []) rfl ?_
  refine lv_aload_n hx hb ic_Wool_0.1 rfl (lv_at hl 0 rfl) ?_
  refine W.objInit hx hb hown (hts _ (show Cond.methodLink RX9 3 objectInit ∈ pj_tbl from (pj_m1 140 rfl rfl))) (hts _ wo_ini) (hts _ wo_code) rfl (by rw [hml]; exact hl.1) rfl ic_Wool_1.1 (Nat.le_of_ble_eq_true rfl) (Nat.le_of_ble_eq_true rfl) ?_
  refine W.eq (g2 := F0 m 4 ls []) rfl ?_
  refine W.eq (g2 := F0 m 4 ls []) rfl ?_
  refine lv_aload_n hx hb ic_Wool_4.1 rfl (lv_at hl 0 rfl) ?_
  refine lv_bipush (v := 20) hx hb ic_Wool_5.1 (by decide) ?_
  refine pj_newI hx hb (hts _ wa_int) hK hP hD hS hA 20 (by decide) (by decide) (Nat.le_of_ble_eq_true rfl) (Nat.le_of_ble_eq_true rfl) (Nat.le_of_ble_eq_true rfl) ic_Wool_7 (fun q1 H hP hD hS => ?_)
  have hP : va_P B.1 vwCl [(h0, .inr (9, [.null, .int 0])), (q1, .inl (B.2.2.1.1, 20, .inl (fun _ => 0)))] H := hP
  have hD : va_D A [(h0, .inr (9, [.null, .int 0])), (q1, .inl (B.2.2.1.1, 20, .inl (fun _ => 0)))] := hD
  refine W.widen (k := 1) (n := 20) (Nat.le_of_ble_eq_true rfl) (Nat.le_of_ble_eq_true rfl) ?_
  refine va_putF (D := B.1) (ci := 9) (v := .ref q1) (ty := .array .int) (C := RX9) (T := TX9) (N := 2) hx hb hts tinX9 tyX9 tyX9_ok nmX9 hown hK hP hD hS 0 rfl rfl 0 (by decide) (hts _ (show Cond.fieldLink RX9 9 RX9 (TX9 0).2.1 (TX9 0).2.2.1 ∈ pj_tbl from (pj_m1 141 rfl rfl))) (fun _ h9 => h9) rfl hin rfl (by decide +kernel) rfl rfl (Nat.le_of_ble_eq_true rfl) ic_Wool_9.1 (fun H locs hP hD hS => ?_)
  have hP : va_P B.1 vwCl [(h0, .inr (9, [.ref q1, .int 0])), (q1, .inl (B.2.2.1.1, 20, .inl (fun _ => 0)))] H := hP
  have hD : va_D A [(h0, .inr (9, [.ref q1, .int 0])), (q1, .inl (B.2.2.1.1, 20, .inl (fun _ => 0)))] := hD
  refine W.eq (g2 := F0 m 12 ls []) rfl ?_
  exact W.vret hx hb hr (fun t ht hW => ⟨⟨fun k => [q1].getD k 0, rfl, trivial, by rw [ht]; exact hP, hD⟩, hS.F ht⟩) hS.2.2 ic_Wool_12.1
theorem ic_Whole_0 : pj_d cX8_init 0 (.aload_n 0) 1 1 := ⟨by decide +kernel, rfl⟩
theorem ic_Whole_1 : pj_d cX8_init 1 (.invokespecial 3) 3 4 := ⟨by decide +kernel, rfl⟩
theorem ic_Whole_4 : pj_d cX8_init 4 (.aload_n 0) 1 5 := ⟨by decide +kernel, rfl⟩
theorem ic_Whole_5 : pj_d cX8_init 5 (.new 9) 3 8 := ⟨by decide +kernel, rfl⟩
theorem ic_Whole_8 : pj_d cX8_init 8 (.dup) 1 9 := ⟨by decide +kernel, rfl⟩
theorem ic_Whole_9 : pj_d cX8_init 9 (.invokespecial 11) 3 12 := ⟨by decide +kernel, rfl⟩
theorem ic_Whole_12 : pj_d cX8_init 12 (.putfield 12) 3 15 := ⟨by decide +kernel, rfl⟩
theorem ic_Whole_15 : pj_d cX8_init 15 (.aload_n 0) 1 16 := ⟨by decide +kernel, rfl⟩
theorem ic_Whole_16 : pj_d cX8_init 16 (.new 18) 3 19 := ⟨by decide +kernel, rfl⟩
theorem ic_Whole_19 : pj_d cX8_init 19 (.dup) 1 20 := ⟨by decide +kernel, rfl⟩
theorem ic_Whole_20 : pj_d cX8_init 20 (.invokespecial 20) 3 23 := ⟨by decide +kernel, rfl⟩
theorem ic_Whole_23 : pj_d cX8_init 23 (.putfield 21) 3 26 := ⟨by decide +kernel, rfl⟩
theorem ic_Whole_26 : pj_d cX8_init 26 (.aload_n 0) 1 27 := ⟨by decide +kernel, rfl⟩
theorem ic_Whole_27 : pj_d cX8_init 27 (.new 25) 3 30 := ⟨by decide +kernel, rfl⟩
theorem ic_Whole_30 : pj_d cX8_init 30 (.dup) 1 31 := ⟨by decide +kernel, rfl⟩
theorem ic_Whole_31 : pj_d cX8_init 31 (.invokespecial 27) 3 34 := ⟨by decide +kernel, rfl⟩
theorem ic_Whole_34 : pj_d cX8_init 34 (.putfield 28) 3 37 := ⟨by decide +kernel, rfl⟩
theorem ic_Whole_37 : pj_d cX8_init 37 (.aload_n 0) 1 38 := ⟨by decide +kernel, rfl⟩
theorem ic_Whole_38 : pj_d cX8_init 38 (.new 32) 3 41 := ⟨by decide +kernel, rfl⟩
theorem ic_Whole_41 : pj_d cX8_init 41 (.dup) 1 42 := ⟨by decide +kernel, rfl⟩
theorem ic_Whole_42 : pj_d cX8_init 42 (.invokespecial 34) 3 45 := ⟨by decide +kernel, rfl⟩
theorem ic_Whole_45 : pj_d cX8_init 45 (.putfield 35) 3 48 := ⟨by decide +kernel, rfl⟩
theorem ic_Whole_48 : pj_d cX8_init 48 (.return_) 1 49 := ⟨by decide +kernel, rfl⟩
theorem wcc_X8 : Cond.code yX8_init cX8_init 1 none ∈ pj_tbl := (pj_m1 32 rfl rfl)
def at_Whole (B : pj_B) (h0 : Nat) (u : Nat → Nat) : va_W := [(h0, .inr (8, [.ref (u 0), .ref (u 1), .ref (u 4), .ref (u 8), .int 0, .int 0])), ((u 0), .inr (1, [.int 0, .int 0, .int 0, .long 0, .long 0, .long 0, .long 0, .long 0, .long 0, .long 0])), ((u 1), .inr (2, [.ref (u 2), .ref (u 3), .int 0, .int 0, .int 0])), ((u 2), .inl (B.2.2.1.1, 400, .inl (fun _ => 0))), ((u 3), .inl (B.2.2.1.1, 64, .inl (fun _ => 0))), ((u 4), .inr (0, [.ref (u 5), .ref (u 6), .ref (u 7), .int 0])), ((u 5), .inl (B.2.2.1.1, 100, .inl (fun _ => 0))), ((u 6), .inl (B.2.2.1.1, 100, .inl (fun _ => 0))), ((u 7), .inl (B.2.2.1.1, 100, .inl (fun _ => 0))), ((u 8), .inr (9, [.ref (u 9), .int 0])), ((u 9), .inl (B.2.2.1.1, 20, .inl (fun _ => 0)))]
set_option maxHeartbeats 4000000 in
set_option maxRecDepth 100000 in
theorem cn_Whole {l : Launch} {B : pj_B} {h0 sz : Nat} : Met l yX8_init (pj_ws yX8_init cX8_init 1 none) (pj_rmc 2 10 805) (va_Pc [.ref h0] (pj_cPre B h0 8 [.null, .null, .null, .null, .int 0, .int 0] sz)) (va_Qv (fun _ : Nat → Nat => True) (fun u t => va_P B.1 vwCl (at_Whole B h0 u) t.heap ∧ va_D (va_A [(h0, .inr (8, [.null, .null, .null, .null, .int 0, .int 0]))] sz) (at_Whole B h0 u)) (va_A [(h0, .inr (8, [.null, .null, .null, .null, .int 0, .int 0]))] sz)) 10 805 (va_A [(h0, .inr (8, [.null, .null, .null, .null, .int 0, .int 0]))] sz) := by
  refine Met.ofW (cc := cX8_init) (maxL := 1) (ret := none) (by decide +kernel) rfl ?_
  intro p e s m args below meth c s₁ B0 hml hv
  obtain ⟨rfl, hsz, hP, hT⟩ := hv
  have hx := B0.exec
  have hb := B0.bytes
  have hr := B0.returns
  have hts0 := atoms_spec (ws := pj_ws yX8_init cX8_init 1 none) B0.pre
  have hts : ∀ w ∈ pj_tbl, w.before _ s = true := fun w hw => hts0 w (List.mem_cons_of_mem _ hw)
  have hown : s.vm.findClass RX8 = some m.cls := findClass_of_methodNamed B0.named
  have hlocks := B0.notSynchronized
  have hin : meth.name = "<init>" := (name_of_methodNamed B0.named B0.method).1
  subst hsz
  have hD : va_D (va_A [(h0, .inr (8, [.null, .null, .null, .null, .int 0, .int 0]))] s.heap.size) [(h0, .inr (8, [.null, .null, .null, .null, .int 0, .int 0]))] := pj_D1 (Or.inl ⟨0, _, rfl⟩)
  generalize hAe : va_A [(h0, .inr (8, [.null, .null, .null, .null, .int 0, .int 0]))] s.heap.size = A at hT hD ⊢
  have hA : ∀ q : Nat, s.heap.size ≤ q → A q := fun q h => by rw [← hAe]; exact Or.inr h
  have hS : va_S A s.heap s.heap [] := va_S.rf
  have hK := hT.1
  have hl := lv_entry ([.ref h0]) (n := 1) (Nat.le_of_ble_eq_true rfl)
  rw [lg_entry_eq]
  generalize (lg_sl ([.ref h0]) ++ List.replicate (1 - (lg_sl ([.ref h0])).length) Slot.unset).toArray = ls at hl ⊢
  have hl : lv_has ls 1 [(0, .ref h0)] := hl
  refine W.eq (g2 := F0 m 0 ls []) rfl ?_
  refine lv_aload_n hx hb ic_Whole_0.1 rfl (lv_at hl 0 rfl) ?_
  refine W.objInit hx hb hown (hts _ (show Cond.methodLink RX8 3 objectInit ∈ pj_tbl from (pj_m1 33 rfl rfl))) (hts _ wo_ini) (hts _ wo_code) rfl (by rw [hml]; exact hl.1) rfl ic_Whole_1.1 (Nat.le_of_ble_eq_true rfl) (Nat.le_of_ble_eq_true rfl) ?_
  refine W.eq (g2 := F0 m 4 ls []) rfl ?_
  refine W.eq (g2 := F0 m 4 ls []) rfl ?_
  refine lv_aload_n hx hb ic_Whole_4.1 rfl (lv_at hl 0 rfl) ?_
  refine va_new (ci := 1) (fs := [.int 0, .int 0, .int 0, .long 0, .long 0, .long 0, .long 0, .long 0, .long 0, .long 0]) (C := RX1) (T := TX1) (N := 10) hx hb hts tinX1 tyX1 tyX1_ok hown (hts _ (show Cond.classLink RX8 9 RX1 ∈ pj_tbl from (pj_m1 34 rfl rfl))) (hts _ (show Cond.instantiable RX1 10 ∈ pj_tbl from (pj_m1 35 rfl rfl))) (hts _ (show Cond.initialized RX1 ∈ pj_tbl from (pj_m1 3 rfl rfl))) hK hP hD hS hA rfl (by decide) (Nat.le_of_ble_eq_true rfl) (Nat.le_of_ble_eq_true rfl) ic_Whole_5.1 (fun q1 H hP hD hS => ?_)
  have hP : va_P B.1 vwCl [(h0, .inr (8, [.null, .null, .null, .null, .int 0, .int 0])), (q1, .inr (1, [.int 0, .int 0, .int 0, .long 0, .long 0, .long 0, .long 0, .long 0, .long 0, .long 0]))] H := hP
  have hD : va_D A [(h0, .inr (8, [.null, .null, .null, .null, .int 0, .int 0])), (q1, .inr (1, [.int 0, .int 0, .int 0, .long 0, .long 0, .long 0, .long 0, .long 0, .long 0, .long 0]))] := hD
  refine W.widen (k := 1) (n := 10) (Nat.le_of_ble_eq_true rfl) (Nat.le_of_ble_eq_true rfl) ?_
  refine lv_dup hx hb ic_Whole_8.1 rfl ?_
  have hPc := hP.sub (ws' := [(q1, .inr (1, [.int 0, .int 0, .int 0, .long 0, .long 0, .long 0, .long 0, .long 0, .long 0, .long 0]))]) [1] rfl
  have hFc := va_free (wc := [(q1, .inr (1, [.int 0, .int 0, .int 0, .long 0, .long 0, .long 0, .long 0, .long 0, .long 0, .long 0]))]) hD hS hA [1] rfl
  refine va_callv (va_runIN (As := []) (rest := [.ref q1, .ref h0]) ⟨hx, hb, hml, hown, hts⟩ (cn_Fabric (l := l) (B := B) (h0 := q1) (sz := H.size)) ⟨va_cnB 0 hts (pj_good wcc_X1) rfl rfl rfl (hT.2.1 (RX8, 11, yX1_init) (by decide +kernel)) (hts _ (show Cond.initialized RX1 ∈ pj_tbl from (pj_m1 3 rfl rfl))) ⟨(by decide +kernel), (by decide +kernel), pd_v0⟩ ⟨(Nat.le_of_ble_eq_true rfl), (Nat.le_of_ble_eq_true rfl)⟩, rfl, hts _ (show Cond.instanceMethod yX1_init ∈ pj_tbl from (pj_m1 37 rfl rfl))⟩ ⟨pj_cPre.blind, fun U hU hW => ⟨rfl, by rw [hU], by rw [hU]; exact hPc, va_K.moved hW.alike hK, by rw [hU]; exact hT.2.to hW hS hFc⟩⟩ rfl rfl hl.1 rfl (lv_room (Nat.le_of_ble_eq_true rfl)) ic_Whole_9.1 ⟨(Nat.le_of_ble_eq_true rfl), (Nat.le_of_ble_eq_true rfl)⟩) hS (fun q _ h => hFc q h) hFc (fun u9 t H1 locs ht hvm hw hB hz1 hk1 hS => ?_)
  obtain ⟨hP1, hD1⟩ := hB
  rw [ht] at hP1
  obtain ⟨hP, hD⟩ := va_join (wr := [(h0, .inr (8, [.null, .null, .null, .null, .int 0, .int 0]))]) (w1 := [(q1, .inr (1, [.int 0, .int 0, .int 0, .long 0, .long 0, .long 0, .long 0, .long 0, .long 0, .long 0]))]) hP hD [1] [0] rfl rfl (by decide) (by decide) hk1 hFc hP1 hD1
  generalize H1 = H at hP hS ⊢
  have hP : va_P B.1 vwCl [(h0, .inr (8, [.null, .null, .null, .null, .int 0, .int 0])), (q1, .inr (1, [.int 0, .int 0, .int 0, .long 0, .long 0, .long 0, .long 0, .long 0, .long 0, .long 0]))] H := hP
  have hD : va_D A [(h0, .inr (8, [.null, .null, .null, .null, .int 0, .int 0])), (q1, .inr (1, [.int 0, .int 0, .int 0, .long 0, .long 0, .long 0, .long 0, .long 0, .long 0, .long 0]))] := hD
  refine W.widen (k := 1) (n := 10) (Nat.le_of_ble_eq_true rfl) (Nat.le_of_ble_eq_true rfl) ?_
  refine W.eq (g2 := F0 m 12 ls [.ref q1, .ref h0]) rfl ?_
  refine va_putF (D := B.1) (ci := 8) (v := .ref q1) (ty := .object "PulledJersey$Fabric") (C := RX8) (T := TX8) (N := 6) hx hb hts tinX8 tyX8 tyX8_ok nmX8 hown hK hP hD hS 0 rfl rfl 0 (by decide) (hts _ (show Cond.fieldLink RX8 12 RX8 (TX8 0).2.1 (TX8 0).2.2.1 ∈ pj_tbl from (pj_m1 151 rfl rfl))) (fun _ h9 => h9) rfl hin rfl (by decide +kernel) rfl rfl (Nat.le_of_ble_eq_true rfl) ic_Whole_12.1 (fun H locs hP hD hS => ?_)
  have hP : va_P B.1 vwCl [(h0, .inr (8, [.ref q1, .null, .null, .null, .int 0, .int 0])), (q1, .inr (1, [.int 0, .int 0, .int 0, .long 0, .long 0, .long 0, .long 0, .long 0, .long 0, .long 0]))] H := hP
  have hD : va_D A [(h0, .inr (8, [.ref q1, .null, .null, .null, .int 0, .int 0])), (q1, .inr (1, [.int 0, .int 0, .int 0, .long 0, .long 0, .long 0, .long 0, .long 0, .long 0, .long 0]))] := hD
  refine W.eq (g2 := F0 m 15 ls []) rfl ?_
  refine W.eq (g2 := F0 m 15 ls []) rfl ?_
  refine lv_aload_n hx hb ic_Whole_15.1 rfl (lv_at hl 0 rfl) ?_
  refine va_new (ci := 2) (fs := [.null, .null, .int 0, .int 0, .int 0]) (C := RX2) (T := TX2) (N := 5) hx hb hts tinX2 tyX2 tyX2_ok hown (hts _ (show Cond.classLink RX8 18 RX2 ∈ pj_tbl from (pj_m1 86 rfl rfl))) (hts _ (show Cond.instantiable RX2 5 ∈ pj_tbl from (pj_m1 87 rfl rfl))) (hts _ (show Cond.initialized RX2 ∈ pj_tbl from (pj_m1 4 rfl rfl))) hK hP hD hS hA rfl (by decide) (Nat.le_of_ble_eq_true rfl) (Nat.le_of_ble_eq_true rfl) ic_Whole_16.1 (fun q2 H hP hD hS => ?_)
  have hP : va_P B.1 vwCl [(h0, .inr (8, [.ref q1, .null, .null, .null, .int 0, .int 0])), (q1, .inr (1, [.int 0, .int 0, .int 0, .long 0, .long 0, .long 0, .long 0, .long 0, .long 0, .long 0])), (q2, .inr (2, [.null, .null, .int 0, .int 0, .int 0]))] H := hP
  have hD : va_D A [(h0, .inr (8, [.ref q1, .null, .null, .null, .int 0, .int 0])), (q1, .inr (1, [.int 0, .int 0, .int 0, .long 0, .long 0, .long 0, .long 0, .long 0, .long 0, .long 0])), (q2, .inr (2, [.null, .null, .int 0, .int 0, .int 0]))] := hD
  refine W.widen (k := 2) (n := 15) (Nat.le_of_ble_eq_true rfl) (Nat.le_of_ble_eq_true rfl) ?_
  refine lv_dup hx hb ic_Whole_19.1 rfl ?_
  have hPc := hP.sub (ws' := [(q2, .inr (2, [.null, .null, .int 0, .int 0, .int 0]))]) [2] rfl
  have hFc := va_free (wc := [(q2, .inr (2, [.null, .null, .int 0, .int 0, .int 0]))]) hD hS hA [2] rfl
  refine va_callv (va_runIN (As := []) (rest := [.ref q2, .ref h0]) ⟨hx, hb, hml, hown, hts⟩ (cn_Law (l := l) (B := B) (h0 := q2) (sz := H.size)) ⟨va_cnB 0 hts (pj_good wcc_X2) rfl rfl rfl (hT.2.1 (RX8, 20, yX2_init) (by decide +kernel)) (hts _ (show Cond.initialized RX2 ∈ pj_tbl from (pj_m1 4 rfl rfl))) ⟨(by decide +kernel), (by decide +kernel), pd_v0⟩ ⟨(Nat.le_of_ble_eq_true rfl), (Nat.le_of_ble_eq_true rfl)⟩, rfl, hts _ (show Cond.instanceMethod yX2_init ∈ pj_tbl from (pj_m1 89 rfl rfl))⟩ ⟨pj_cPre.blind, fun U hU hW => ⟨rfl, by rw [hU], by rw [hU]; exact hPc, va_K.moved hW.alike hK, by rw [hU]; exact hT.2.to hW hS hFc⟩⟩ rfl rfl hl.1 rfl (lv_room (Nat.le_of_ble_eq_true rfl)) ic_Whole_20.1 ⟨(Nat.le_of_ble_eq_true rfl), (Nat.le_of_ble_eq_true rfl)⟩) hS (fun q _ h => hFc q h) hFc (fun u20 t H1 locs ht hvm hw hB hz1 hk1 hS => ?_)
  obtain ⟨hP1, hD1⟩ := hB
  rw [ht] at hP1
  obtain ⟨hP, hD⟩ := va_join (wr := [(h0, .inr (8, [.ref q1, .null, .null, .null, .int 0, .int 0])), (q1, .inr (1, [.int 0, .int 0, .int 0, .long 0, .long 0, .long 0, .long 0, .long 0, .long 0, .long 0]))]) (w1 := [(q2, .inr (2, [.ref (u20 0), .ref (u20 1), .int 0, .int 0, .int 0])), ((u20 0), .inl (B.2.2.1.1, 400, .inl (fun _ => 0))), ((u20 1), .inl (B.2.2.1.1, 64, .inl (fun _ => 0)))]) hP hD [2] [0, 1] rfl rfl (by decide) (by decide) hk1 hFc hP1 hD1
  generalize H1 = H at hP hS ⊢
  have hP : va_P B.1 vwCl [(h0, .inr (8, [.ref q1, .null, .null, .null, .int 0, .int 0])), (q1, .inr (1, [.int 0, .int 0, .int 0, .long 0, .long 0, .long 0, .long 0, .long 0, .long 0, .long 0])), (q2, .inr (2, [.ref (u20 0), .ref (u20 1), .int 0, .int 0, .int 0])), ((u20 0), .inl (B.2.2.1.1, 400, .inl (fun _ => 0))), ((u20 1), .inl (B.2.2.1.1, 64, .inl (fun _ => 0)))] H := hP
  have hD : va_D A [(h0, .inr (8, [.ref q1, .null, .null, .null, .int 0, .int 0])), (q1, .inr (1, [.int 0, .int 0, .int 0, .long 0, .long 0, .long 0, .long 0, .long 0, .long 0, .long 0])), (q2, .inr (2, [.ref (u20 0), .ref (u20 1), .int 0, .int 0, .int 0])), ((u20 0), .inl (B.2.2.1.1, 400, .inl (fun _ => 0))), ((u20 1), .inl (B.2.2.1.1, 64, .inl (fun _ => 0)))] := hD
  refine W.widen (k := 4) (n := 479) (Nat.le_of_ble_eq_true rfl) (Nat.le_of_ble_eq_true rfl) ?_
  refine W.eq (g2 := F0 m 23 ls [.ref q2, .ref h0]) rfl ?_
  refine va_putF (D := B.1) (ci := 8) (v := .ref q2) (ty := .object "PulledJersey$Law") (C := RX8) (T := TX8) (N := 6) hx hb hts tinX8 tyX8 tyX8_ok nmX8 hown hK hP hD hS 0 rfl rfl 1 (by decide) (hts _ (show Cond.fieldLink RX8 21 RX8 (TX8 1).2.1 (TX8 1).2.2.1 ∈ pj_tbl from (pj_m1 154 rfl rfl))) (fun _ h9 => h9) rfl hin rfl (by decide +kernel) rfl rfl (Nat.le_of_ble_eq_true rfl) ic_Whole_23.1 (fun H locs hP hD hS => ?_)
  have hP : va_P B.1 vwCl [(h0, .inr (8, [.ref q1, .ref q2, .null, .null, .int 0, .int 0])), (q1, .inr (1, [.int 0, .int 0, .int 0, .long 0, .long 0, .long 0, .long 0, .long 0, .long 0, .long 0])), (q2, .inr (2, [.ref (u20 0), .ref (u20 1), .int 0, .int 0, .int 0])), ((u20 0), .inl (B.2.2.1.1, 400, .inl (fun _ => 0))), ((u20 1), .inl (B.2.2.1.1, 64, .inl (fun _ => 0)))] H := hP
  have hD : va_D A [(h0, .inr (8, [.ref q1, .ref q2, .null, .null, .int 0, .int 0])), (q1, .inr (1, [.int 0, .int 0, .int 0, .long 0, .long 0, .long 0, .long 0, .long 0, .long 0, .long 0])), (q2, .inr (2, [.ref (u20 0), .ref (u20 1), .int 0, .int 0, .int 0])), ((u20 0), .inl (B.2.2.1.1, 400, .inl (fun _ => 0))), ((u20 1), .inl (B.2.2.1.1, 64, .inl (fun _ => 0)))] := hD
  refine W.eq (g2 := F0 m 26 ls []) rfl ?_
  refine W.eq (g2 := F0 m 26 ls []) rfl ?_
  refine lv_aload_n hx hb ic_Whole_26.1 rfl (lv_at hl 0 rfl) ?_
  refine va_new (ci := 0) (fs := [.null, .null, .null, .int 0]) (C := RX0) (T := TX0) (N := 4) hx hb hts tinX0 tyX0 tyX0_ok hown (hts _ (show Cond.classLink RX8 25 RX0 ∈ pj_tbl from (pj_m1 113 rfl rfl))) (hts _ (show Cond.instantiable RX0 4 ∈ pj_tbl from (pj_m1 114 rfl rfl))) (hts _ (show Cond.initialized RX0 ∈ pj_tbl from (pj_m1 5 rfl rfl))) hK hP hD hS hA rfl (by decide) (Nat.le_of_ble_eq_true rfl) (Nat.le_of_ble_eq_true rfl) ic_Whole_27.1 (fun q3 H hP hD hS => ?_)
  have hP : va_P B.1 vwCl [(h0, .inr (8, [.ref q1, .ref q2, .null, .null, .int 0, .int 0])), (q1, .inr (1, [.int 0, .int 0, .int 0, .long 0, .long 0, .long 0, .long 0, .long 0, .long 0, .long 0])), (q2, .inr (2, [.ref (u20 0), .ref (u20 1), .int 0, .int 0, .int 0])), ((u20 0), .inl (B.2.2.1.1, 400, .inl (fun _ => 0))), ((u20 1), .inl (B.2.2.1.1, 64, .inl (fun _ => 0))), (q3, .inr (0, [.null, .null, .null, .int 0]))] H := hP
  have hD : va_D A [(h0, .inr (8, [.ref q1, .ref q2, .null, .null, .int 0, .int 0])), (q1, .inr (1, [.int 0, .int 0, .int 0, .long 0, .long 0, .long 0, .long 0, .long 0, .long 0, .long 0])), (q2, .inr (2, [.ref (u20 0), .ref (u20 1), .int 0, .int 0, .int 0])), ((u20 0), .inl (B.2.2.1.1, 400, .inl (fun _ => 0))), ((u20 1), .inl (B.2.2.1.1, 64, .inl (fun _ => 0))), (q3, .inr (0, [.null, .null, .null, .int 0]))] := hD
  refine W.widen (k := 5) (n := 483) (Nat.le_of_ble_eq_true rfl) (Nat.le_of_ble_eq_true rfl) ?_
  refine lv_dup hx hb ic_Whole_30.1 rfl ?_
  have hPc := hP.sub (ws' := [(q3, .inr (0, [.null, .null, .null, .int 0]))]) [5] rfl
  have hFc := va_free (wc := [(q3, .inr (0, [.null, .null, .null, .int 0]))]) hD hS hA [5] rfl
  refine va_callv (va_runIN (As := []) (rest := [.ref q3, .ref h0]) ⟨hx, hb, hml, hown, hts⟩ (cn_Book (l := l) (B := B) (h0 := q3) (sz := H.size)) ⟨va_cnB 0 hts (pj_good wcc_X0) rfl rfl rfl (hT.2.1 (RX8, 27, yX0_init) (by decide +kernel)) (hts _ (show Cond.initialized RX0 ∈ pj_tbl from (pj_m1 5 rfl rfl))) ⟨(by decide +kernel), (by decide +kernel), pd_v0⟩ ⟨(Nat.le_of_ble_eq_true rfl), (Nat.le_of_ble_eq_true rfl)⟩, rfl, hts _ (show Cond.instanceMethod yX0_init ∈ pj_tbl from (pj_m1 116 rfl rfl))⟩ ⟨pj_cPre.blind, fun U hU hW => ⟨rfl, by rw [hU], by rw [hU]; exact hPc, va_K.moved hW.alike hK, by rw [hU]; exact hT.2.to hW hS hFc⟩⟩ rfl rfl hl.1 rfl (lv_room (Nat.le_of_ble_eq_true rfl)) ic_Whole_31.1 ⟨(Nat.le_of_ble_eq_true rfl), (Nat.le_of_ble_eq_true rfl)⟩) hS (fun q _ h => hFc q h) hFc (fun u31 t H1 locs ht hvm hw hB hz1 hk1 hS => ?_)
  obtain ⟨hP1, hD1⟩ := hB
  rw [ht] at hP1
  obtain ⟨hP, hD⟩ := va_join (wr := [(h0, .inr (8, [.ref q1, .ref q2, .null, .null, .int 0, .int 0])), (q1, .inr (1, [.int 0, .int 0, .int 0, .long 0, .long 0, .long 0, .long 0, .long 0, .long 0, .long 0])), (q2, .inr (2, [.ref (u20 0), .ref (u20 1), .int 0, .int 0, .int 0])), ((u20 0), .inl (B.2.2.1.1, 400, .inl (fun _ => 0))), ((u20 1), .inl (B.2.2.1.1, 64, .inl (fun _ => 0)))]) (w1 := [(q3, .inr (0, [.ref (u31 0), .ref (u31 1), .ref (u31 2), .int 0])), ((u31 0), .inl (B.2.2.1.1, 100, .inl (fun _ => 0))), ((u31 1), .inl (B.2.2.1.1, 100, .inl (fun _ => 0))), ((u31 2), .inl (B.2.2.1.1, 100, .inl (fun _ => 0)))]) hP hD [5] [0, 1, 2, 3, 4] rfl rfl (by decide) (by decide) hk1 hFc hP1 hD1
  generalize H1 = H at hP hS ⊢
  have hP : va_P B.1 vwCl [(h0, .inr (8, [.ref q1, .ref q2, .null, .null, .int 0, .int 0])), (q1, .inr (1, [.int 0, .int 0, .int 0, .long 0, .long 0, .long 0, .long 0, .long 0, .long 0, .long 0])), (q2, .inr (2, [.ref (u20 0), .ref (u20 1), .int 0, .int 0, .int 0])), ((u20 0), .inl (B.2.2.1.1, 400, .inl (fun _ => 0))), ((u20 1), .inl (B.2.2.1.1, 64, .inl (fun _ => 0))), (q3, .inr (0, [.ref (u31 0), .ref (u31 1), .ref (u31 2), .int 0])), ((u31 0), .inl (B.2.2.1.1, 100, .inl (fun _ => 0))), ((u31 1), .inl (B.2.2.1.1, 100, .inl (fun _ => 0))), ((u31 2), .inl (B.2.2.1.1, 100, .inl (fun _ => 0)))] H := hP
  have hD : va_D A [(h0, .inr (8, [.ref q1, .ref q2, .null, .null, .int 0, .int 0])), (q1, .inr (1, [.int 0, .int 0, .int 0, .long 0, .long 0, .long 0, .long 0, .long 0, .long 0, .long 0])), (q2, .inr (2, [.ref (u20 0), .ref (u20 1), .int 0, .int 0, .int 0])), ((u20 0), .inl (B.2.2.1.1, 400, .inl (fun _ => 0))), ((u20 1), .inl (B.2.2.1.1, 64, .inl (fun _ => 0))), (q3, .inr (0, [.ref (u31 0), .ref (u31 1), .ref (u31 2), .int 0])), ((u31 0), .inl (B.2.2.1.1, 100, .inl (fun _ => 0))), ((u31 1), .inl (B.2.2.1.1, 100, .inl (fun _ => 0))), ((u31 2), .inl (B.2.2.1.1, 100, .inl (fun _ => 0)))] := hD
  refine W.widen (k := 8) (n := 783) (Nat.le_of_ble_eq_true rfl) (Nat.le_of_ble_eq_true rfl) ?_
  refine W.eq (g2 := F0 m 34 ls [.ref q3, .ref h0]) rfl ?_
  refine va_putF (D := B.1) (ci := 8) (v := .ref q3) (ty := .object "PulledJersey$Book") (C := RX8) (T := TX8) (N := 6) hx hb hts tinX8 tyX8 tyX8_ok nmX8 hown hK hP hD hS 0 rfl rfl 2 (by decide) (hts _ (show Cond.fieldLink RX8 28 RX8 (TX8 2).2.1 (TX8 2).2.2.1 ∈ pj_tbl from (pj_m1 156 rfl rfl))) (fun _ h9 => h9) rfl hin rfl (by decide +kernel) rfl rfl (Nat.le_of_ble_eq_true rfl) ic_Whole_34.1 (fun H locs hP hD hS => ?_)
  have hP : va_P B.1 vwCl [(h0, .inr (8, [.ref q1, .ref q2, .ref q3, .null, .int 0, .int 0])), (q1, .inr (1, [.int 0, .int 0, .int 0, .long 0, .long 0, .long 0, .long 0, .long 0, .long 0, .long 0])), (q2, .inr (2, [.ref (u20 0), .ref (u20 1), .int 0, .int 0, .int 0])), ((u20 0), .inl (B.2.2.1.1, 400, .inl (fun _ => 0))), ((u20 1), .inl (B.2.2.1.1, 64, .inl (fun _ => 0))), (q3, .inr (0, [.ref (u31 0), .ref (u31 1), .ref (u31 2), .int 0])), ((u31 0), .inl (B.2.2.1.1, 100, .inl (fun _ => 0))), ((u31 1), .inl (B.2.2.1.1, 100, .inl (fun _ => 0))), ((u31 2), .inl (B.2.2.1.1, 100, .inl (fun _ => 0)))] H := hP
  have hD : va_D A [(h0, .inr (8, [.ref q1, .ref q2, .ref q3, .null, .int 0, .int 0])), (q1, .inr (1, [.int 0, .int 0, .int 0, .long 0, .long 0, .long 0, .long 0, .long 0, .long 0, .long 0])), (q2, .inr (2, [.ref (u20 0), .ref (u20 1), .int 0, .int 0, .int 0])), ((u20 0), .inl (B.2.2.1.1, 400, .inl (fun _ => 0))), ((u20 1), .inl (B.2.2.1.1, 64, .inl (fun _ => 0))), (q3, .inr (0, [.ref (u31 0), .ref (u31 1), .ref (u31 2), .int 0])), ((u31 0), .inl (B.2.2.1.1, 100, .inl (fun _ => 0))), ((u31 1), .inl (B.2.2.1.1, 100, .inl (fun _ => 0))), ((u31 2), .inl (B.2.2.1.1, 100, .inl (fun _ => 0)))] := hD
  refine W.eq (g2 := F0 m 37 ls []) rfl ?_
  refine W.eq (g2 := F0 m 37 ls []) rfl ?_
  refine lv_aload_n hx hb ic_Whole_37.1 rfl (lv_at hl 0 rfl) ?_
  refine va_new (ci := 9) (fs := [.null, .int 0]) (C := RX9) (T := TX9) (N := 2) hx hb hts tinX9 tyX9 tyX9_ok hown (hts _ (show Cond.classLink RX8 32 RX9 ∈ pj_tbl from (pj_m1 135 rfl rfl))) (hts _ (show Cond.instantiable RX9 2 ∈ pj_tbl from (pj_m1 136 rfl rfl))) (hts _ (show Cond.initialized RX9 ∈ pj_tbl from (pj_m1 6 rfl rfl))) hK hP hD hS hA rfl (by decide) (Nat.le_of_ble_eq_true rfl) (Nat.le_of_ble_eq_true rfl) ic_Whole_38.1 (fun q4 H hP hD hS => ?_)
  have hP : va_P B.1 vwCl [(h0, .inr (8, [.ref q1, .ref q2, .ref q3, .null, .int 0, .int 0])), (q1, .inr (1, [.int 0, .int 0, .int 0, .long 0, .long 0, .long 0, .long 0, .long 0, .long 0, .long 0])), (q2, .inr (2, [.ref (u20 0), .ref (u20 1), .int 0, .int 0, .int 0])), ((u20 0), .inl (B.2.2.1.1, 400, .inl (fun _ => 0))), ((u20 1), .inl (B.2.2.1.1, 64, .inl (fun _ => 0))), (q3, .inr (0, [.ref (u31 0), .ref (u31 1), .ref (u31 2), .int 0])), ((u31 0), .inl (B.2.2.1.1, 100, .inl (fun _ => 0))), ((u31 1), .inl (B.2.2.1.1, 100, .inl (fun _ => 0))), ((u31 2), .inl (B.2.2.1.1, 100, .inl (fun _ => 0))), (q4, .inr (9, [.null, .int 0]))] H := hP
  have hD : va_D A [(h0, .inr (8, [.ref q1, .ref q2, .ref q3, .null, .int 0, .int 0])), (q1, .inr (1, [.int 0, .int 0, .int 0, .long 0, .long 0, .long 0, .long 0, .long 0, .long 0, .long 0])), (q2, .inr (2, [.ref (u20 0), .ref (u20 1), .int 0, .int 0, .int 0])), ((u20 0), .inl (B.2.2.1.1, 400, .inl (fun _ => 0))), ((u20 1), .inl (B.2.2.1.1, 64, .inl (fun _ => 0))), (q3, .inr (0, [.ref (u31 0), .ref (u31 1), .ref (u31 2), .int 0])), ((u31 0), .inl (B.2.2.1.1, 100, .inl (fun _ => 0))), ((u31 1), .inl (B.2.2.1.1, 100, .inl (fun _ => 0))), ((u31 2), .inl (B.2.2.1.1, 100, .inl (fun _ => 0))), (q4, .inr (9, [.null, .int 0]))] := hD
  refine W.widen (k := 9) (n := 785) (Nat.le_of_ble_eq_true rfl) (Nat.le_of_ble_eq_true rfl) ?_
  refine lv_dup hx hb ic_Whole_41.1 rfl ?_
  have hPc := hP.sub (ws' := [(q4, .inr (9, [.null, .int 0]))]) [9] rfl
  have hFc := va_free (wc := [(q4, .inr (9, [.null, .int 0]))]) hD hS hA [9] rfl
  refine va_callv (va_runIN (As := []) (rest := [.ref q4, .ref h0]) ⟨hx, hb, hml, hown, hts⟩ (cn_Wool (l := l) (B := B) (h0 := q4) (sz := H.size)) ⟨va_cnB 0 hts (pj_good wcc_X9) rfl rfl rfl (hT.2.1 (RX8, 34, yX9_init) (by decide +kernel)) (hts _ (show Cond.initialized RX9 ∈ pj_tbl from (pj_m1 6 rfl rfl))) ⟨(by decide +kernel), (by decide +kernel), pd_v0⟩ ⟨(Nat.le_of_ble_eq_true rfl), (Nat.le_of_ble_eq_true rfl)⟩, rfl, hts _ (show Cond.instanceMethod yX9_init ∈ pj_tbl from (pj_m1 138 rfl rfl))⟩ ⟨pj_cPre.blind, fun U hU hW => ⟨rfl, by rw [hU], by rw [hU]; exact hPc, va_K.moved hW.alike hK, by rw [hU]; exact hT.2.to hW hS hFc⟩⟩ rfl rfl hl.1 rfl (lv_room (Nat.le_of_ble_eq_true rfl)) ic_Whole_42.1 ⟨(Nat.le_of_ble_eq_true rfl), (Nat.le_of_ble_eq_true rfl)⟩) hS (fun q _ h => hFc q h) hFc (fun u42 t H1 locs ht hvm hw hB hz1 hk1 hS => ?_)
  obtain ⟨hP1, hD1⟩ := hB
  rw [ht] at hP1
  obtain ⟨hP, hD⟩ := va_join (wr := [(h0, .inr (8, [.ref q1, .ref q2, .ref q3, .null, .int 0, .int 0])), (q1, .inr (1, [.int 0, .int 0, .int 0, .long 0, .long 0, .long 0, .long 0, .long 0, .long 0, .long 0])), (q2, .inr (2, [.ref (u20 0), .ref (u20 1), .int 0, .int 0, .int 0])), ((u20 0), .inl (B.2.2.1.1, 400, .inl (fun _ => 0))), ((u20 1), .inl (B.2.2.1.1, 64, .inl (fun _ => 0))), (q3, .inr (0, [.ref (u31 0), .ref (u31 1), .ref (u31 2), .int 0])), ((u31 0), .inl (B.2.2.1.1, 100, .inl (fun _ => 0))), ((u31 1), .inl (B.2.2.1.1, 100, .inl (fun _ => 0))), ((u31 2), .inl (B.2.2.1.1, 100, .inl (fun _ => 0)))]) (w1 := [(q4, .inr (9, [.ref (u42 0), .int 0])), ((u42 0), .inl (B.2.2.1.1, 20, .inl (fun _ => 0)))]) hP hD [9] [0, 1, 2, 3, 4, 5, 6, 7, 8] rfl rfl (by decide) (by decide) hk1 hFc hP1 hD1
  generalize H1 = H at hP hS ⊢
  have hP : va_P B.1 vwCl [(h0, .inr (8, [.ref q1, .ref q2, .ref q3, .null, .int 0, .int 0])), (q1, .inr (1, [.int 0, .int 0, .int 0, .long 0, .long 0, .long 0, .long 0, .long 0, .long 0, .long 0])), (q2, .inr (2, [.ref (u20 0), .ref (u20 1), .int 0, .int 0, .int 0])), ((u20 0), .inl (B.2.2.1.1, 400, .inl (fun _ => 0))), ((u20 1), .inl (B.2.2.1.1, 64, .inl (fun _ => 0))), (q3, .inr (0, [.ref (u31 0), .ref (u31 1), .ref (u31 2), .int 0])), ((u31 0), .inl (B.2.2.1.1, 100, .inl (fun _ => 0))), ((u31 1), .inl (B.2.2.1.1, 100, .inl (fun _ => 0))), ((u31 2), .inl (B.2.2.1.1, 100, .inl (fun _ => 0))), (q4, .inr (9, [.ref (u42 0), .int 0])), ((u42 0), .inl (B.2.2.1.1, 20, .inl (fun _ => 0)))] H := hP
  have hD : va_D A [(h0, .inr (8, [.ref q1, .ref q2, .ref q3, .null, .int 0, .int 0])), (q1, .inr (1, [.int 0, .int 0, .int 0, .long 0, .long 0, .long 0, .long 0, .long 0, .long 0, .long 0])), (q2, .inr (2, [.ref (u20 0), .ref (u20 1), .int 0, .int 0, .int 0])), ((u20 0), .inl (B.2.2.1.1, 400, .inl (fun _ => 0))), ((u20 1), .inl (B.2.2.1.1, 64, .inl (fun _ => 0))), (q3, .inr (0, [.ref (u31 0), .ref (u31 1), .ref (u31 2), .int 0])), ((u31 0), .inl (B.2.2.1.1, 100, .inl (fun _ => 0))), ((u31 1), .inl (B.2.2.1.1, 100, .inl (fun _ => 0))), ((u31 2), .inl (B.2.2.1.1, 100, .inl (fun _ => 0))), (q4, .inr (9, [.ref (u42 0), .int 0])), ((u42 0), .inl (B.2.2.1.1, 20, .inl (fun _ => 0)))] := hD
  refine W.widen (k := 10) (n := 805) (Nat.le_of_ble_eq_true rfl) (Nat.le_of_ble_eq_true rfl) ?_
  refine W.eq (g2 := F0 m 45 ls [.ref q4, .ref h0]) rfl ?_
  refine va_putF (D := B.1) (ci := 8) (v := .ref q4) (ty := .object "PulledJersey$Wool") (C := RX8) (T := TX8) (N := 6) hx hb hts tinX8 tyX8 tyX8_ok nmX8 hown hK hP hD hS 0 rfl rfl 3 (by decide) (hts _ (show Cond.fieldLink RX8 35 RX8 (TX8 3).2.1 (TX8 3).2.2.1 ∈ pj_tbl from (pj_m1 159 rfl rfl))) (fun _ h9 => h9) rfl hin rfl (by decide +kernel) rfl rfl (Nat.le_of_ble_eq_true rfl) ic_Whole_45.1 (fun H locs hP hD hS => ?_)
  have hP : va_P B.1 vwCl [(h0, .inr (8, [.ref q1, .ref q2, .ref q3, .ref q4, .int 0, .int 0])), (q1, .inr (1, [.int 0, .int 0, .int 0, .long 0, .long 0, .long 0, .long 0, .long 0, .long 0, .long 0])), (q2, .inr (2, [.ref (u20 0), .ref (u20 1), .int 0, .int 0, .int 0])), ((u20 0), .inl (B.2.2.1.1, 400, .inl (fun _ => 0))), ((u20 1), .inl (B.2.2.1.1, 64, .inl (fun _ => 0))), (q3, .inr (0, [.ref (u31 0), .ref (u31 1), .ref (u31 2), .int 0])), ((u31 0), .inl (B.2.2.1.1, 100, .inl (fun _ => 0))), ((u31 1), .inl (B.2.2.1.1, 100, .inl (fun _ => 0))), ((u31 2), .inl (B.2.2.1.1, 100, .inl (fun _ => 0))), (q4, .inr (9, [.ref (u42 0), .int 0])), ((u42 0), .inl (B.2.2.1.1, 20, .inl (fun _ => 0)))] H := hP
  have hD : va_D A [(h0, .inr (8, [.ref q1, .ref q2, .ref q3, .ref q4, .int 0, .int 0])), (q1, .inr (1, [.int 0, .int 0, .int 0, .long 0, .long 0, .long 0, .long 0, .long 0, .long 0, .long 0])), (q2, .inr (2, [.ref (u20 0), .ref (u20 1), .int 0, .int 0, .int 0])), ((u20 0), .inl (B.2.2.1.1, 400, .inl (fun _ => 0))), ((u20 1), .inl (B.2.2.1.1, 64, .inl (fun _ => 0))), (q3, .inr (0, [.ref (u31 0), .ref (u31 1), .ref (u31 2), .int 0])), ((u31 0), .inl (B.2.2.1.1, 100, .inl (fun _ => 0))), ((u31 1), .inl (B.2.2.1.1, 100, .inl (fun _ => 0))), ((u31 2), .inl (B.2.2.1.1, 100, .inl (fun _ => 0))), (q4, .inr (9, [.ref (u42 0), .int 0])), ((u42 0), .inl (B.2.2.1.1, 20, .inl (fun _ => 0)))] := hD
  refine W.eq (g2 := F0 m 48 ls []) rfl ?_
  exact W.vret hx hb hr (fun t ht hW => ⟨⟨fun k => [q1, q2, (u20 0), (u20 1), q3, (u31 0), (u31 1), (u31 2), q4, (u42 0)].getD k 0, rfl, trivial, by rw [ht]; exact hP, hD⟩, hS.F ht⟩) hS.2.2 ic_Whole_48.1
