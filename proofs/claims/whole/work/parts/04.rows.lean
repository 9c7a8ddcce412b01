theorem pj_iconst {B : pj_B} {A : Nat → Prop} {K : pj_K} {cc : ByteArray} {nL : Nat} {own : String} {lvl : Nat} {H : Heap} {lo : List Loc} {ls : Array Slot} {st : List Value} {pc q : Nat} {n : Int} {v : Int32} (C : pj_C B A K cc nL own lvl) (d : pj_d cc pc (.iconst n) 1 q) (hv : Int32.ofInt n = v) (k : pj_W K H lo q ls (.int v :: st)) : pj_W K H lo pc ls (st) := by
  obtain ⟨d, rfl⟩ := d
  exact lv_iconst C.1 C.2.1 d hv k
theorem pj_bipush {B : pj_B} {A : Nat → Prop} {K : pj_K} {cc : ByteArray} {nL : Nat} {own : String} {lvl : Nat} {H : Heap} {lo : List Loc} {ls : Array Slot} {st : List Value} {pc q : Nat} {n : Int} {v : Int32} (C : pj_C B A K cc nL own lvl) (d : pj_d cc pc (.bipush n) 2 q) (hv : (Int8.ofInt n).toInt32 = v) (k : pj_W K H lo q ls (.int v :: st)) : pj_W K H lo pc ls (st) := by
  obtain ⟨d, rfl⟩ := d
  exact lv_bipush C.1 C.2.1 d hv k
theorem pj_sipush {B : pj_B} {A : Nat → Prop} {K : pj_K} {cc : ByteArray} {nL : Nat} {own : String} {lvl : Nat} {H : Heap} {lo : List Loc} {ls : Array Slot} {st : List Value} {pc q : Nat} {n : Int} {v : Int32} (C : pj_C B A K cc nL own lvl) (d : pj_d cc pc (.sipush n) 3 q) (hv : (Int16.ofInt n).toInt32 = v) (k : pj_W K H lo q ls (.int v :: st)) : pj_W K H lo pc ls (st) := by
  obtain ⟨d, rfl⟩ := d
  exact lv_sipush C.1 C.2.1 d hv k
theorem pj_lconst {B : pj_B} {A : Nat → Prop} {K : pj_K} {cc : ByteArray} {nL : Nat} {own : String} {lvl : Nat} {H : Heap} {lo : List Loc} {ls : Array Slot} {st : List Value} {pc q : Nat} {n : Fin 2} {v : Int64} (C : pj_C B A K cc nL own lvl) (d : pj_d cc pc (.lconst n) 1 q) (hv : Int64.ofNat (n : Nat) = v) (k : pj_W K H lo q ls (.long v :: st)) : pj_W K H lo pc ls (st) := by
  obtain ⟨d, rfl⟩ := d
  exact lv_lconst C.1 C.2.1 d hv k
theorem pj_iload_n {B : pj_B} {A : Nat → Prop} {K : pj_K} {cc : ByteArray} {nL : Nat} {own : String} {lvl : Nat} {H : Heap} {lo : List Loc} {ls : Array Slot} {st : List Value} {pc q : Nat} {k0 : Fin 4} {i : Nat} {x : Int32} {lv : List (Nat × Value)} (C : pj_C B A K cc nL own lvl) (d : pj_d cc pc (.iload_n k0) 1 q) (hi : (k0 : Nat) = i) (hl : lv_has ls nL lv) (j : Nat) (hj : lv[j]? = some (i, .int x)) (k : pj_W K H lo q ls (.int x :: st)) : pj_W K H lo pc ls (st) := by
  obtain ⟨d, rfl⟩ := d
  exact lv_iload_n C.1 C.2.1 d hi (lv_at hl j hj) k
theorem pj_iload {B : pj_B} {A : Nat → Prop} {K : pj_K} {cc : ByteArray} {nL : Nat} {own : String} {lvl : Nat} {H : Heap} {lo : List Loc} {ls : Array Slot} {st : List Value} {pc q : Nat} {i : Nat} {x : Int32} {lv : List (Nat × Value)} (C : pj_C B A K cc nL own lvl) (d : pj_d cc pc (.iload i) 2 q) (hl : lv_has ls nL lv) (j : Nat) (hj : lv[j]? = some (i, .int x)) (k : pj_W K H lo q ls (.int x :: st)) : pj_W K H lo pc ls (st) := by
  obtain ⟨d, rfl⟩ := d
  exact lv_iload C.1 C.2.1 d (lv_at hl j hj) k
theorem pj_istore_n {B : pj_B} {A : Nat → Prop} {K : pj_K} {cc : ByteArray} {nL : Nat} {own : String} {lvl : Nat} {H : Heap} {lo : List Loc} {ls : Array Slot} {st : List Value} {pc q : Nat} {k0 : Fin 4} {i : Nat} {x : Int32} {lv : List (Nat × Value)} (lv2 : List (Nat × Value)) (C : pj_C B A K cc nL own lvl) (d : pj_d cc pc (.istore_n k0) 1 q) (hi : (k0 : Nat) = i) (hl : lv_has ls nL lv) (hn : i < nL) (hl2 : (i, Value.int x) :: lv.filter (fun q => !(q.1 == i) && !(q.1 + 1 == i && q.2.category == 2)) = lv2) (k : ∀ ls2 : Array Slot, lv_has ls2 nL lv2 → pj_W K H lo q ls2 st) : pj_W K H lo pc ls (.int x :: st) := by
  obtain ⟨d, rfl⟩ := d
  exact lv_istore_n C.1 C.2.1 d hi hl hn hl2 k
theorem pj_istb_n {B : pj_B} {A : Nat → Prop} {K : pj_K} {cc : ByteArray} {nL : Nat} {own : String} {lvl : Nat} {H : Heap} {lo : List Loc} {ls : Array Slot} {st : List Value} {pc q : Nat} {ρ : Type} {r : ρ} {k0 : Fin 4} {i : Nat} {x : Int32} {f : Int32 → Option ρ} {lv : List (Nat × Value)} (lv2 : List (Nat × Value)) (C : pj_C B A K cc nL own lvl) (h : pj_b x f = some r) (d : pj_d cc pc (.istore_n k0) 1 q) (hi : (k0 : Nat) = i) (hl : lv_has ls nL lv) (hn : i < nL) (hl2 : lv.filter (fun q => !(q.1 == i) && !(q.1 + 1 == i && q.2.category == 2)) = lv2) (k : ∀ (y : Int32) (ls2 : Array Slot), f y = some r → lv_has ls2 nL ((i, Value.int y) :: lv2) → pj_W K H lo q ls2 st) : pj_W K H lo pc ls (.int x :: st) := pj_istore_n _ C d hi hl hn (by rw [hl2]) (fun ls2 hl3 => k x ls2 h hl3)
theorem pj_istore {B : pj_B} {A : Nat → Prop} {K : pj_K} {cc : ByteArray} {nL : Nat} {own : String} {lvl : Nat} {H : Heap} {lo : List Loc} {ls : Array Slot} {st : List Value} {pc q : Nat} {i : Nat} {x : Int32} {lv : List (Nat × Value)} (lv2 : List (Nat × Value)) (C : pj_C B A K cc nL own lvl) (d : pj_d cc pc (.istore i) 2 q) (hl : lv_has ls nL lv) (hn : i < nL) (hl2 : (i, Value.int x) :: lv.filter (fun q => !(q.1 == i) && !(q.1 + 1 == i && q.2.category == 2)) = lv2) (k : ∀ ls2 : Array Slot, lv_has ls2 nL lv2 → pj_W K H lo q ls2 st) : pj_W K H lo pc ls (.int x :: st) := by
  obtain ⟨d, rfl⟩ := d
  exact lv_istore C.1 C.2.1 d hl hn hl2 k
theorem pj_istb {B : pj_B} {A : Nat → Prop} {K : pj_K} {cc : ByteArray} {nL : Nat} {own : String} {lvl : Nat} {H : Heap} {lo : List Loc} {ls : Array Slot} {st : List Value} {pc q : Nat} {ρ : Type} {r : ρ} {i : Nat} {x : Int32} {f : Int32 → Option ρ} {lv : List (Nat × Value)} (lv2 : List (Nat × Value)) (C : pj_C B A K cc nL own lvl) (h : pj_b x f = some r) (d : pj_d cc pc (.istore i) 2 q) (hl : lv_has ls nL lv) (hn : i < nL) (hl2 : lv.filter (fun q => !(q.1 == i) && !(q.1 + 1 == i && q.2.category == 2)) = lv2) (k : ∀ (y : Int32) (ls2 : Array Slot), f y = some r → lv_has ls2 nL ((i, Value.int y) :: lv2) → pj_W K H lo q ls2 st) : pj_W K H lo pc ls (.int x :: st) := pj_istore _ C d hl hn (by rw [hl2]) (fun ls2 hl3 => k x ls2 h hl3)
theorem pj_lload_n {B : pj_B} {A : Nat → Prop} {K : pj_K} {cc : ByteArray} {nL : Nat} {own : String} {lvl : Nat} {H : Heap} {lo : List Loc} {ls : Array Slot} {st : List Value} {pc q : Nat} {k0 : Fin 4} {i : Nat} {x : Int64} {lv : List (Nat × Value)} (C : pj_C B A K cc nL own lvl) (d : pj_d cc pc (.lload_n k0) 1 q) (hi : (k0 : Nat) = i) (hl : lv_has ls nL lv) (j : Nat) (hj : lv[j]? = some (i, .long x)) (k : pj_W K H lo q ls (.long x :: st)) : pj_W K H lo pc ls (st) := by
  obtain ⟨d, rfl⟩ := d
  exact lv_lload_n C.1 C.2.1 d hi (lv_at hl j hj) k
theorem pj_lload {B : pj_B} {A : Nat → Prop} {K : pj_K} {cc : ByteArray} {nL : Nat} {own : String} {lvl : Nat} {H : Heap} {lo : List Loc} {ls : Array Slot} {st : List Value} {pc q : Nat} {i : Nat} {x : Int64} {lv : List (Nat × Value)} (C : pj_C B A K cc nL own lvl) (d : pj_d cc pc (.lload i) 2 q) (hl : lv_has ls nL lv) (j : Nat) (hj : lv[j]? = some (i, .long x)) (k : pj_W K H lo q ls (.long x :: st)) : pj_W K H lo pc ls (st) := by
  obtain ⟨d, rfl⟩ := d
  exact lv_lload C.1 C.2.1 d (lv_at hl j hj) k
theorem pj_lstore_n {B : pj_B} {A : Nat → Prop} {K : pj_K} {cc : ByteArray} {nL : Nat} {own : String} {lvl : Nat} {H : Heap} {lo : List Loc} {ls : Array Slot} {st : List Value} {pc q : Nat} {k0 : Fin 4} {i : Nat} {x : Int64} {lv : List (Nat × Value)} (lv2 : List (Nat × Value)) (C : pj_C B A K cc nL own lvl) (d : pj_d cc pc (.lstore_n k0) 1 q) (hi : (k0 : Nat) = i) (hl : lv_has ls nL lv) (hn : i + 1 < nL) (hl2 : (i, Value.long x) :: lv.filter (fun q => !(q.1 == i) && (!(q.1 == i + 1) && !(q.1 + 1 == i && q.2.category == 2))) = lv2) (k : ∀ ls2 : Array Slot, lv_has ls2 nL lv2 → pj_W K H lo q ls2 st) : pj_W K H lo pc ls (.long x :: st) := by
  obtain ⟨d, rfl⟩ := d
  exact lv_lstore_n C.1 C.2.1 d hi hl hn hl2 k
theorem pj_lstb_n {B : pj_B} {A : Nat → Prop} {K : pj_K} {cc : ByteArray} {nL : Nat} {own : String} {lvl : Nat} {H : Heap} {lo : List Loc} {ls : Array Slot} {st : List Value} {pc q : Nat} {ρ : Type} {r : ρ} {k0 : Fin 4} {i : Nat} {x : Int64} {f : Int64 → Option ρ} {lv : List (Nat × Value)} (lv2 : List (Nat × Value)) (C : pj_C B A K cc nL own lvl) (h : pj_b x f = some r) (d : pj_d cc pc (.lstore_n k0) 1 q) (hi : (k0 : Nat) = i) (hl : lv_has ls nL lv) (hn : i + 1 < nL) (hl2 : lv.filter (fun q => !(q.1 == i) && (!(q.1 == i + 1) && !(q.1 + 1 == i && q.2.category == 2))) = lv2) (k : ∀ (y : Int64) (ls2 : Array Slot), f y = some r → lv_has ls2 nL ((i, Value.long y) :: lv2) → pj_W K H lo q ls2 st) : pj_W K H lo pc ls (.long x :: st) := pj_lstore_n _ C d hi hl hn (by rw [hl2]) (fun ls2 hl3 => k x ls2 h hl3)
theorem pj_lstore {B : pj_B} {A : Nat → Prop} {K : pj_K} {cc : ByteArray} {nL : Nat} {own : String} {lvl : Nat} {H : Heap} {lo : List Loc} {ls : Array Slot} {st : List Value} {pc q : Nat} {i : Nat} {x : Int64} {lv : List (Nat × Value)} (lv2 : List (Nat × Value)) (C : pj_C B A K cc nL own lvl) (d : pj_d cc pc (.lstore i) 2 q) (hl : lv_has ls nL lv) (hn : i + 1 < nL) (hl2 : (i, Value.long x) :: lv.filter (fun q => !(q.1 == i) && (!(q.1 == i + 1) && !(q.1 + 1 == i && q.2.category == 2))) = lv2) (k : ∀ ls2 : Array Slot, lv_has ls2 nL lv2 → pj_W K H lo q ls2 st) : pj_W K H lo pc ls (.long x :: st) := by
  obtain ⟨d, rfl⟩ := d
  exact lv_lstore C.1 C.2.1 d hl hn hl2 k
theorem pj_lstb {B : pj_B} {A : Nat → Prop} {K : pj_K} {cc : ByteArray} {nL : Nat} {own : String} {lvl : Nat} {H : Heap} {lo : List Loc} {ls : Array Slot} {st : List Value} {pc q : Nat} {ρ : Type} {r : ρ} {i : Nat} {x : Int64} {f : Int64 → Option ρ} {lv : List (Nat × Value)} (lv2 : List (Nat × Value)) (C : pj_C B A K cc nL own lvl) (h : pj_b x f = some r) (d : pj_d cc pc (.lstore i) 2 q) (hl : lv_has ls nL lv) (hn : i + 1 < nL) (hl2 : lv.filter (fun q => !(q.1 == i) && (!(q.1 == i + 1) && !(q.1 + 1 == i && q.2.category == 2))) = lv2) (k : ∀ (y : Int64) (ls2 : Array Slot), f y = some r → lv_has ls2 nL ((i, Value.long y) :: lv2) → pj_W K H lo q ls2 st) : pj_W K H lo pc ls (.long x :: st) := pj_lstore _ C d hl hn (by rw [hl2]) (fun ls2 hl3 => k x ls2 h hl3)
theorem pj_aload_n {B : pj_B} {A : Nat → Prop} {K : pj_K} {cc : ByteArray} {nL : Nat} {own : String} {lvl : Nat} {H : Heap} {lo : List Loc} {ls : Array Slot} {st : List Value} {pc q : Nat} {k0 : Fin 4} {i : Nat} {x : Nat} {lv : List (Nat × Value)} (C : pj_C B A K cc nL own lvl) (d : pj_d cc pc (.aload_n k0) 1 q) (hi : (k0 : Nat) = i) (hl : lv_has ls nL lv) (j : Nat) (hj : lv[j]? = some (i, .ref x)) (k : pj_W K H lo q ls (.ref x :: st)) : pj_W K H lo pc ls (st) := by
  obtain ⟨d, rfl⟩ := d
  exact lv_aload_n C.1 C.2.1 d hi (lv_at hl j hj) k
theorem pj_aload {B : pj_B} {A : Nat → Prop} {K : pj_K} {cc : ByteArray} {nL : Nat} {own : String} {lvl : Nat} {H : Heap} {lo : List Loc} {ls : Array Slot} {st : List Value} {pc q : Nat} {i : Nat} {x : Nat} {lv : List (Nat × Value)} (C : pj_C B A K cc nL own lvl) (d : pj_d cc pc (.aload i) 2 q) (hl : lv_has ls nL lv) (j : Nat) (hj : lv[j]? = some (i, .ref x)) (k : pj_W K H lo q ls (.ref x :: st)) : pj_W K H lo pc ls (st) := by
  obtain ⟨d, rfl⟩ := d
  exact lv_aload C.1 C.2.1 d (lv_at hl j hj) k
theorem pj_astore_n {B : pj_B} {A : Nat → Prop} {K : pj_K} {cc : ByteArray} {nL : Nat} {own : String} {lvl : Nat} {H : Heap} {lo : List Loc} {ls : Array Slot} {st : List Value} {pc q : Nat} {k0 : Fin 4} {i : Nat} {x : Nat} {lv : List (Nat × Value)} (lv2 : List (Nat × Value)) (C : pj_C B A K cc nL own lvl) (d : pj_d cc pc (.astore_n k0) 1 q) (hi : (k0 : Nat) = i) (hl : lv_has ls nL lv) (hn : i < nL) (hl2 : (i, Value.ref x) :: lv.filter (fun q => !(q.1 == i) && !(q.1 + 1 == i && q.2.category == 2)) = lv2) (k : ∀ ls2 : Array Slot, lv_has ls2 nL lv2 → pj_W K H lo q ls2 st) : pj_W K H lo pc ls (.ref x :: st) := by
  obtain ⟨d, rfl⟩ := d
  exact lv_astore_n C.1 C.2.1 d hi hl hn hl2 k
theorem pj_astore {B : pj_B} {A : Nat → Prop} {K : pj_K} {cc : ByteArray} {nL : Nat} {own : String} {lvl : Nat} {H : Heap} {lo : List Loc} {ls : Array Slot} {st : List Value} {pc q : Nat} {i : Nat} {x : Nat} {lv : List (Nat × Value)} (lv2 : List (Nat × Value)) (C : pj_C B A K cc nL own lvl) (d : pj_d cc pc (.astore i) 2 q) (hl : lv_has ls nL lv) (hn : i < nL) (hl2 : (i, Value.ref x) :: lv.filter (fun q => !(q.1 == i) && !(q.1 + 1 == i && q.2.category == 2)) = lv2) (k : ∀ ls2 : Array Slot, lv_has ls2 nL lv2 → pj_W K H lo q ls2 st) : pj_W K H lo pc ls (.ref x :: st) := by
  obtain ⟨d, rfl⟩ := d
  exact lv_astore C.1 C.2.1 d hl hn hl2 k
theorem pj_iinc {B : pj_B} {A : Nat → Prop} {K : pj_K} {cc : ByteArray} {nL : Nat} {own : String} {lvl : Nat} {H : Heap} {lo : List Loc} {ls : Array Slot} {st : List Value} {pc q : Nat} {ρ : Type} {r : ρ} {i : Nat} {n : Int} {x v : Int32} {f : Int32 → Option ρ} {lv : List (Nat × Value)} (lv2 : List (Nat × Value)) (C : pj_C B A K cc nL own lvl) (h : pj_b (x + v) f = some r) (hv : Int32.ofInt n = v) (d : pj_d cc pc (.iinc i n) 3 q) (hl : lv_has ls nL lv) (j : Nat) (hj : lv[j]? = some (i, .int x)) (hn : i < nL) (hl2 : lv.filter (fun q => !(q.1 == i) && !(q.1 + 1 == i && q.2.category == 2)) = lv2) (k : ∀ (y : Int32) (ls2 : Array Slot), f y = some r → lv_has ls2 nL ((i, Value.int y) :: lv2) → pj_W K H lo q ls2 st) : pj_W K H lo pc ls st := by
  obtain ⟨d, rfl⟩ := d
  subst hv
  exact lv_iinc C.1 C.2.1 d hl hj rfl hn rfl (fun ls2 hl3 => k _ ls2 h (by rw [← hl2]; exact hl3))
theorem pj_iadd {B : pj_B} {A : Nat → Prop} {K : pj_K} {cc : ByteArray} {nL : Nat} {own : String} {lvl : Nat} {H : Heap} {lo : List Loc} {ls : Array Slot} {st : List Value} {pc q : Nat} {x y : Int32} (C : pj_C B A K cc nL own lvl) (d : pj_d cc pc (.iadd) 1 q) (k : pj_W K H lo q ls (.int (x + y) :: st)) : pj_W K H lo pc ls (.int y :: .int x :: st) := by
  obtain ⟨d, rfl⟩ := d
  exact lv_iadd C.1 C.2.1 d k
theorem pj_isub {B : pj_B} {A : Nat → Prop} {K : pj_K} {cc : ByteArray} {nL : Nat} {own : String} {lvl : Nat} {H : Heap} {lo : List Loc} {ls : Array Slot} {st : List Value} {pc q : Nat} {x y : Int32} (C : pj_C B A K cc nL own lvl) (d : pj_d cc pc (.isub) 1 q) (k : pj_W K H lo q ls (.int (x - y) :: st)) : pj_W K H lo pc ls (.int y :: .int x :: st) := by
  obtain ⟨d, rfl⟩ := d
  exact lv_isub C.1 C.2.1 d k
theorem pj_imul {B : pj_B} {A : Nat → Prop} {K : pj_K} {cc : ByteArray} {nL : Nat} {own : String} {lvl : Nat} {H : Heap} {lo : List Loc} {ls : Array Slot} {st : List Value} {pc q : Nat} {x y : Int32} (C : pj_C B A K cc nL own lvl) (d : pj_d cc pc (.imul) 1 q) (k : pj_W K H lo q ls (.int (x * y) :: st)) : pj_W K H lo pc ls (.int y :: .int x :: st) := by
  obtain ⟨d, rfl⟩ := d
  exact lv_imul C.1 C.2.1 d k
theorem pj_iand {B : pj_B} {A : Nat → Prop} {K : pj_K} {cc : ByteArray} {nL : Nat} {own : String} {lvl : Nat} {H : Heap} {lo : List Loc} {ls : Array Slot} {st : List Value} {pc q : Nat} {x y : Int32} (C : pj_C B A K cc nL own lvl) (d : pj_d cc pc (.iand) 1 q) (k : pj_W K H lo q ls (.int (x &&& y) :: st)) : pj_W K H lo pc ls (.int y :: .int x :: st) := by
  obtain ⟨d, rfl⟩ := d
  exact lv_iand C.1 C.2.1 d k
theorem pj_ior {B : pj_B} {A : Nat → Prop} {K : pj_K} {cc : ByteArray} {nL : Nat} {own : String} {lvl : Nat} {H : Heap} {lo : List Loc} {ls : Array Slot} {st : List Value} {pc q : Nat} {x y : Int32} (C : pj_C B A K cc nL own lvl) (d : pj_d cc pc (.ior) 1 q) (k : pj_W K H lo q ls (.int (x ||| y) :: st)) : pj_W K H lo pc ls (.int y :: .int x :: st) := by
  obtain ⟨d, rfl⟩ := d
  exact lv_ior C.1 C.2.1 d k
theorem pj_ixor {B : pj_B} {A : Nat → Prop} {K : pj_K} {cc : ByteArray} {nL : Nat} {own : String} {lvl : Nat} {H : Heap} {lo : List Loc} {ls : Array Slot} {st : List Value} {pc q : Nat} {x y : Int32} (C : pj_C B A K cc nL own lvl) (d : pj_d cc pc (.ixor) 1 q) (k : pj_W K H lo q ls (.int (x ^^^ y) :: st)) : pj_W K H lo pc ls (.int y :: .int x :: st) := by
  obtain ⟨d, rfl⟩ := d
  exact lv_ixor C.1 C.2.1 d k
theorem pj_ishl {B : pj_B} {A : Nat → Prop} {K : pj_K} {cc : ByteArray} {nL : Nat} {own : String} {lvl : Nat} {H : Heap} {lo : List Loc} {ls : Array Slot} {st : List Value} {pc q : Nat} {x y : Int32} (C : pj_C B A K cc nL own lvl) (d : pj_d cc pc (.ishl) 1 q) (k : pj_W K H lo q ls (.int (x <<< (y &&& 31)) :: st)) : pj_W K H lo pc ls (.int y :: .int x :: st) := by
  obtain ⟨d, rfl⟩ := d
  exact lv_ishl C.1 C.2.1 d k
theorem pj_ishr {B : pj_B} {A : Nat → Prop} {K : pj_K} {cc : ByteArray} {nL : Nat} {own : String} {lvl : Nat} {H : Heap} {lo : List Loc} {ls : Array Slot} {st : List Value} {pc q : Nat} {x y : Int32} (C : pj_C B A K cc nL own lvl) (d : pj_d cc pc (.ishr) 1 q) (k : pj_W K H lo q ls (.int (x >>> (y &&& 31)) :: st)) : pj_W K H lo pc ls (.int y :: .int x :: st) := by
  obtain ⟨d, rfl⟩ := d
  exact lv_ishr C.1 C.2.1 d k
theorem pj_iushr {B : pj_B} {A : Nat → Prop} {K : pj_K} {cc : ByteArray} {nL : Nat} {own : String} {lvl : Nat} {H : Heap} {lo : List Loc} {ls : Array Slot} {st : List Value} {pc q : Nat} {x y : Int32} (C : pj_C B A K cc nL own lvl) (d : pj_d cc pc (.iushr) 1 q) (k : pj_W K H lo q ls (.int (pj_ushr x y) :: st)) : pj_W K H lo pc ls (.int y :: .int x :: st) := by
  obtain ⟨d, rfl⟩ := d
  exact lv_iushr C.1 C.2.1 d rfl k
theorem pj_idiv {B : pj_B} {A : Nat → Prop} {K : pj_K} {cc : ByteArray} {nL : Nat} {own : String} {lvl : Nat} {H : Heap} {lo : List Loc} {ls : Array Slot} {st : List Value} {pc q : Nat} {ρ : Type} {r : ρ} {x y : Int32} {X : Option ρ} (C : pj_C B A K cc nL own lvl) (h : pj_g (pj_nz y) X = some r) (d : pj_d cc pc .idiv 1 q) (k : X = some r → pj_W K H lo q ls (.int (x / y) :: st)) : pj_W K H lo pc ls (.int y :: .int x :: st) := by
  obtain ⟨d, rfl⟩ := d
  obtain ⟨g, h⟩ := pj_gE h
  exact lv_idiv C.1 C.2.1 d (pj_nzE g) (k h)
theorem pj_irem {B : pj_B} {A : Nat → Prop} {K : pj_K} {cc : ByteArray} {nL : Nat} {own : String} {lvl : Nat} {H : Heap} {lo : List Loc} {ls : Array Slot} {st : List Value} {pc q : Nat} {ρ : Type} {r : ρ} {x y : Int32} {X : Option ρ} (C : pj_C B A K cc nL own lvl) (h : pj_g (pj_nz y) X = some r) (d : pj_d cc pc .irem 1 q) (k : X = some r → pj_W K H lo q ls (.int (pj_rem x y) :: st)) : pj_W K H lo pc ls (.int y :: .int x :: st) := by
  obtain ⟨d, rfl⟩ := d
  obtain ⟨g, h⟩ := pj_gE h
  exact lv_irem C.1 C.2.1 d (pj_nzE g) (k h)
theorem pj_ladd {B : pj_B} {A : Nat → Prop} {K : pj_K} {cc : ByteArray} {nL : Nat} {own : String} {lvl : Nat} {H : Heap} {lo : List Loc} {ls : Array Slot} {st : List Value} {pc q : Nat} {x y : Int64} (C : pj_C B A K cc nL own lvl) (d : pj_d cc pc (.ladd) 1 q) (k : pj_W K H lo q ls (.long (x + y) :: st)) : pj_W K H lo pc ls (.long y :: .long x :: st) := by
  obtain ⟨d, rfl⟩ := d
  exact lv_ladd C.1 C.2.1 d k
theorem pj_lsub {B : pj_B} {A : Nat → Prop} {K : pj_K} {cc : ByteArray} {nL : Nat} {own : String} {lvl : Nat} {H : Heap} {lo : List Loc} {ls : Array Slot} {st : List Value} {pc q : Nat} {x y : Int64} (C : pj_C B A K cc nL own lvl) (d : pj_d cc pc (.lsub) 1 q) (k : pj_W K H lo q ls (.long (x - y) :: st)) : pj_W K H lo pc ls (.long y :: .long x :: st) := by
  obtain ⟨d, rfl⟩ := d
  exact lv_lsub C.1 C.2.1 d k
theorem pj_land {B : pj_B} {A : Nat → Prop} {K : pj_K} {cc : ByteArray} {nL : Nat} {own : String} {lvl : Nat} {H : Heap} {lo : List Loc} {ls : Array Slot} {st : List Value} {pc q : Nat} {x y : Int64} (C : pj_C B A K cc nL own lvl) (d : pj_d cc pc (.land) 1 q) (k : pj_W K H lo q ls (.long (x &&& y) :: st)) : pj_W K H lo pc ls (.long y :: .long x :: st) := by
  obtain ⟨d, rfl⟩ := d
  exact lv_land C.1 C.2.1 d k
theorem pj_lor {B : pj_B} {A : Nat → Prop} {K : pj_K} {cc : ByteArray} {nL : Nat} {own : String} {lvl : Nat} {H : Heap} {lo : List Loc} {ls : Array Slot} {st : List Value} {pc q : Nat} {x y : Int64} (C : pj_C B A K cc nL own lvl) (d : pj_d cc pc (.lor) 1 q) (k : pj_W K H lo q ls (.long (x ||| y) :: st)) : pj_W K H lo pc ls (.long y :: .long x :: st) := by
  obtain ⟨d, rfl⟩ := d
  exact lv_lor C.1 C.2.1 d k
theorem pj_lxor {B : pj_B} {A : Nat → Prop} {K : pj_K} {cc : ByteArray} {nL : Nat} {own : String} {lvl : Nat} {H : Heap} {lo : List Loc} {ls : Array Slot} {st : List Value} {pc q : Nat} {x y : Int64} (C : pj_C B A K cc nL own lvl) (d : pj_d cc pc (.lxor) 1 q) (k : pj_W K H lo q ls (.long (x ^^^ y) :: st)) : pj_W K H lo pc ls (.long y :: .long x :: st) := by
  obtain ⟨d, rfl⟩ := d
  exact lv_lxor C.1 C.2.1 d k
theorem pj_lushr {B : pj_B} {A : Nat → Prop} {K : pj_K} {cc : ByteArray} {nL : Nat} {own : String} {lvl : Nat} {H : Heap} {lo : List Loc} {ls : Array Slot} {st : List Value} {pc q : Nat} {x : Int64} {y : Int32} (C : pj_C B A K cc nL own lvl) (d : pj_d cc pc (.lushr) 1 q) (k : pj_W K H lo q ls (.long (pj_ushrL x y) :: st)) : pj_W K H lo pc ls (.int y :: .long x :: st) := by
  obtain ⟨d, rfl⟩ := d
  exact lv_lushr C.1 C.2.1 d rfl k
theorem pj_lshl {B : pj_B} {A : Nat → Prop} {K : pj_K} {cc : ByteArray} {nL : Nat} {own : String} {lvl : Nat} {H : Heap} {lo : List Loc} {ls : Array Slot} {st : List Value} {pc q : Nat} {x : Int64} {y : Int32} (C : pj_C B A K cc nL own lvl) (d : pj_d cc pc (.lshl) 1 q) (k : pj_W K H lo q ls (.long (pj_shlL x y) :: st)) : pj_W K H lo pc ls (.int y :: .long x :: st) := by
  obtain ⟨d, rfl⟩ := d
  exact lv_lshl C.1 C.2.1 d rfl k
theorem pj_l2i {B : pj_B} {A : Nat → Prop} {K : pj_K} {cc : ByteArray} {nL : Nat} {own : String} {lvl : Nat} {H : Heap} {lo : List Loc} {ls : Array Slot} {st : List Value} {pc q : Nat} {x : Int64} (C : pj_C B A K cc nL own lvl) (d : pj_d cc pc (.l2i) 1 q) (k : pj_W K H lo q ls (.int x.toInt32 :: st)) : pj_W K H lo pc ls (.long x :: st) := by
  obtain ⟨d, rfl⟩ := d
  exact lv_l2i C.1 C.2.1 d rfl k
theorem pj_i2b {B : pj_B} {A : Nat → Prop} {K : pj_K} {cc : ByteArray} {nL : Nat} {own : String} {lvl : Nat} {H : Heap} {lo : List Loc} {ls : Array Slot} {st : List Value} {pc q : Nat} {x : Int32} (C : pj_C B A K cc nL own lvl) (d : pj_d cc pc (.i2b) 1 q) (k : pj_W K H lo q ls (.int x.toInt8.toInt32 :: st)) : pj_W K H lo pc ls (.int x :: st) := by
  obtain ⟨d, rfl⟩ := d
  exact lv_i2b C.1 C.2.1 d rfl k
theorem pj_i2c {B : pj_B} {A : Nat → Prop} {K : pj_K} {cc : ByteArray} {nL : Nat} {own : String} {lvl : Nat} {H : Heap} {lo : List Loc} {ls : Array Slot} {st : List Value} {pc q : Nat} {x : Int32} (C : pj_C B A K cc nL own lvl) (d : pj_d cc pc (.i2c) 1 q) (k : pj_W K H lo q ls (.int (x.toUInt32 % 65536).toInt32 :: st)) : pj_W K H lo pc ls (.int x :: st) := by
  obtain ⟨d, rfl⟩ := d
  exact lv_i2c C.1 C.2.1 d rfl k
theorem pj_lcmp {B : pj_B} {A : Nat → Prop} {K : pj_K} {cc : ByteArray} {nL : Nat} {own : String} {lvl : Nat} {H : Heap} {lo : List Loc} {ls : Array Slot} {st : List Value} {pc q : Nat} {x y : Int64} (C : pj_C B A K cc nL own lvl) (d : pj_d cc pc (.lcmp) 1 q) (k : pj_W K H lo q ls (.int (lg_cmp x y) :: st)) : pj_W K H lo pc ls (.long y :: .long x :: st) := by
  obtain ⟨d, rfl⟩ := d
  exact W.lcmp C.1 C.2.1 d k
theorem pj_dup {B : pj_B} {A : Nat → Prop} {K : pj_K} {cc : ByteArray} {nL : Nat} {own : String} {lvl : Nat} {H : Heap} {lo : List Loc} {ls : Array Slot} {st : List Value} {pc q : Nat} {va : Value} (C : pj_C B A K cc nL own lvl) (d : pj_d cc pc (.dup) 1 q) (hc : va.category = 1) (k : pj_W K H lo q ls (va :: va :: st)) : pj_W K H lo pc ls (va :: st) := by
  obtain ⟨d, rfl⟩ := d
  exact lv_dup C.1 C.2.1 d hc k
theorem pj_pop {B : pj_B} {A : Nat → Prop} {K : pj_K} {cc : ByteArray} {nL : Nat} {own : String} {lvl : Nat} {H : Heap} {lo : List Loc} {ls : Array Slot} {st : List Value} {pc q : Nat} {va : Value} (C : pj_C B A K cc nL own lvl) (d : pj_d cc pc (.pop) 1 q) (hc : va.category = 1) (k : pj_W K H lo q ls (st)) : pj_W K H lo pc ls (va :: st) := by
  obtain ⟨d, rfl⟩ := d
  exact lv_pop C.1 C.2.1 d hc k
theorem pj_dup2 {B : pj_B} {A : Nat → Prop} {K : pj_K} {cc : ByteArray} {nL : Nat} {own : String} {lvl : Nat} {H : Heap} {lo : List Loc} {ls : Array Slot} {st : List Value} {pc q : Nat} {va vb : Value} (C : pj_C B A K cc nL own lvl) (d : pj_d cc pc (.dup2) 1 q) (hc : va.category = 1) (hd : vb.category = 1) (k : pj_W K H lo q ls (va :: vb :: va :: vb :: st)) : pj_W K H lo pc ls (va :: vb :: st) := by
  obtain ⟨d, rfl⟩ := d
  exact lv_dup2_11 C.1 C.2.1 d hc hd k
theorem pj_dup2l {B : pj_B} {A : Nat → Prop} {K : pj_K} {cc : ByteArray} {nL : Nat} {own : String} {lvl : Nat} {H : Heap} {lo : List Loc} {ls : Array Slot} {st : List Value} {pc q : Nat} {va : Value} (C : pj_C B A K cc nL own lvl) (d : pj_d cc pc (.dup2) 1 q) (hc : va.category = 2) (k : pj_W K H lo q ls (va :: va :: st)) : pj_W K H lo pc ls (va :: st) := by
  obtain ⟨d, rfl⟩ := d
  exact lv_dup2_2 C.1 C.2.1 d hc k
theorem pj_ldc {B : pj_B} {A : Nat → Prop} {K : pj_K} {cc : ByteArray} {nL : Nat} {own : String} {lvl : Nat} {H : Heap} {lo : List Loc} {ls : Array Slot} {st : List Value} {pc q : Nat} {index : Nat} {v : Int32} (C : pj_C B A K cc nL own lvl) (hw : Cond.constant own index v ∈ pj_tbl) (d : pj_d cc pc (.ldc index) 2 q) (k : pj_W K H lo q ls (.int v :: st)) : pj_W K H lo pc ls st := by
  obtain ⟨d, rfl⟩ := d
  exact W.ldc C.1 C.2.1 C.2.2.2.1 (C.2.2.2.2.1 _ hw) rfl d k
theorem pj_ldcw {B : pj_B} {A : Nat → Prop} {K : pj_K} {cc : ByteArray} {nL : Nat} {own : String} {lvl : Nat} {H : Heap} {lo : List Loc} {ls : Array Slot} {st : List Value} {pc q : Nat} {index : Nat} {v : Int32} (C : pj_C B A K cc nL own lvl) (hw : Cond.constant own index v ∈ pj_tbl) (d : pj_d cc pc (.ldc_w index) 3 q) (k : pj_W K H lo q ls (.int v :: st)) : pj_W K H lo pc ls st := by
  obtain ⟨d, rfl⟩ := d
  exact lv_ldcw C.1 C.2.1 C.2.2.2.1 (C.2.2.2.2.1 _ hw) d k
theorem pj_ldc2 {B : pj_B} {A : Nat → Prop} {K : pj_K} {cc : ByteArray} {nL : Nat} {own : String} {lvl : Nat} {H : Heap} {lo : List Loc} {ls : Array Slot} {st : List Value} {pc q : Nat} {index : Nat} {v : Int64} (C : pj_C B A K cc nL own lvl) (hw : Cond.constantLong own index v ∈ pj_tbl) (d : pj_d cc pc (.ldc2_w index) 3 q) (k : pj_W K H lo q ls (.long v :: st)) : pj_W K H lo pc ls st := by
  obtain ⟨d, rfl⟩ := d
  exact W.ldc2 C.1 C.2.1 C.2.2.2.1 (C.2.2.2.2.1 _ hw) rfl d k
theorem pj_ldcS {B : pj_B} {A : Nat → Prop} {K : pj_K} {cc : ByteArray} {nL : Nat} {own : String} {lvl : Nat} {H : Heap} {lo : List Loc} {ls : Array Slot} {st : List Value} {pc q : Nat} {index : Nat} {tx : String} {i : Nat} (C : pj_C B A K cc nL own lvl) (hw : (own, index, tx, i) ∈ pj_sl) (d : pj_d cc pc (.ldc index) 2 q) (k : pj_W K H lo q ls (.ref (B.2.2.2.2.2.1 i) :: st)) : pj_W K H lo pc ls st := by
  obtain ⟨d, rfl⟩ := d
  exact va_ldcS C.1 C.2.1 C.2.2.2.1 (C.2.2.2.2.2.1.2.2.2.2.2.2.2.1 _ hw) d k
theorem pj_goto {B : pj_B} {A : Nat → Prop} {K : pj_K} {cc : ByteArray} {nL : Nat} {own : String} {lvl : Nat} {H : Heap} {lo : List Loc} {ls : Array Slot} {st : List Value} {pc q : Nat} {off : Int} {t : Nat} (C : pj_C B A K cc nL own lvl) (d : pj_dj cc pc (.goto off) off q t) (k : pj_W K H lo t ls st) : pj_W K H lo pc ls st := by
  obtain ⟨d, rfl, ht⟩ := d
  exact lv_goto C.1 C.2.1 d ht k
theorem pj_if_eq {B : pj_B} {A : Nat → Prop} {K : pj_K} {cc : ByteArray} {nL : Nat} {own : String} {lvl : Nat} {H : Heap} {lo : List Loc} {ls : Array Slot} {st : List Value} {pc q : Nat} {ρ : Type} {r : ρ} {x : Int32} {X Y : Option ρ} {off : Int} {t : Nat} (C : pj_C B A K cc nL own lvl) (h : (if x = 0 then X else Y) = some r) (d : pj_dj cc pc (.ifCond .eq off) off q t) (kt : X = some r → pj_W K H lo t ls st) (kf : Y = some r → pj_W K H lo q ls st) : pj_W K H lo pc ls (.int x :: st) := by
  obtain ⟨d, rfl, ht⟩ := d
  exact lv_if_eq C.1 C.2.1 d ht (fun c => kt (pj_it c h)) (fun c => kf (pj_if c h))
theorem pj_ic_eq {B : pj_B} {A : Nat → Prop} {K : pj_K} {cc : ByteArray} {nL : Nat} {own : String} {lvl : Nat} {H : Heap} {lo : List Loc} {ls : Array Slot} {st : List Value} {pc q : Nat} {ρ : Type} {r : ρ} {x y : Int32} {X Y : Option ρ} {off : Int} {t : Nat} (C : pj_C B A K cc nL own lvl) (h : (if x = y then X else Y) = some r) (d : pj_dj cc pc (.if_icmp .eq off) off q t) (kt : X = some r → pj_W K H lo t ls st) (kf : Y = some r → pj_W K H lo q ls st) : pj_W K H lo pc ls (.int y :: .int x :: st) := by
  obtain ⟨d, rfl, ht⟩ := d
  exact lv_icmp_eq C.1 C.2.1 d ht (fun c => kt (pj_it c h)) (fun c => kf (pj_if c h))
theorem pj_if_ne {B : pj_B} {A : Nat → Prop} {K : pj_K} {cc : ByteArray} {nL : Nat} {own : String} {lvl : Nat} {H : Heap} {lo : List Loc} {ls : Array Slot} {st : List Value} {pc q : Nat} {ρ : Type} {r : ρ} {x : Int32} {X Y : Option ρ} {off : Int} {t : Nat} (C : pj_C B A K cc nL own lvl) (h : (if x = 0 then Y else X) = some r) (d : pj_dj cc pc (.ifCond .ne off) off q t) (kt : X = some r → pj_W K H lo t ls st) (kf : Y = some r → pj_W K H lo q ls st) : pj_W K H lo pc ls (.int x :: st) := by
  obtain ⟨d, rfl, ht⟩ := d
  exact lv_if_ne C.1 C.2.1 d ht (fun c => kt (pj_if c h)) (fun c => kf (pj_it c h))
theorem pj_ic_ne {B : pj_B} {A : Nat → Prop} {K : pj_K} {cc : ByteArray} {nL : Nat} {own : String} {lvl : Nat} {H : Heap} {lo : List Loc} {ls : Array Slot} {st : List Value} {pc q : Nat} {ρ : Type} {r : ρ} {x y : Int32} {X Y : Option ρ} {off : Int} {t : Nat} (C : pj_C B A K cc nL own lvl) (h : (if x = y then Y else X) = some r) (d : pj_dj cc pc (.if_icmp .ne off) off q t) (kt : X = some r → pj_W K H lo t ls st) (kf : Y = some r → pj_W K H lo q ls st) : pj_W K H lo pc ls (.int y :: .int x :: st) := by
  obtain ⟨d, rfl, ht⟩ := d
  exact lv_icmp_ne C.1 C.2.1 d ht (fun c => kt (pj_if c h)) (fun c => kf (pj_it c h))
theorem pj_if_lt {B : pj_B} {A : Nat → Prop} {K : pj_K} {cc : ByteArray} {nL : Nat} {own : String} {lvl : Nat} {H : Heap} {lo : List Loc} {ls : Array Slot} {st : List Value} {pc q : Nat} {ρ : Type} {r : ρ} {x : Int32} {X Y : Option ρ} {off : Int} {t : Nat} (C : pj_C B A K cc nL own lvl) (h : (if x < 0 then X else Y) = some r) (d : pj_dj cc pc (.ifCond .lt off) off q t) (kt : X = some r → pj_W K H lo t ls st) (kf : Y = some r → pj_W K H lo q ls st) : pj_W K H lo pc ls (.int x :: st) := by
  obtain ⟨d, rfl, ht⟩ := d
  exact lv_if_lt C.1 C.2.1 d ht (fun c => kt (pj_it c h)) (fun c => kf (pj_if c h))
theorem pj_ic_lt {B : pj_B} {A : Nat → Prop} {K : pj_K} {cc : ByteArray} {nL : Nat} {own : String} {lvl : Nat} {H : Heap} {lo : List Loc} {ls : Array Slot} {st : List Value} {pc q : Nat} {ρ : Type} {r : ρ} {x y : Int32} {X Y : Option ρ} {off : Int} {t : Nat} (C : pj_C B A K cc nL own lvl) (h : (if x < y then X else Y) = some r) (d : pj_dj cc pc (.if_icmp .lt off) off q t) (kt : X = some r → pj_W K H lo t ls st) (kf : Y = some r → pj_W K H lo q ls st) : pj_W K H lo pc ls (.int y :: .int x :: st) := by
  obtain ⟨d, rfl, ht⟩ := d
  exact lv_icmp_lt C.1 C.2.1 d ht (fun c => kt (pj_it c h)) (fun c => kf (pj_if c h))
theorem pj_if_ge {B : pj_B} {A : Nat → Prop} {K : pj_K} {cc : ByteArray} {nL : Nat} {own : String} {lvl : Nat} {H : Heap} {lo : List Loc} {ls : Array Slot} {st : List Value} {pc q : Nat} {ρ : Type} {r : ρ} {x : Int32} {X Y : Option ρ} {off : Int} {t : Nat} (C : pj_C B A K cc nL own lvl) (h : (if 0 ≤ x then X else Y) = some r) (d : pj_dj cc pc (.ifCond .ge off) off q t) (kt : X = some r → pj_W K H lo t ls st) (kf : Y = some r → pj_W K H lo q ls st) : pj_W K H lo pc ls (.int x :: st) := by
  obtain ⟨d, rfl, ht⟩ := d
  exact lv_if_ge C.1 C.2.1 d ht (fun c => kt (pj_it c h)) (fun c => kf (pj_if c h))
theorem pj_ic_ge {B : pj_B} {A : Nat → Prop} {K : pj_K} {cc : ByteArray} {nL : Nat} {own : String} {lvl : Nat} {H : Heap} {lo : List Loc} {ls : Array Slot} {st : List Value} {pc q : Nat} {ρ : Type} {r : ρ} {x y : Int32} {X Y : Option ρ} {off : Int} {t : Nat} (C : pj_C B A K cc nL own lvl) (h : (if y ≤ x then X else Y) = some r) (d : pj_dj cc pc (.if_icmp .ge off) off q t) (kt : X = some r → pj_W K H lo t ls st) (kf : Y = some r → pj_W K H lo q ls st) : pj_W K H lo pc ls (.int y :: .int x :: st) := by
  obtain ⟨d, rfl, ht⟩ := d
  exact lv_icmp_ge C.1 C.2.1 d ht (fun c => kt (pj_it c h)) (fun c => kf (pj_if c h))
theorem pj_if_gt {B : pj_B} {A : Nat → Prop} {K : pj_K} {cc : ByteArray} {nL : Nat} {own : String} {lvl : Nat} {H : Heap} {lo : List Loc} {ls : Array Slot} {st : List Value} {pc q : Nat} {ρ : Type} {r : ρ} {x : Int32} {X Y : Option ρ} {off : Int} {t : Nat} (C : pj_C B A K cc nL own lvl) (h : (if 0 < x then X else Y) = some r) (d : pj_dj cc pc (.ifCond .gt off) off q t) (kt : X = some r → pj_W K H lo t ls st) (kf : Y = some r → pj_W K H lo q ls st) : pj_W K H lo pc ls (.int x :: st) := by
  obtain ⟨d, rfl, ht⟩ := d
  exact lv_if_gt C.1 C.2.1 d ht (fun c => kt (pj_it c h)) (fun c => kf (pj_if c h))
theorem pj_ic_gt {B : pj_B} {A : Nat → Prop} {K : pj_K} {cc : ByteArray} {nL : Nat} {own : String} {lvl : Nat} {H : Heap} {lo : List Loc} {ls : Array Slot} {st : List Value} {pc q : Nat} {ρ : Type} {r : ρ} {x y : Int32} {X Y : Option ρ} {off : Int} {t : Nat} (C : pj_C B A K cc nL own lvl) (h : (if y < x then X else Y) = some r) (d : pj_dj cc pc (.if_icmp .gt off) off q t) (kt : X = some r → pj_W K H lo t ls st) (kf : Y = some r → pj_W K H lo q ls st) : pj_W K H lo pc ls (.int y :: .int x :: st) := by
  obtain ⟨d, rfl, ht⟩ := d
  exact lv_icmp_gt C.1 C.2.1 d ht (fun c => kt (pj_it c h)) (fun c => kf (pj_if c h))
theorem pj_if_le {B : pj_B} {A : Nat → Prop} {K : pj_K} {cc : ByteArray} {nL : Nat} {own : String} {lvl : Nat} {H : Heap} {lo : List Loc} {ls : Array Slot} {st : List Value} {pc q : Nat} {ρ : Type} {r : ρ} {x : Int32} {X Y : Option ρ} {off : Int} {t : Nat} (C : pj_C B A K cc nL own lvl) (h : (if x ≤ 0 then X else Y) = some r) (d : pj_dj cc pc (.ifCond .le off) off q t) (kt : X = some r → pj_W K H lo t ls st) (kf : Y = some r → pj_W K H lo q ls st) : pj_W K H lo pc ls (.int x :: st) := by
  obtain ⟨d, rfl, ht⟩ := d
  exact lv_if_le C.1 C.2.1 d ht (fun c => kt (pj_it c h)) (fun c => kf (pj_if c h))
theorem pj_ic_le {B : pj_B} {A : Nat → Prop} {K : pj_K} {cc : ByteArray} {nL : Nat} {own : String} {lvl : Nat} {H : Heap} {lo : List Loc} {ls : Array Slot} {st : List Value} {pc q : Nat} {ρ : Type} {r : ρ} {x y : Int32} {X Y : Option ρ} {off : Int} {t : Nat} (C : pj_C B A K cc nL own lvl) (h : (if x ≤ y then X else Y) = some r) (d : pj_dj cc pc (.if_icmp .le off) off q t) (kt : X = some r → pj_W K H lo t ls st) (kf : Y = some r → pj_W K H lo q ls st) : pj_W K H lo pc ls (.int y :: .int x :: st) := by
  obtain ⟨d, rfl, ht⟩ := d
  exact lv_icmp_le C.1 C.2.1 d ht (fun c => kt (pj_it c h)) (fun c => kf (pj_if c h))
theorem pj_sw {K : pj_K} {H : Heap} {lo : List Loc} {ls : Array Slot} {st : List Value} {pc : Nat} {ρ : Type} {r : ρ} {x v : Int32} {X Y : Option ρ} (h : (if x = v then X else Y) = some r) (kt : x = v → X = some r → pj_W K H lo pc ls st) (kf : ¬ x = v → Y = some r → pj_W K H lo pc ls st) : pj_W K H lo pc ls st := by
  by_cases c : x = v
  · exact kt c (pj_it c h)
  · exact kf c (pj_if c h)
theorem pj_nmI {K : pj_K} {H : Heap} {lo : List Loc} {ls : Array Slot} {st : List Value} {pc : Nat} {ρ : Type} {r : ρ} {x : Int32} {f : Int32 → Option ρ} (h : pj_b x f = some r) (k : ∀ y : Int32, f y = some r → pj_W K H lo pc ls (.int y :: st)) : pj_W K H lo pc ls (.int x :: st) := k x h
theorem pj_nmJ {K : pj_K} {H : Heap} {lo : List Loc} {ls : Array Slot} {st : List Value} {pc : Nat} {ρ : Type} {r : ρ} {x : Int64} {f : Int64 → Option ρ} (h : pj_b x f = some r) (k : ∀ y : Int64, f y = some r → pj_W K H lo pc ls (.long y :: st)) : pj_W K H lo pc ls (.long x :: st) := k x h
theorem pj_swI {B : pj_B} {A : Nat → Prop} {K : pj_K} {cc : ByteArray} {nL : Nat} {own : String} {lvl : Nat} {H : Heap} {lo : List Loc} {ls : Array Slot} {st : List Value} {pc q : Nat} {dflt a b : Int} {offs : Array Int} {len : Nat} {x : Int32} (v : Int32) (off : Int) (t : Nat) (C : pj_C B A K cc nL own lvl) (d : pj_d cc pc (.tableswitch dflt a b offs) len q) (hx : x = v) (hv : (!decide (v.toInt < a) && !decide (b < v.toInt) && decide (offs[(v.toInt - a).toNat]? = some off) && decide ((pc : Int) + off = (t : Int))) = true) (k : pj_W K H lo t ls st) : pj_W K H lo pc ls (.int x :: st) := by
  obtain ⟨d, rfl⟩ := d
  subst hx
  simp only [Bool.and_eq_true, Bool.not_eq_true', decide_eq_false_iff_not, decide_eq_true_eq] at hv
  exact lv_tableIn C.1 C.2.1 d hv.1.1.1 hv.1.1.2 hv.1.2 hv.2 k
theorem pj_swO {B : pj_B} {A : Nat → Prop} {K : pj_K} {cc : ByteArray} {nL : Nat} {own : String} {lvl : Nat} {H : Heap} {lo : List Loc} {ls : Array Slot} {st : List Value} {pc q : Nat} {dflt a b : Int} {offs : Array Int} {len : Nat} {x : Int32} (t : Nat) (C : pj_C B A K cc nL own lvl) (d : pj_d cc pc (.tableswitch dflt a b offs) len q) (hx : x.toInt < a ∨ b < x.toInt) (hv : (pc : Int) + dflt = (t : Int)) (k : pj_W K H lo t ls st) : pj_W K H lo pc ls (.int x :: st) := by
  obtain ⟨d, rfl⟩ := d
  exact lv_tableOut C.1 C.2.1 d hx hv k
theorem pj_nI {x v : Int32} {n : Int} (h : ¬ x = v) (e : v.toInt = n) : x.toInt ≠ n := by
  rw [← e]
  exact fun q => h (Int32.toInt_inj.mp q)
/-- a field by its link: own's pool entry, the class's number, its place -/
def pj_fl (own : String) (index ci j : Nat) (C : String) (T : u_T) (N : Nat) : Prop := vwCl[ci]? = some (C, T, N) ∧ j < N ∧ (T j).1 = C ∧ Cond.fieldLink own index C (T j).2.1 (T j).2.2.1 ∈ pj_tbl ∧ (∀ w ∈ u_ws C T N, w ∈ pj_tbl) ∧ (∀ k, k < N → (parseFieldDescriptor (T k).2.2.1).isSome = true) ∧ (∀ a, a < N → ∀ b, b < N → a ≠ b → (T a).2.1 ≠ (T b).2.1)
def pj_t0 (T : u_T) : Nat → FieldType := fun k => (parseFieldDescriptor (T k).2.2.1).getD .int
theorem pj_t0_ok {T : u_T} {N : Nat} (h : ∀ k, k < N → (parseFieldDescriptor (T k).2.2.1).isSome = true) : ∀ k, k < N → parseFieldDescriptor (T k).2.2.1 = some (pj_t0 T k) := by
  intro k hk
  have := h k hk
  unfold pj_t0
  cases hq : parseFieldDescriptor (T k).2.2.1 with
  | none => rw [hq] at this; cases this
  | some t => rfl
theorem pj_getI {B : pj_B} {A : Nat → Prop} {K : pj_K} {cc : ByteArray} {nL : Nat} {own : String} {lvl : Nat} {H : Heap} {lo : List Loc} {ls : Array Slot} {st : List Value} {pc q : Nat} {ci j n : Nat} {R : String} {T : u_T} {N : Nat} {l : List (Nat × Nat)} {index : Nat} {z : pj_S} (C : pj_C B A K cc nL own lvl) (P : pj_P B A K z H lo) (k : Nat) (hk : B.2.2.2.1[k]? = some (.inl (ci, l))) (hj : l[j]? = some (0, n)) (f : pj_fl own index ci j R T N) (d : pj_d cc pc (.getfield index) 3 q) (kk : pj_W K H lo q ls (.int (z.1 k j) :: st)) : pj_W K H lo pc ls (.ref (B.2.1 k) :: st) := by
  obtain ⟨d, rfl⟩ := d
  obtain ⟨f1, f2, f3, f4, f5, f6, f7⟩ := f
  exact va_get C.1 C.2.1 C.2.2.2.2.1 f5 C.2.2.2.1 C.2.2.2.2.2.1.1 P.1 k (pj_wg hk) f1 j f2 (C.2.2.2.2.1 _ f4) (by rw [f3]; exact fun _ h => h) (v := .int (z.1 k j)) (by simp [List.getElem?_mapIdx, hj, pj_fv]) d kk
theorem pj_getJ {B : pj_B} {A : Nat → Prop} {K : pj_K} {cc : ByteArray} {nL : Nat} {own : String} {lvl : Nat} {H : Heap} {lo : List Loc} {ls : Array Slot} {st : List Value} {pc q : Nat} {ci j n : Nat} {R : String} {T : u_T} {N : Nat} {l : List (Nat × Nat)} {index : Nat} {z : pj_S} (C : pj_C B A K cc nL own lvl) (P : pj_P B A K z H lo) (k : Nat) (hk : B.2.2.2.1[k]? = some (.inl (ci, l))) (hj : l[j]? = some (1, n)) (f : pj_fl own index ci j R T N) (d : pj_d cc pc (.getfield index) 3 q) (kk : pj_W K H lo q ls (.long (z.2 k j) :: st)) : pj_W K H lo pc ls (.ref (B.2.1 k) :: st) := by
  obtain ⟨d, rfl⟩ := d
  obtain ⟨f1, f2, f3, f4, f5, f6, f7⟩ := f
  exact va_get C.1 C.2.1 C.2.2.2.2.1 f5 C.2.2.2.1 C.2.2.2.2.2.1.1 P.1 k (pj_wg hk) f1 j f2 (C.2.2.2.2.1 _ f4) (by rw [f3]; exact fun _ h => h) (v := .long (z.2 k j)) (by simp [List.getElem?_mapIdx, hj, pj_fv]) d kk
theorem pj_getR {B : pj_B} {A : Nat → Prop} {K : pj_K} {cc : ByteArray} {nL : Nat} {own : String} {lvl : Nat} {H : Heap} {lo : List Loc} {ls : Array Slot} {st : List Value} {pc q : Nat} {ci j n : Nat} {R : String} {T : u_T} {N : Nat} {l : List (Nat × Nat)} {index : Nat} {z : pj_S} (C : pj_C B A K cc nL own lvl) (P : pj_P B A K z H lo) (k : Nat) (hk : B.2.2.2.1[k]? = some (.inl (ci, l))) (hj : l[j]? = some (2, n)) (f : pj_fl own index ci j R T N) (d : pj_d cc pc (.getfield index) 3 q) (kk : pj_W K H lo q ls (.ref (B.2.1 n) :: st)) : pj_W K H lo pc ls (.ref (B.2.1 k) :: st) := by
  obtain ⟨d, rfl⟩ := d
  obtain ⟨f1, f2, f3, f4, f5, f6, f7⟩ := f
  exact va_get C.1 C.2.1 C.2.2.2.2.1 f5 C.2.2.2.1 C.2.2.2.2.2.1.1 P.1 k (pj_wg hk) f1 j f2 (C.2.2.2.2.1 _ f4) (by rw [f3]; exact fun _ h => h) (v := .ref (B.2.1 n)) (by simp [List.getElem?_mapIdx, hj, pj_fv]) d kk
theorem pj_putI {B : pj_B} {A : Nat → Prop} {K : pj_K} {cc : ByteArray} {nL : Nat} {own : String} {lvl : Nat} {H : Heap} {lo : List Loc} {ls : Array Slot} {st : List Value} {pc q : Nat} {ρ : Type} {r : ρ} {ci j n : Nat} {R : String} {T : u_T} {N : Nat} {l : List (Nat × Nat)} {index : Nat} {z : pj_S} {v : Int32} {g : pj_S → Option ρ} (C : pj_C B A K cc nL own lvl) (P : pj_P B A K z H lo) (k : Nat) (hk : B.2.2.2.1[k]? = some (.inl (ci, l))) (hj : l[j]? = some (0, n)) (f : pj_fl own index ci j R T N) (hfin : (T j).2.2.2 = false) (hty : parseFieldDescriptor (T j).2.2.1 = some .int) (h : pj_b (pj_sI z k j v) g = some r) (d : pj_d cc pc (.putfield index) 3 q) (kk : ∀ (H2 : Heap) (lo2 : List Loc) (z2 : pj_S), g z2 = some r → pj_P B A K z2 H2 lo2 → pj_W K H2 lo2 q ls st) : pj_W K H lo pc ls (.int v :: .ref (B.2.1 k) :: st) := by
  obtain ⟨d, rfl⟩ := d
  obtain ⟨f1, f2, f3, f4, f5, f6, f7⟩ := f
  refine va_put (ty := .int) (v := .int v) C.1 C.2.1 C.2.2.2.2.1 f5 (pj_t0 T) (pj_t0_ok f6) f7 C.2.2.2.1 C.2.2.2.2.2.1.1 P.1 (C.D z) P.2 k (pj_wg hk) f1 j f2 (C.2.2.2.2.1 _ f4) (by rw [f3]; exact fun _ h => h) hfin hty rfl rfl (by simpa using (List.getElem?_eq_some_iff.mp hj).1) d (fun H2 lo2 hP hD hS => kk H2 lo2 _ h ⟨?_, hS⟩)
  rw [pj_fsI hj] at hP
  rw [← pj_ws_ (z := z) (z' := pj_sI z k j v) hk (by intro a ha; simp [pj_sI, ha]) (by intro a ha; simp [pj_sI, ha])]
  exact hP
theorem pj_putZ {B : pj_B} {A : Nat → Prop} {K : pj_K} {cc : ByteArray} {nL : Nat} {own : String} {lvl : Nat} {H : Heap} {lo : List Loc} {ls : Array Slot} {st : List Value} {pc q : Nat} {ρ : Type} {r : ρ} {ci j n : Nat} {R : String} {T : u_T} {N : Nat} {l : List (Nat × Nat)} {index : Nat} {z : pj_S} {v : Int32} {g : pj_S → Option ρ} (C : pj_C B A K cc nL own lvl) (P : pj_P B A K z H lo) (k : Nat) (hk : B.2.2.2.1[k]? = some (.inl (ci, l))) (hj : l[j]? = some (0, n)) (f : pj_fl own index ci j R T N) (hfin : (T j).2.2.2 = false) (hty : parseFieldDescriptor (T j).2.2.1 = some .boolean) (h : pj_g (pj_bo v) (pj_b (pj_sI z k j v) g) = some r) (d : pj_d cc pc (.putfield index) 3 q) (kk : ∀ (H2 : Heap) (lo2 : List Loc) (z2 : pj_S), g z2 = some r → pj_P B A K z2 H2 lo2 → pj_W K H2 lo2 q ls st) : pj_W K H lo pc ls (.int v :: .ref (B.2.1 k) :: st) := by
  obtain ⟨d, rfl⟩ := d
  obtain ⟨hb, h⟩ := pj_gE h
  obtain ⟨f1, f2, f3, f4, f5, f6, f7⟩ := f
  refine va_put (ty := .boolean) (v := .int v) C.1 C.2.1 C.2.2.2.2.1 f5 (pj_t0 T) (pj_t0_ok f6) f7 C.2.2.2.1 C.2.2.2.2.2.1.1 P.1 (C.D z) P.2 k (pj_wg hk) f1 j f2 (C.2.2.2.2.1 _ f4) (by rw [f3]; exact fun _ h => h) hfin hty (pj_boN hb) (pj_boF hb) (by simpa using (List.getElem?_eq_some_iff.mp hj).1) d (fun H2 lo2 hP hD hS => kk H2 lo2 _ h ⟨?_, hS⟩)
  rw [pj_fsI hj] at hP
  rw [← pj_ws_ (z := z) (z' := pj_sI z k j v) hk (by intro a ha; simp [pj_sI, ha]) (by intro a ha; simp [pj_sI, ha])]
  exact hP
theorem pj_putJ {B : pj_B} {A : Nat → Prop} {K : pj_K} {cc : ByteArray} {nL : Nat} {own : String} {lvl : Nat} {H : Heap} {lo : List Loc} {ls : Array Slot} {st : List Value} {pc q : Nat} {ρ : Type} {r : ρ} {ci j n : Nat} {R : String} {T : u_T} {N : Nat} {l : List (Nat × Nat)} {index : Nat} {z : pj_S} {v : Int64} {g : pj_S → Option ρ} (C : pj_C B A K cc nL own lvl) (P : pj_P B A K z H lo) (k : Nat) (hk : B.2.2.2.1[k]? = some (.inl (ci, l))) (hj : l[j]? = some (1, n)) (f : pj_fl own index ci j R T N) (hfin : (T j).2.2.2 = false) (hty : parseFieldDescriptor (T j).2.2.1 = some .long) (h : pj_b (pj_sJ z k j v) g = some r) (d : pj_d cc pc (.putfield index) 3 q) (kk : ∀ (H2 : Heap) (lo2 : List Loc) (z2 : pj_S), g z2 = some r → pj_P B A K z2 H2 lo2 → pj_W K H2 lo2 q ls st) : pj_W K H lo pc ls (.long v :: .ref (B.2.1 k) :: st) := by
  obtain ⟨d, rfl⟩ := d
  obtain ⟨f1, f2, f3, f4, f5, f6, f7⟩ := f
  refine va_put (ty := .long) (v := .long v) C.1 C.2.1 C.2.2.2.2.1 f5 (pj_t0 T) (pj_t0_ok f6) f7 C.2.2.2.1 C.2.2.2.2.2.1.1 P.1 (C.D z) P.2 k (pj_wg hk) f1 j f2 (C.2.2.2.2.1 _ f4) (by rw [f3]; exact fun _ h => h) hfin hty rfl rfl (by simpa using (List.getElem?_eq_some_iff.mp hj).1) d (fun H2 lo2 hP hD hS => kk H2 lo2 _ h ⟨?_, hS⟩)
  rw [pj_fsJ hj] at hP
  rw [← pj_ws_ (z := z) (z' := pj_sJ z k j v) hk (by intro a ha; simp [pj_sJ, ha]) (by intro a ha; simp [pj_sJ, ha])]
  exact hP
theorem pj_iald {B : pj_B} {A : Nat → Prop} {K : pj_K} {cc : ByteArray} {nL : Nat} {own : String} {lvl : Nat} {H : Heap} {lo : List Loc} {ls : Array Slot} {st : List Value} {pc q : Nat} {ρ : Type} {r : ρ} {len : Nat} {i : Int32} {z : pj_S} {X : Option ρ} (C : pj_C B A K cc nL own lvl) (P : pj_P B A K z H lo) (k : Nat) (hk : B.2.2.2.1[k]? = some (.inr (len, 0))) (h : pj_g (pj_in i len) X = some r) (d : pj_d cc pc (.iaload) 1 q) (kk : X = some r → pj_W K H lo q ls (.int (z.1 k i.toNatClampNeg) :: st)) : pj_W K H lo pc ls (.int i :: .ref (B.2.1 k) :: st) := by
  obtain ⟨d, rfl⟩ := d
  obtain ⟨hi, h⟩ := pj_gE h
  exact va_iald C.1 C.2.1 C.2.2.2.2.2.1.1 P.1 k 0 (pj_wg hk) rfl (pj_inE hi) d (kk h)
theorem pj_lald {B : pj_B} {A : Nat → Prop} {K : pj_K} {cc : ByteArray} {nL : Nat} {own : String} {lvl : Nat} {H : Heap} {lo : List Loc} {ls : Array Slot} {st : List Value} {pc q : Nat} {ρ : Type} {r : ρ} {len : Nat} {i : Int32} {z : pj_S} {X : Option ρ} (C : pj_C B A K cc nL own lvl) (P : pj_P B A K z H lo) (k : Nat) (hk : B.2.2.2.1[k]? = some (.inr (len, 1))) (h : pj_g (pj_in i len) X = some r) (d : pj_d cc pc (.laload) 1 q) (kk : X = some r → pj_W K H lo q ls (.long (z.2 k i.toNatClampNeg) :: st)) : pj_W K H lo pc ls (.int i :: .ref (B.2.1 k) :: st) := by
  obtain ⟨d, rfl⟩ := d
  obtain ⟨hi, h⟩ := pj_gE h
  exact va_lald C.1 C.2.1 C.2.2.2.2.2.1.1 P.1 k 1 (pj_wg hk) rfl (pj_inE hi) d (kk h)
theorem pj_bald {B : pj_B} {A : Nat → Prop} {K : pj_K} {cc : ByteArray} {nL : Nat} {own : String} {lvl : Nat} {H : Heap} {lo : List Loc} {ls : Array Slot} {st : List Value} {pc q : Nat} {ρ : Type} {r : ρ} {len : Nat} {i : Int32} {z : pj_S} {X : Option ρ} (C : pj_C B A K cc nL own lvl) (P : pj_P B A K z H lo) (k : Nat) (hk : B.2.2.2.1[k]? = some (.inr (len, 2))) (h : pj_g (pj_in i len) X = some r) (d : pj_d cc pc (.baload) 1 q) (kk : X = some r → pj_W K H lo q ls (.int (z.1 k i.toNatClampNeg) :: st)) : pj_W K H lo pc ls (.int i :: .ref (B.2.1 k) :: st) := by
  obtain ⟨d, rfl⟩ := d
  obtain ⟨hi, h⟩ := pj_gE h
  exact va_bald C.1 C.2.1 C.2.2.2.2.2.1.1 P.1 k 2 (pj_wg hk) rfl (pj_inE hi) d (kk h)
theorem pj_iast {B : pj_B} {A : Nat → Prop} {K : pj_K} {cc : ByteArray} {nL : Nat} {own : String} {lvl : Nat} {H : Heap} {lo : List Loc} {ls : Array Slot} {st : List Value} {pc q : Nat} {ρ : Type} {r : ρ} {len : Nat} {i : Int32} {v : Int32} {z : pj_S} {g : pj_S → Option ρ} (C : pj_C B A K cc nL own lvl) (P : pj_P B A K z H lo) (k : Nat) (hk : B.2.2.2.1[k]? = some (.inr (len, 0))) (h : pj_g (pj_in i len) (pj_b (pj_sI z k i.toNatClampNeg v) g) = some r) (d : pj_d cc pc (.iastore) 1 q) (kk : ∀ (H2 : Heap) (lo2 : List Loc) (z2 : pj_S), g z2 = some r → pj_P B A K z2 H2 lo2 → pj_W K H2 lo2 q ls st) : pj_W K H lo pc ls (.int v :: .int i :: .ref (B.2.1 k) :: st) := by
  obtain ⟨d, rfl⟩ := d
  obtain ⟨hi, h⟩ := pj_gE h
  refine va_iast C.1 C.2.1 C.2.2.2.2.2.1.1 P.1 (C.D z) P.2 k 0 (pj_wg hk) rfl (pj_inE hi) d (fun H2 lo2 hP hD hS => kk H2 lo2 _ h ⟨?_, hS⟩)
  rw [← pj_ws_ (z := z) (z' := pj_sI z k i.toNatClampNeg v) hk (by intro a ha; simp [pj_sI, ha]) (by intro a ha; simp [pj_sI, ha])]
  simpa [pj_e, pj_sI] using hP
theorem pj_last {B : pj_B} {A : Nat → Prop} {K : pj_K} {cc : ByteArray} {nL : Nat} {own : String} {lvl : Nat} {H : Heap} {lo : List Loc} {ls : Array Slot} {st : List Value} {pc q : Nat} {ρ : Type} {r : ρ} {len : Nat} {i : Int32} {v : Int64} {z : pj_S} {g : pj_S → Option ρ} (C : pj_C B A K cc nL own lvl) (P : pj_P B A K z H lo) (k : Nat) (hk : B.2.2.2.1[k]? = some (.inr (len, 1))) (h : pj_g (pj_in i len) (pj_b (pj_sJ z k i.toNatClampNeg v) g) = some r) (d : pj_d cc pc (.lastore) 1 q) (kk : ∀ (H2 : Heap) (lo2 : List Loc) (z2 : pj_S), g z2 = some r → pj_P B A K z2 H2 lo2 → pj_W K H2 lo2 q ls st) : pj_W K H lo pc ls (.long v :: .int i :: .ref (B.2.1 k) :: st) := by
  obtain ⟨d, rfl⟩ := d
  obtain ⟨hi, h⟩ := pj_gE h
  refine va_last C.1 C.2.1 C.2.2.2.2.2.1.1 P.1 (C.D z) P.2 k 1 (pj_wg hk) rfl (pj_inE hi) d (fun H2 lo2 hP hD hS => kk H2 lo2 _ h ⟨?_, hS⟩)
  rw [← pj_ws_ (z := z) (z' := pj_sJ z k i.toNatClampNeg v) hk (by intro a ha; simp [pj_sJ, ha]) (by intro a ha; simp [pj_sJ, ha])]
  simpa [pj_e, pj_sJ] using hP
theorem pj_bast {B : pj_B} {A : Nat → Prop} {K : pj_K} {cc : ByteArray} {nL : Nat} {own : String} {lvl : Nat} {H : Heap} {lo : List Loc} {ls : Array Slot} {st : List Value} {pc q : Nat} {ρ : Type} {r : ρ} {len : Nat} {i : Int32} {v : Int32} {z : pj_S} {g : pj_S → Option ρ} (C : pj_C B A K cc nL own lvl) (P : pj_P B A K z H lo) (k : Nat) (hk : B.2.2.2.1[k]? = some (.inr (len, 2))) (h : pj_g (pj_in i len) (pj_b (pj_sI z k i.toNatClampNeg (vp_nar .byte v)) g) = some r) (d : pj_d cc pc (.bastore) 1 q) (kk : ∀ (H2 : Heap) (lo2 : List Loc) (z2 : pj_S), g z2 = some r → pj_P B A K z2 H2 lo2 → pj_W K H2 lo2 q ls st) : pj_W K H lo pc ls (.int v :: .int i :: .ref (B.2.1 k) :: st) := by
  obtain ⟨d, rfl⟩ := d
  obtain ⟨hi, h⟩ := pj_gE h
  refine va_bast C.1 C.2.1 C.2.2.2.2.2.1.1 P.1 (C.D z) P.2 k 2 (pj_wg hk) rfl (pj_inE hi) d (fun H2 lo2 hP hD hS => kk H2 lo2 _ h ⟨?_, hS⟩)
  rw [← pj_ws_ (z := z) (z' := pj_sI z k i.toNatClampNeg (vp_nar .byte v)) hk (by intro a ha; simp [pj_sI, ha]) (by intro a ha; simp [pj_sI, ha])]
  simpa [pj_e, pj_sI] using hP
theorem pj_alen {B : pj_B} {A : Nat → Prop} {K : pj_K} {cc : ByteArray} {nL : Nat} {own : String} {lvl : Nat} {H : Heap} {lo : List Loc} {ls : Array Slot} {st : List Value} {pc q : Nat} {len kd : Nat} {z : pj_S} (v : Int32) (C : pj_C B A K cc nL own lvl) (P : pj_P B A K z H lo) (k : Nat) (hk : B.2.2.2.1[k]? = some (.inr (len, kd))) (hd : kd < 3) (hv : Int32.ofNat len = v) (d : pj_d cc pc .arraylength 1 q) (kk : pj_W K H lo q ls (.int v :: st)) : pj_W K H lo pc ls (.ref (B.2.1 k) :: st) := by
  obtain ⟨d, rfl⟩ := d
  match kd, hd with
  | 0, _ => exact va_alen C.1 C.2.1 C.2.2.2.2.2.1.1 P.1 k 0 (pj_wg hk) rfl hv d kk
  | 1, _ => exact va_alen C.1 C.2.1 C.2.2.2.2.2.1.1 P.1 k 1 (pj_wg hk) rfl hv d kk
  | 2, _ => exact va_alen C.1 C.2.1 C.2.2.2.2.2.1.1 P.1 k 2 (pj_wg hk) rfl hv d kk
def pj_cpOk (sp dp n : Int32) (n0 n1 : Nat) : Bool := decide (¬ sp < 0 ∧ ¬ dp < 0 ∧ ¬ n < 0 ∧ sp.toNatClampNeg + n.toNatClampNeg ≤ n0 ∧ dp.toNatClampNeg + n.toNatClampNeg ≤ n1)
def pj_gA (own : String) (idx : Nat) : Prop := Cond.methodLink own idx arraycopyName ∈ pj_tbl ∧ Cond.native arraycopyName ∈ pj_tbl ∧ Cond.static arraycopyName ∈ pj_tbl ∧ Cond.initialized "java/lang/System" ∈ pj_tbl
theorem pj_copy {B : pj_B} {A : Nat → Prop} {K : pj_K} {cc : ByteArray} {nL : Nat} {own : String} {lvl : Nat} {H : Heap} {lo : List Loc} {ls : Array Slot} {st : List Value} {pc q : Nat} {ρ : Type} {r : ρ} {n0 n1 idx : Nat} {sp dp n : Int32} {z : pj_S} {g : pj_S → Option ρ} (C : pj_C B A K cc nL own lvl) (P : pj_P B A K z H lo) (k0 k1 : Nat) (hk0 : B.2.2.2.1[k0]? = some (.inr (n0, 0))) (hk1 : B.2.2.2.1[k1]? = some (.inr (n1, 0))) (h : pj_g (pj_cpOk sp dp n n0 n1) (pj_b (pj_sC z k0 k1 sp.toNatClampNeg dp.toNatClampNeg n.toNatClampNeg) g) = some r) (w : pj_gA own idx) (hlv : 1 ≤ lvl) (hls : ls.size = nL) (hst : (st.map fun v => v.category).sum ≤ 8) (d : pj_d cc pc (.invokestatic idx) 3 q) (kk : ∀ (H2 : Heap) (lo2 : List Loc) (z2 : pj_S), g z2 = some r → pj_P B A K z2 H2 lo2 → pj_W K H2 lo2 q ls st) : pj_W K H lo pc ls (.int n :: .int dp :: .ref (B.2.1 k1) :: .int sp :: .ref (B.2.1 k0) :: st) := by
  obtain ⟨d, rfl⟩ := d
  obtain ⟨hi, h⟩ := pj_gE h
  obtain ⟨c1, c2, c3, c4, c5⟩ := of_decide_eq_true hi
  obtain ⟨w1, w2, w3, w4⟩ := w
  obtain ⟨r1, r2⟩ := C.2.2.2.2.2.2.2.2.2.2
  have hts := C.2.2.2.2.1
  have hnw : nativeFrameWords "java/lang/System" "arraycopy" 5 + 11 ≤ 56 := by decide
  refine va_copyi (ty := .int) C.1 C.2.1 (by rw [hls]; exact C.2.2.1) C.2.2.2.1 (hts _ w1) (hts _ w2) (hts _ w3) (hts _ w4) C.2.2.2.2.2.1.1 P.1 (C.D z) P.2 k0 k1 0 0 (pj_wg hk0) (pj_wg hk1) rfl rfl rfl c1 c2 c3 c4 c5 (fun _ _ => rfl) (Nat.le_trans hlv r1) (by omega) d (fun H2 lo2 hP hD hS => kk H2 lo2 _ h ⟨?_, hS⟩)
  rw [← pj_ws_ (z := z) (z' := pj_sC z k0 k1 sp.toNatClampNeg dp.toNatClampNeg n.toNatClampNeg) hk1 (by intro a ha; simp [pj_sC, ha]) (by intro a ha; simp [pj_sC])]
  simpa [pj_e, pj_sC] using hP
def pj_lkOk (i : Int32) : Bool := pj_in i 4
theorem pj_gstK {B : pj_B} {A : Nat → Prop} {K : pj_K} {cc : ByteArray} {nL : Nat} {own : String} {lvl : Nat} {H : Heap} {lo : List Loc} {ls : Array Slot} {st : List Value} {pc q : Nat} (C : pj_C B A K cc nL own lvl) {z : pj_S} (P : pj_P B A K z H lo) (ho : own = "PulledJersey$Fabric") (d : pj_d cc pc (.getstatic 91) 3 q) (k : pj_W K H lo q ls (.ref B.2.2.2.2.1 :: st)) : pj_W K H lo pc ls st := by
  obtain ⟨d, rfl⟩ := d
  subst ho
  obtain ⟨-, h2, h3, -⟩ := C.2.2.2.2.2.1.2
  exact va_getsN C.1 C.2.1 h3 P.2 C.2.2.2.1 (va_Nw.use rfl h2) (fun _ h => h) d k
theorem pj_ldK {B : pj_B} {A : Nat → Prop} {K : pj_K} {cc : ByteArray} {nL : Nat} {own : String} {lvl : Nat} {H : Heap} {lo : List Loc} {ls : Array Slot} {st : List Value} {pc q : Nat} {ρ : Type} {r : ρ} (C : pj_C B A K cc nL own lvl) {i : Int32} {z : pj_S} {X : Option ρ} (P : pj_P B A K z H lo) (h : pj_g (pj_in i 4) X = some r) (d : pj_d cc pc .iaload 1 q) (k : X = some r → pj_W K H lo q ls (.int (pj_lk.getD i.toNatClampNeg 0) :: st)) : pj_W K H lo pc ls (.int i :: .ref B.2.2.2.2.1 :: st) := by
  obtain ⟨d, rfl⟩ := d
  obtain ⟨g, h⟩ := pj_gE h
  obtain ⟨-, -, -, h4, -⟩ := C.2.2.2.2.2.1.2
  exact va_ti C.1 C.2.1 h4 P.2 (pj_inE g) rfl d (k h)
