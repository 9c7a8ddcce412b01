/-! THE BASE. A world is a list of cells by their numbers: objects whose fields are ints, longs or fixed references, rows of ints, longs, bytes. Its state: pj_S: of cell k the int (the long) at field or place j. -/
abbrev pj_S : Type := (Nat → Nat → Int32) × (Nat → Nat → Int64)
def pj_sI (z : pj_S) (k j : Nat) (v : Int32) : pj_S := (fun a => if a = k then upd (z.1 a) j v else z.1 a, z.2)
def pj_sJ (z : pj_S) (k j : Nat) (v : Int64) : pj_S := (z.1, fun a => if a = k then vp_updL (z.2 a) j v else z.2 a)
/-- a row of ints copied into another -/
def pj_sC (z : pj_S) (k0 k1 : Nat) (sp dp n : Nat) : pj_S := (fun a => if a = k1 then va_cpy (z.1 k0) (z.1 k1) sp dp n else z.1 a, z.2)
/-- a cell's form: an object (number of its class; its fields: 0 int, 1 long, 2 a reference to cell k), or a row (length; 0 int, 1 long, 2 byte) -/
abbrev pj_Y : Type := (Nat × List (Nat × Nat)) ⊕ (Nat × Nat)
/-- tables, addresses, array classes, forms, and addresses of what is static -/
abbrev pj_B : Type := va_G × (Nat → Nat) × (ClassId × ClassId × ClassId) × List pj_Y × Nat × (Nat → Nat) × (Nat → Nat)
def pj_fv (ad : Nat → Nat) (z : pj_S) (k j : Nat) (d : Nat × Nat) : Value := if d.1 = 0 then .int (z.1 k j) else if d.1 = 1 then .long (z.2 k j) else .ref (ad d.2)
def pj_e (ad : Nat → Nat) (cs : ClassId × ClassId × ClassId) (z : pj_S) (k : Nat) (y : pj_Y) : va_E := match y with
  | .inl o => .inr (o.1, o.2.mapIdx (fun j d => pj_fv ad z k j d))
  | .inr a => if a.2 = 0 then .inl (cs.1, a.1, .inl (z.1 k)) else if a.2 = 1 then .inl (cs.2.1, a.1, .inr (.inl (z.2 k))) else .inl (cs.2.2, a.1, .inl (z.1 k))
def pj_w (B : pj_B) (z : pj_S) : va_W := B.2.2.2.1.mapIdx (fun k y => (B.2.1 k, pj_e B.2.1 B.2.2.1 z k y))
def pj_ar (B : pj_B) (sz : Nat) : Nat → Prop := fun q => (∃ k, k < B.2.2.2.1.length ∧ q = B.2.1 k) ∨ sz ≤ q
def pj_apart (B : pj_B) : Prop := ∀ i j, i < B.2.2.2.1.length → j < B.2.2.2.1.length → B.2.1 i = B.2.1 j → i = j
theorem pj_wg {B : pj_B} {z : pj_S} {k : Nat} {y : pj_Y} (h : B.2.2.2.1[k]? = some y) : (pj_w B z)[k]? = some (B.2.1 k, pj_e B.2.1 B.2.2.1 z k y) := by
  simp [pj_w, List.getElem?_mapIdx, h]
theorem pj_wi {B : pj_B} {z : pj_S} {k : Nat} {q : Nat × va_E} (h : (pj_w B z)[k]? = some q) : k < B.2.2.2.1.length ∧ q.1 = B.2.1 k := by
  have h1 := (List.getElem?_eq_some_iff.mp h).1
  simp only [pj_w, List.length_mapIdx] at h1
  refine ⟨h1, ?_⟩
  simp only [pj_w, List.getElem?_mapIdx, Option.map_eq_some_iff] at h
  obtain ⟨y, -, rfl⟩ := h
  rfl
theorem pj_wD {B : pj_B} {A : Nat → Prop} (h : pj_apart B) (hA : ∀ k, k < B.2.2.2.1.length → A (B.2.1 k)) (z : pj_S) : va_D A (pj_w B z) := by
  refine ⟨fun i j p q hi hj e => ?_, fun k q hk => ?_⟩
  · obtain ⟨i1, i2⟩ := pj_wi hi
    obtain ⟨j1, j2⟩ := pj_wi hj
    exact h i j i1 j1 (by rw [← i2, ← j2, e])
  · obtain ⟨k1, k2⟩ := pj_wi hk
    rw [k2]
    exact hA k k1
theorem pj_ws_ {B : pj_B} {z z' : pj_S} {k : Nat} {y : pj_Y} (h : B.2.2.2.1[k]? = some y) (h1 : ∀ a, a ≠ k → z'.1 a = z.1 a) (h2 : ∀ a, a ≠ k → z'.2 a = z.2 a) : (pj_w B z).set k (B.2.1 k, pj_e B.2.1 B.2.2.1 z' k y) = pj_w B z' := by
  apply List.ext_getElem?
  intro i
  have hl := (List.getElem?_eq_some_iff.mp h).1
  by_cases hi : i = k
  · subst hi
    rw [List.getElem?_set_self (by simp [pj_w, hl]), pj_wg h]
  · rw [List.getElem?_set_ne (Ne.symm hi)]
    cases hy : B.2.2.2.1[i]? with
    | none => simp [pj_w, List.getElem?_mapIdx, hy]
    | some y2 =>
      rw [pj_wg hy, pj_wg hy]
      have e1 := h1 i hi
      have e2 := h2 i hi
      congr 2
      cases y2 with
      | inl o => simp [pj_e, pj_fv, e1, e2]
      | inr a => simp [pj_e, e1, e2]
theorem pj_fsI {ad : Nat → Nat} {z : pj_S} {k j : Nat} {v : Int32} {l : List (Nat × Nat)} {n : Nat} (h : l[j]? = some (0, n)) : (l.mapIdx (fun i d => pj_fv ad z k i d)).set j (.int v) = l.mapIdx (fun i d => pj_fv ad (pj_sI z k j v) k i d) := by
  apply List.ext_getElem?
  intro i
  have hl := (List.getElem?_eq_some_iff.mp h).1
  by_cases hi : i = j
  · subst hi
    rw [List.getElem?_set_self (by simp [hl])]
    simp [List.getElem?_mapIdx, h, pj_fv, pj_sI, upd]
  · rw [List.getElem?_set_ne (Ne.symm hi)]
    simp [List.getElem?_mapIdx, pj_fv, pj_sI, upd, hi]
theorem pj_fsJ {ad : Nat → Nat} {z : pj_S} {k j : Nat} {v : Int64} {l : List (Nat × Nat)} {n : Nat} (h : l[j]? = some (1, n)) : (l.mapIdx (fun i d => pj_fv ad z k i d)).set j (.long v) = l.mapIdx (fun i d => pj_fv ad (pj_sJ z k j v) k i d) := by
  apply List.ext_getElem?
  intro i
  have hl := (List.getElem?_eq_some_iff.mp h).1
  by_cases hi : i = j
  · subst hi
    rw [List.getElem?_set_self (by simp [hl])]
    simp [List.getElem?_mapIdx, h, pj_fv, pj_sJ, vp_updL]
  · rw [List.getElem?_set_ne (Ne.symm hi)]
    simp [List.getElem?_mapIdx, pj_fv, pj_sJ, vp_updL, hi]
/-! what is static: array classes, nest mates' links, a constant row, Strings -/
def pj_tbl : List Cond := lw_tbl.filter goodWord
def pj_lenS : List Nat := [3, 4, 2, 3, 3, 4, 3, 6, 6, 5, 4, 4]
def pj_bytS : List (List Int32) := [[114, 117, 110], [119, 104, 101, 110], [111, 114], [97, 110, 100], [110, 111, 116], [107, 105, 110, 100], [114, 111, 119], [99, 111, 108, 117, 109, 110], [98, 101, 115, 105, 100, 101], [98, 101, 108, 111, 119], [104, 111, 117, 114], [103, 111, 110, 101]]
def pj_nl : List (String × Nat × MethodName) := [("PulledJersey", 9, ⟨"PulledJersey$Whole", "<init>", "()V"⟩), ("PulledJersey$Whole", 11, ⟨"PulledJersey$Fabric", "<init>", "()V"⟩), ("PulledJersey$Whole", 20, ⟨"PulledJersey$Law", "<init>", "()V"⟩), ("PulledJersey$Whole", 27, ⟨"PulledJersey$Book", "<init>", "()V"⟩), ("PulledJersey$Whole", 34, ⟨"PulledJersey$Wool", "<init>", "()V"⟩), ("PulledJersey", 21, ⟨"PulledJersey$Past", "<init>", "()V"⟩), ("PulledJersey", 28, ⟨"PulledJersey$Tape", "<init>", "()V"⟩), ("PulledJersey", 35, ⟨"PulledJersey$LawReader", "<init>", "()V"⟩), ("PulledJersey", 42, ⟨"PulledJersey$Puller", "<init>", "()V"⟩), ("PulledJersey", 49, ⟨"PulledJersey$Saver", "<init>", "()V"⟩), ("PulledJersey$Fabric", 22, ⟨"PulledJersey", "rectangle", "(IIII)J"⟩), ("PulledJersey$Fabric", 48, ⟨"PulledJersey", "bitOf", "(JI)I"⟩), ("PulledJersey$Puller", 44, ⟨"PulledJersey", "bitOf", "(JI)I"⟩), ("PulledJersey$Whole", 116, ⟨"PulledJersey", "bitOf", "(JI)I"⟩)]
def pj_sl : List (String × Nat × String × Nat) := [("PulledJersey$LawReader", 91, "run", 0), ("PulledJersey$LawReader", 97, "when", 1), ("PulledJersey$LawReader", 99, "or", 2), ("PulledJersey$LawReader", 101, "and", 3), ("PulledJersey$LawReader", 103, "not", 4), ("PulledJersey$LawReader", 108, "kind", 5), ("PulledJersey$LawReader", 110, "row", 6), ("PulledJersey$LawReader", 112, "column", 7), ("PulledJersey$LawReader", 114, "beside", 8), ("PulledJersey$LawReader", 116, "below", 9), ("PulledJersey$LawReader", 118, "hour", 10), ("PulledJersey$LawReader", 120, "gone", 11), ("PulledJerseyModel", 117, "when", 1), ("PulledJerseyModel", 119, "or", 2), ("PulledJerseyModel", 121, "and", 3), ("PulledJerseyModel", 123, "not", 4), ("PulledJerseyModel", 125, "run", 0), ("PulledJerseyModel", 99, "kind", 5), ("PulledJerseyModel", 105, "row", 6), ("PulledJerseyModel", 107, "column", 7), ("PulledJerseyModel", 109, "beside", 8), ("PulledJerseyModel", 111, "below", 9), ("PulledJerseyModel", 113, "hour", 10), ("PulledJerseyModel", 115, "gone", 11)]
def pj_lk : List Int32 := [3, 4, 2, 5]
def pj_stat (B : pj_B) (A : Nat → Prop) (U : State) (H : Heap) : Prop :=
  (∀ q ∈ pj_nl, va_Nw (.methodLinkNest q.1 q.2.1 q.2.2 "PulledJersey") U) ∧ va_Nw (.fieldLinkNest "PulledJersey$Fabric" 91 "PulledJersey" "LENGTH_OF_KIND" "[I" "PulledJersey") U ∧
  va_Z "PulledJersey" "LENGTH_OF_KIND" "[I" (.ref B.2.2.2.2.1) A U H ∧ va_T .int B.2.2.2.2.1 4 (fun j => .int (pj_lk.getD j 0)) A U H ∧
  va_Z "java/lang/String" "COMPACT_STRINGS" "Z" (.int 1) A U H ∧ va_Zq "jdk/internal/util/Preconditions" "SIOOBE_FORMATTER" "Ljava/util/function/BiFunction;" A U H ∧
  (∀ q ∈ pj_sl, vk_R q.1 q.2.1 q.2.2.1 (B.2.2.2.2.2.1 q.2.2.2) U) ∧ vk_S 12 pj_lenS pj_bytS B.2.2.2.2.2.1 B.2.2.2.2.2.2 A U H
theorem pj_stat.to {B : pj_B} {A A' : Nat → Prop} {s U : State} {H : Heap} {lo : List Loc} (h : pj_stat B A s s.heap) (hW : s.WarmedH U.vm) (hS : va_S A s.heap H lo) (hA : ∀ q, A' q → A q) : pj_stat B A' U H := by
  obtain ⟨h1, h2, h3, h4, h5, h6, h7, h8⟩ := h
  exact ⟨fun q hq => va_Nw.warmM hW (h1 q hq), va_Nw.warmF hW h2, ((va_Z.moved hW.alike h3).kept hS.2.1).narrow hA, ((va_T.moved hW.alike h4).kept hS.2.1).narrow hA, ((va_Z.moved hW.alike h5).kept hS.2.1).narrow hA,
    ((va_Zq.moved hW.alike h6).kept hS.2.1).narrow hA, fun q hq => vk_R.warm hW (h7 q hq), ((vk_S.moved hW.alike h8).kept hS.2.1).narrow hA⟩
theorem pj_stat.same {B : pj_B} {A : Nat → Prop} {u U : State} {H : Heap} (h : pj_stat B A u H) (hv : U.vm = u.vm) : pj_stat B A U H := by
  obtain ⟨h1, h2, h3, h4, h5, h6, h7, h8⟩ := h
  have ha : u.vm.Alike U.vm := by rw [hv]; exact Vm.Alike.refl u.vm
  exact ⟨fun q hq => va_Nw.same rfl hv.symm (h1 q hq), va_Nw.same rfl hv.symm h2, va_Z.moved ha h3, va_T.moved ha h4, va_Z.moved ha h5, va_Zq.moved ha h6, fun q hq => vk_R.same hv (h7 q hq), vk_S.moved ha h8⟩
abbrev pj_ty (B : pj_B) : List (ClassId × FieldType) := [(B.2.2.1.1, .int), (B.2.2.1.2.1, .long), (B.2.2.1.2.2, .byte)]
def pj_T (B : pj_B) (A : Nat → Prop) (U : State) : Prop := va_K B.1 vwCl (pj_ty B) U ∧ pj_stat B A U U.heap
/-! the machine at a method, as one tuple; what is fixed in it; what holds of the heap -/
abbrev pj_K : Type := Program × Launch × Env × Room × State × MethodId × Array Value × List Frame × Method × Code × Nat × Nat × (State → Prop)
def pj_W (K : pj_K) (H : Heap) (lo : List Loc) (pc : Nat) (ls : Array Slot) (st : List Value) : Prop := W K.1 K.2.1 K.2.2.1 K.2.2.2.1 K.2.2.2.2.1 K.2.2.2.2.2.1 K.2.2.2.2.2.2.1 K.2.2.2.2.2.2.2.1 K.2.2.2.2.2.2.2.2.1 K.2.2.2.2.2.2.2.2.2.1 H lo K.2.2.2.2.2.2.2.2.2.2.1 K.2.2.2.2.2.2.2.2.2.2.2.1 K.2.2.2.2.2.2.2.2.2.2.2.2 (F0 K.2.2.2.2.2.1 pc ls st)
def pj_C (B : pj_B) (A : Nat → Prop) (K : pj_K) (cc : ByteArray) (nL : Nat) (own : String) (lv : Nat) : Prop :=
  K.1.tables.exec = Jvm.exec ∧ K.2.2.2.2.2.2.2.2.2.1.code = cc ∧ K.2.2.2.2.2.2.2.2.2.1.maxLocals = nL ∧ K.2.2.2.2.1.vm.findClass own = some K.2.2.2.2.2.1.cls ∧ (∀ w ∈ pj_tbl, w.before K.2.2.2.2.2.2.1 K.2.2.2.2.1 = true) ∧ pj_T B A K.2.2.2.2.1 ∧ pj_apart B ∧
  (∀ k, k < B.2.2.2.1.length → A (B.2.1 k)) ∧ (∀ q, K.2.2.2.2.1.heap.size ≤ q → A q) ∧ (K.2.2.2.2.2.2.2.2.2.2.1 ≤ K.2.2.2.1.cells ∧ K.2.2.2.2.2.2.2.2.2.2.2.1 ≤ K.2.2.2.1.slots) ∧ lv ≤ K.2.2.2.1.frames ∧ 64 * lv ≤ K.2.2.2.1.locals
def pj_P (B : pj_B) (A : Nat → Prop) (K : pj_K) (z : pj_S) (H : Heap) (lo : List Loc) : Prop := va_P B.1 vwCl (pj_w B z) H ∧ va_S A K.2.2.2.2.1.heap H lo
theorem pj_C.D {B : pj_B} {A : Nat → Prop} {K : pj_K} {cc : ByteArray} {nL : Nat} {own : String} {lvl : Nat} (C : pj_C B A K cc nL own lvl) (z : pj_S) : va_D A (pj_w B z) := pj_wD C.2.2.2.2.2.2.1 C.2.2.2.2.2.2.2.1 z
/-- an instruction, its length, what stands behind it -/
def pj_d (cc : ByteArray) (pc : Nat) (i : Instr) (n q : Nat) : Prop := decode cc pc = .ok (i, n) ∧ pc + n = q
def pj_dj (cc : ByteArray) (pc : Nat) (i : Instr) (off : Int) (q t : Nat) : Prop := decode cc pc = .ok (i, 3) ∧ pc + 3 = q ∧ (pc : Int) + off = (t : Int)
/-! words of functions: a value that is named, a guard, a call, loops with their fuel -/
def pj_b {α β : Type} (a : α) (f : α → β) : β := f a
theorem pj_bE {α β : Type} {a x : α} {f : α → Option β} {r : β} (h : pj_b a f = some r) (e : x = a) : f x = some r := by subst e; exact h
def pj_g {β : Type} (c : Bool) (x : Option β) : Option β := if c = true then x else none
theorem pj_gE {β : Type} {c : Bool} {x : Option β} {r : β} (h : pj_g c x = some r) : c = true ∧ x = some r := by
  unfold pj_g at h
  by_cases hc : c = true
  · rw [if_pos hc] at h; exact ⟨hc, h⟩
  · rw [if_neg hc] at h; cases h
def pj_c {α β : Type} (x : Option (α × pj_S)) (f : α → pj_S → Option β) : Option β := match x with
  | none => none
  | some (a, z) => f a z
theorem pj_cE {α β : Type} {x : Option (α × pj_S)} {f : α → pj_S → Option β} {r : β} (h : pj_c x f = some r) : ∃ a z, x = some (a, z) ∧ f a z = some r := by
  match x, h with
  | some (a, z), h => exact ⟨a, z, rfl, h⟩
theorem pj_it {α : Type} {c : Prop} {d : Decidable c} {x y r : α} (hc : c) (h : @ite α c d x y = r) : x = r := by rw [if_pos hc] at h; exact h
theorem pj_if {α : Type} {c : Prop} {d : Decidable c} {x y r : α} (hc : ¬ c) (h : @ite α c d x y = r) : y = r := by rw [if_neg hc] at h; exact h
theorem pj_in_ {α : Type} {c : Prop} {d : Decidable (¬ c)} {x y r : α} (hc : c) (h : @ite α (¬ c) d x y = r) : y = r := by rw [if_neg (fun z => z hc)] at h; exact h
def pj_in (i : Int32) (n : Nat) : Bool := decide (¬ (i < 0 ∨ n ≤ i.toNatClampNeg))
theorem pj_inE {i : Int32} {n : Nat} (h : pj_in i n = true) : vp_in i n := of_decide_eq_true (p := ¬ (i < 0 ∨ n ≤ i.toNatClampNeg)) h
def pj_nz (i : Int32) : Bool := decide (¬ i = 0)
theorem pj_nzE {i : Int32} (h : pj_nz i = true) : ¬ i = 0 := of_decide_eq_true h
def pj_bo (i : Int32) : Bool := decide (i = 0 ∨ i = 1)
theorem pj_boE {i : Int32} (h : pj_bo i = true) : i = 0 ∨ i = 1 := of_decide_eq_true h
theorem pj_boN {i : Int32} (h : pj_bo i = true) : narrow .boolean (.int i) = .int i := by
  rcases pj_boE h with rfl | rfl <;> rfl
theorem pj_boF {i : Int32} (h : pj_bo i = true) : fits .boolean (.int i) = true := by
  rcases pj_boE h with rfl | rfl <;> rfl
def pj_ushr (x y : Int32) : Int32 := (x.toUInt32 >>> (y.toUInt32 &&& Int32.toUInt32 31)).toInt32
def pj_ushrL (x : Int64) (y : Int32) : Int64 := (x.toUInt64 >>> (y.toInt64.toUInt64 &&& Int64.toUInt64 63)).toInt64
def pj_shlL (x : Int64) (y : Int32) : Int64 := x <<< (y.toInt64 &&& 63)
def pj_rem (x y : Int32) : Int32 := x - x / y * y
def pj_min (x y : Int32) : Int32 := if y < x then y else x
def pj_max (x y : Int32) : Int32 := if x < y then y else x
def pj_rm (n : Nat) : Room := { frames := n, cells := 0, slots := 0, locals := 64 * n }
abbrev pj_ws (y : MethodName) (c : ByteArray) (n : Nat) (r : Option FieldType) : List Cond := Cond.code y c n r :: pj_tbl
def pj_lp0 {ρ : Type} (F : (pj_S → Option ρ) → pj_S → Option ρ) : Nat → pj_S → Option ρ
  | 0, _ => none
  | n + 1, z => F (pj_lp0 F n)  z
def pj_lp1 {α0 ρ : Type} (F : (α0 → pj_S → Option ρ) → α0 → pj_S → Option ρ) : Nat → α0 → pj_S → Option ρ
  | 0, _, _ => none
  | n + 1, a0, z => F (pj_lp1 F n) a0 z
def pj_lp2 {α0 α1 ρ : Type} (F : (α0 → α1 → pj_S → Option ρ) → α0 → α1 → pj_S → Option ρ) : Nat → α0 → α1 → pj_S → Option ρ
  | 0, _, _, _ => none
  | n + 1, a0, a1, z => F (pj_lp2 F n) a0 a1 z
def pj_lp3 {α0 α1 α2 ρ : Type} (F : (α0 → α1 → α2 → pj_S → Option ρ) → α0 → α1 → α2 → pj_S → Option ρ) : Nat → α0 → α1 → α2 → pj_S → Option ρ
  | 0, _, _, _, _ => none
  | n + 1, a0, a1, a2, z => F (pj_lp3 F n) a0 a1 a2 z
def pj_lp4 {α0 α1 α2 α3 ρ : Type} (F : (α0 → α1 → α2 → α3 → pj_S → Option ρ) → α0 → α1 → α2 → α3 → pj_S → Option ρ) : Nat → α0 → α1 → α2 → α3 → pj_S → Option ρ
  | 0, _, _, _, _, _ => none
  | n + 1, a0, a1, a2, a3, z => F (pj_lp4 F n) a0 a1 a2 a3 z
def pj_lp5 {α0 α1 α2 α3 α4 ρ : Type} (F : (α0 → α1 → α2 → α3 → α4 → pj_S → Option ρ) → α0 → α1 → α2 → α3 → α4 → pj_S → Option ρ) : Nat → α0 → α1 → α2 → α3 → α4 → pj_S → Option ρ
  | 0, _, _, _, _, _, _ => none
  | n + 1, a0, a1, a2, a3, a4, z => F (pj_lp5 F n) a0 a1 a2 a3 a4 z
def pj_lp6 {α0 α1 α2 α3 α4 α5 ρ : Type} (F : (α0 → α1 → α2 → α3 → α4 → α5 → pj_S → Option ρ) → α0 → α1 → α2 → α3 → α4 → α5 → pj_S → Option ρ) : Nat → α0 → α1 → α2 → α3 → α4 → α5 → pj_S → Option ρ
  | 0, _, _, _, _, _, _, _ => none
  | n + 1, a0, a1, a2, a3, a4, a5, z => F (pj_lp6 F n) a0 a1 a2 a3 a4 a5 z
def pj_lp7 {α0 α1 α2 α3 α4 α5 α6 ρ : Type} (F : (α0 → α1 → α2 → α3 → α4 → α5 → α6 → pj_S → Option ρ) → α0 → α1 → α2 → α3 → α4 → α5 → α6 → pj_S → Option ρ) : Nat → α0 → α1 → α2 → α3 → α4 → α5 → α6 → pj_S → Option ρ
  | 0, _, _, _, _, _, _, _, _ => none
  | n + 1, a0, a1, a2, a3, a4, a5, a6, z => F (pj_lp7 F n) a0 a1 a2 a3 a4 a5 a6 z
def pj_lp8 {α0 α1 α2 α3 α4 α5 α6 α7 ρ : Type} (F : (α0 → α1 → α2 → α3 → α4 → α5 → α6 → α7 → pj_S → Option ρ) → α0 → α1 → α2 → α3 → α4 → α5 → α6 → α7 → pj_S → Option ρ) : Nat → α0 → α1 → α2 → α3 → α4 → α5 → α6 → α7 → pj_S → Option ρ
  | 0, _, _, _, _, _, _, _, _, _ => none
  | n + 1, a0, a1, a2, a3, a4, a5, a6, a7, z => F (pj_lp8 F n) a0 a1 a2 a3 a4 a5 a6 a7 z
def pj_lp9 {α0 α1 α2 α3 α4 α5 α6 α7 α8 ρ : Type} (F : (α0 → α1 → α2 → α3 → α4 → α5 → α6 → α7 → α8 → pj_S → Option ρ) → α0 → α1 → α2 → α3 → α4 → α5 → α6 → α7 → α8 → pj_S → Option ρ) : Nat → α0 → α1 → α2 → α3 → α4 → α5 → α6 → α7 → α8 → pj_S → Option ρ
  | 0, _, _, _, _, _, _, _, _, _, _ => none
  | n + 1, a0, a1, a2, a3, a4, a5, a6, a7, a8, z => F (pj_lp9 F n) a0 a1 a2 a3 a4 a5 a6 a7 a8 z
def pj_lp10 {α0 α1 α2 α3 α4 α5 α6 α7 α8 α9 ρ : Type} (F : (α0 → α1 → α2 → α3 → α4 → α5 → α6 → α7 → α8 → α9 → pj_S → Option ρ) → α0 → α1 → α2 → α3 → α4 → α5 → α6 → α7 → α8 → α9 → pj_S → Option ρ) : Nat → α0 → α1 → α2 → α3 → α4 → α5 → α6 → α7 → α8 → α9 → pj_S → Option ρ
  | 0, _, _, _, _, _, _, _, _, _, _, _ => none
  | n + 1, a0, a1, a2, a3, a4, a5, a6, a7, a8, a9, z => F (pj_lp10 F n) a0 a1 a2 a3 a4 a5 a6 a7 a8 a9 z
def pj_lp11 {α0 α1 α2 α3 α4 α5 α6 α7 α8 α9 α10 ρ : Type} (F : (α0 → α1 → α2 → α3 → α4 → α5 → α6 → α7 → α8 → α9 → α10 → pj_S → Option ρ) → α0 → α1 → α2 → α3 → α4 → α5 → α6 → α7 → α8 → α9 → α10 → pj_S → Option ρ) : Nat → α0 → α1 → α2 → α3 → α4 → α5 → α6 → α7 → α8 → α9 → α10 → pj_S → Option ρ
  | 0, _, _, _, _, _, _, _, _, _, _, _, _ => none
  | n + 1, a0, a1, a2, a3, a4, a5, a6, a7, a8, a9, a10, z => F (pj_lp11 F n) a0 a1 a2 a3 a4 a5 a6 a7 a8 a9 a10 z
def pj_lp12 {α0 α1 α2 α3 α4 α5 α6 α7 α8 α9 α10 α11 ρ : Type} (F : (α0 → α1 → α2 → α3 → α4 → α5 → α6 → α7 → α8 → α9 → α10 → α11 → pj_S → Option ρ) → α0 → α1 → α2 → α3 → α4 → α5 → α6 → α7 → α8 → α9 → α10 → α11 → pj_S → Option ρ) : Nat → α0 → α1 → α2 → α3 → α4 → α5 → α6 → α7 → α8 → α9 → α10 → α11 → pj_S → Option ρ
  | 0, _, _, _, _, _, _, _, _, _, _, _, _, _ => none
  | n + 1, a0, a1, a2, a3, a4, a5, a6, a7, a8, a9, a10, a11, z => F (pj_lp12 F n) a0 a1 a2 a3 a4 a5 a6 a7 a8 a9 a10 a11 z
