/-! the grammar of a law, over a row of tokens (numbered as the model numbers them) -/
abbrev tRes : Type := Except (Nat × Nat) (Nat × List pa_Op)
def wl : Option Nat → List pa_Op
  | none => []
  | some o => [(o, 0)]
def wo : Bool → List pa_Op
  | false => []
  | true => [(22, 0)]
section GR
variable (T V : Nat → Nat)
def unitP (j : Nat) : tRes := if T j = 2 then .ok (j + 1, [(0, nI (V j))]) else if 41 ≤ T j ∧ T j ≤ 47 then .ok (j + 1, [(T j - 40, 0)]) else .error (1, j)
def divP (j : Nat) : tRes := if T j = 2 then (if V j = 0 then .error (2, j) else .ok (j + 1, [(16, nI (V j))])) else .error (1, j)
def sumL : Nat → Nat → List pa_Op → Option Nat → tRes
  | 0, j, _, _ => .error (9, j)
  | n + 1, j, acc, w =>
    if T j = 143 then (match unitP T V (j + 1) with
      | .error e => .error e
      | .ok (j2, u) => sumL n j2 (acc ++ wl w ++ u) (some 13))
    else if T j = 145 then (match unitP T V (j + 1) with
      | .error e => .error e
      | .ok (j2, u) => sumL n j2 (acc ++ wl w ++ u) (some 14))
    else if T j = 142 then (match unitP T V (j + 1) with
      | .error e => .error e
      | .ok (j2, u) => sumL n j2 (acc ++ u ++ [(15, 0)]) w)
    else if T j = 147 then (match divP T V (j + 1) with
      | .error e => .error e
      | .ok (j2, u) => sumL n j2 (acc ++ u) w)
    else .ok (j, acc ++ wl w)
def sumP (j : Nat) : tRes := match unitP T V j with
  | .error e => .error e
  | .ok (j2, u) => sumL T V 401 j2 u none
def condL (cl : Nat → tRes) : Nat → Nat → List pa_Op → Bool → tRes
  | 0, j, _, _ => .error (9, j)
  | n + 1, j, acc, w =>
    if T j = 5 then (match cl (j + 1) with
      | .error e => .error e
      | .ok (j2, u) => condL cl n j2 (acc ++ u ++ [(21, 0)]) w)
    else if T j = 4 then (match cl (j + 1) with
      | .error e => .error e
      | .ok (j2, u) => condL cl n j2 (acc ++ wo w ++ u) true)
    else .ok (j, acc ++ wo w)
def condP (cl : Nat → tRes) (j : Nat) : tRes := match cl j with
  | .error e => .error e
  | .ok (j2, u) => condL T cl 401 j2 u false
def relP (j : Nat) : tRes := match sumP T V j with
  | .error e => .error e
  | .ok (j2, u) => if T j2 = 160 ∨ T j2 = 161 ∨ T j2 = 162 then (match sumP T V (j2 + 1) with
      | .error e => .error e
      | .ok (j3, u2) => .ok (j3, u ++ u2 ++ [(T j2 - 143, 0)])) else .error (1, j2)
def clauseP : Nat → Nat → tRes
  | 0, j => if T j = 140 ∨ T j = 6 then .error (3, j) else relP T V j
  | b + 1, j => if T j = 140 then (match condP T (clauseP b) (j + 1) with
      | .error e => .error e
      | .ok (j2, u) => if T j2 = 141 then .ok (j2 + 1, u) else .error (1, j2))
    else if T j = 6 then (match clauseP b (j + 1) with
      | .error e => .error e
      | .ok (j2, u) => .ok (j2, u ++ [(20, 0)]))
    else relP T V j
def lineP (j : Nat) : Except (Nat × Nat) (Nat × pa_Ln) := match sumP T V (j + 1) with
  | .error e => .error e
  | .ok (j2, u) => if T j2 = 3 then (match condP T (clauseP T V 8) (j2 + 1) with
      | .error e => .error e
      | .ok (j3, t) => if T j3 = 159 then .ok (j3 + 1, (u, some t)) else .error (1, j3))
    else if T j2 = 159 then .ok (j2 + 1, (u, none)) else .error (1, j2)
def textL : Nat → Nat → List pa_Ln → Except (Nat × Nat) (List pa_Ln)
  | 0, j, _ => .error (9, j)
  | n + 1, j, pr => if T j = 0 then .ok pr else if T j = 20 then (if pr.length = 16 then .error (3, j) else (match lineP T V j with
      | .error e => .error e
      | .ok (j2, x) => textL n j2 (pr ++ [x]))) else .error (1, j)
end GR
/-! the sorts -/
def seg (u : List pa_Op) (k : Nat) (t : List Bool) : Prop := ∀ st : List Bool, st.length + k ≤ 40 → pa_sos u st = some (t ++ st)
theorem pa_sos_app : ∀ (a c : List pa_Op) (st : List Bool), pa_sos (a ++ c) st = (pa_sos a st).bind (pa_sos c)
  | [], c, st => rfl
  | o :: a, c, st => by
    show (if st.length < 40 then (pa_so o st).bind (pa_sos (a ++ c)) else none) = (if st.length < 40 then (pa_so o st).bind (pa_sos a) else none).bind (pa_sos c)
    by_cases h : st.length < 40
    · rw [if_pos h, if_pos h]
      cases pa_so o st with
      | none => rfl
      | some s2 => exact pa_sos_app a c s2
    · rw [if_neg h, if_neg h]; rfl
theorem seg.app {a c : List pa_Op} {k k2 : Nat} {t t2 : List Bool} (h : seg a k t) (g : ∀ st : List Bool, st.length + k ≤ 40 → pa_sos c (t ++ st) = some (t2 ++ st)) (hk : k ≤ k2) : seg (a ++ c) k2 t2 := fun st hs => by
  rw [pa_sos_app, h st (by omega)]
  exact g st (by omega)
theorem sos_1 {o : pa_Op} {st st2 : List Bool} (h : st.length < 40) (e : pa_so o st = some st2) : pa_sos [o] st = some st2 := by
  show (if st.length < 40 then (pa_so o st).bind (pa_sos []) else none) = _
  rw [if_pos h, e]; rfl
section SG
variable {T V : Nat → Nat}
theorem unitP_seg (hV : ∀ j, V j < 2 ^ 31) {j j2 : Nat} {u : List pa_Op} (h : unitP T V j = .ok (j2, u)) (st : List Bool) (hs : st.length < 40) : pa_sos u st = some (false :: st) := by
  unfold unitP at h
  split at h
  · cases h
    refine sos_1 hs ?_
    show (if (0 : Int) ≤ (nI (V j)).toInt then some (false :: st) else none) = _
    rw [if_pos (by rw [nI_toInt (hV j)]; omega)]
  · split at h
    · rename_i c
      cases h
      refine sos_1 hs ?_
      unfold pa_so
      rw [if_neg (by show ¬ T j - 40 = 0; omega), if_pos (by show T j - 40 ≤ 7; omega)]
    · cases h
theorem divP_seg (hV : ∀ j, V j < 2 ^ 31) {j j2 : Nat} {u : List pa_Op} (h : divP T V j = .ok (j2, u)) (st : List Bool) (hs : st.length < 39) : pa_sos u (false :: st) = some (false :: st) := by
  unfold divP at h
  split at h
  · split at h
    · cases h
    · cases h
      refine sos_1 (by show st.length + 1 < 40; omega) ?_
      show (if (1 : Int) ≤ (nI (V j)).toInt then some (false :: st) else none) = _
      rw [if_pos (by rw [nI_toInt (hV j)]; omega)]
  · cases h
theorem wl_seg (hV : ∀ j, V j < 2 ^ 31) {w : Option Nat} (hw : ∀ o, w = some o → o = 13 ∨ o = 14) (st : List Bool) (hs : st.length + 2 < 40) : pa_sos (wl w) ((if w.isSome then [false, false] else [false]) ++ st) = some (false :: st) := by
  cases w with
  | none => rfl
  | some o =>
    refine sos_1 (by show st.length + 1 + 1 < 40; omega) ?_
    rcases hw o rfl with rfl | rfl <;> rfl
theorem sumL_seg (hV : ∀ j, V j < 2 ^ 31) : ∀ n j acc w j2 u, (∀ o, w = some o → o = 13 ∨ o = 14) → seg acc 4 (if w.isSome then [false, false] else [false]) → sumL T V n j acc w = .ok (j2, u) → seg u 4 [false]
  | 0, _, _, _, _, _, _, _, h => by cases h
  | n + 1, j, acc, w, j2, u, hw, ha, h => by
    unfold sumL at h
    have lw := fun (x : List Bool) (st : List Bool) => (List.length_append (as := x) (bs := st))
    split at h
    · cases e : unitP T V (j + 1) with
      | error q => rw [e] at h; cases h
      | ok q =>
        obtain ⟨j3, v⟩ := q
        rw [e] at h
        refine sumL_seg hV n j3 _ (some 13) j2 u (fun o ho => by cases ho; exact Or.inl rfl) ?_ h
        refine (ha.app (k2 := 4) (t2 := [false]) (fun st hs => wl_seg hV hw st (by omega)) (Nat.le_refl _)).app (fun st hs => ?_) (Nat.le_refl _)
        exact unitP_seg hV e _ (by show st.length + 1 < 40; omega)
    · split at h
      · cases e : unitP T V (j + 1) with
        | error q => rw [e] at h; cases h
        | ok q =>
          obtain ⟨j3, v⟩ := q
          rw [e] at h
          refine sumL_seg hV n j3 _ (some 14) j2 u (fun o ho => by cases ho; exact Or.inr rfl) ?_ h
          refine (ha.app (k2 := 4) (t2 := [false]) (fun st hs => wl_seg hV hw st (by omega)) (Nat.le_refl _)).app (fun st hs => ?_) (Nat.le_refl _)
          exact unitP_seg hV e _ (by show st.length + 1 < 40; omega)
      · split at h
        · cases e : unitP T V (j + 1) with
          | error q => rw [e] at h; cases h
          | ok q =>
            obtain ⟨j3, v⟩ := q
            rw [e] at h
            refine sumL_seg hV n j3 _ w j2 u hw ?_ h
            refine (ha.app (k2 := 4) (t2 := false :: (if w.isSome then [false, false] else [false])) (fun st hs => ?_) (Nat.le_refl _)).app (fun st hs => ?_) (Nat.le_refl _)
            · exact unitP_seg hV e _ (by rw [List.length_append]; cases w <;> simp <;> omega)
            · cases w with
              | none => exact sos_1 (by show st.length + 1 + 1 < 40; omega) rfl
              | some o => exact sos_1 (by show st.length + 1 + 1 + 1 < 40; omega) rfl
        · split at h
          · cases e : divP T V (j + 1) with
            | error q => rw [e] at h; cases h
            | ok q =>
              obtain ⟨j3, v⟩ := q
              rw [e] at h
              refine sumL_seg hV n j3 _ w j2 u hw ?_ h
              refine ha.app (fun st hs => ?_) (Nat.le_refl _)
              cases w with
              | none => exact divP_seg hV e st (by omega)
              | some o => exact divP_seg hV e (false :: st) (by show st.length + 1 < 39; omega)
          · cases h
            exact ha.app (fun st hs => wl_seg hV hw st (by omega)) (Nat.le_refl _)
theorem sumP_seg (hV : ∀ j, V j < 2 ^ 31) {j j2 : Nat} {u : List pa_Op} (h : sumP T V j = .ok (j2, u)) : seg u 4 [false] := by
  unfold sumP at h
  cases e : unitP T V j with
  | error q => rw [e] at h; cases h
  | ok q =>
    obtain ⟨j3, v⟩ := q
    rw [e] at h
    exact sumL_seg hV 401 j3 v none j2 u (fun o ho => by cases ho) (fun st hs => unitP_seg hV e st (by omega)) h
theorem relP_seg (hV : ∀ j, V j < 2 ^ 31) {j j2 : Nat} {u : List pa_Op} (h : relP T V j = .ok (j2, u)) : seg u 5 [true] := by
  unfold relP at h
  cases e : sumP T V j with
  | error q => rw [e] at h; cases h
  | ok q =>
    obtain ⟨j3, v⟩ := q
    rw [e] at h
    dsimp only at h
    split at h
    · rename_i c
      cases e2 : sumP T V (j3 + 1) with
      | error q => rw [e2] at h; cases h
      | ok q =>
        obtain ⟨j4, v2⟩ := q
        rw [e2] at h
        cases h
        have s1 : seg (v ++ v2) 5 [false, false] := (show seg v 5 [false] from fun st hs => sumP_seg hV e st (by omega)).app (fun st hs => sumP_seg hV e2 (false :: st) (by show st.length + 1 + 4 ≤ 40; omega)) (Nat.le_refl _)
        refine s1.app (fun st hs => sos_1 (by show st.length + 1 + 1 < 40; omega) ?_) (Nat.le_refl _)
        rcases c with c | c | c <;> rw [c] <;> rfl
    · cases h
theorem condL_seg (hV : ∀ j, V j < 2 ^ 31) {cl : Nat → tRes} {k : Nat} (hc : ∀ j j2 u, cl j = .ok (j2, u) → seg u k [true]) (h3 : 3 ≤ k) : ∀ n j acc w j2 u, seg acc (k + 2) (if w then [true, true] else [true]) → condL T cl n j acc w = .ok (j2, u) → seg u (k + 2) [true]
  | 0, _, _, _, _, _, _, h => by cases h
  | n + 1, j, acc, w, j2, u, ha, h => by
    unfold condL at h
    have fin : seg (acc ++ wo w) (k + 2) [true] := ha.app (fun st hs => by
      cases w with
      | false => rfl
      | true => exact sos_1 (by show st.length + 1 + 1 < 40; omega) rfl) (Nat.le_refl _)
    split at h
    · cases e : cl (j + 1) with
      | error q => rw [e] at h; cases h
      | ok q =>
        obtain ⟨j3, v⟩ := q
        rw [e] at h
        refine condL_seg hV hc h3 n j3 _ w j2 u ?_ h
        refine (ha.app (k2 := k + 2) (t2 := true :: (if w then [true, true] else [true])) (fun st hs => ?_) (Nat.le_refl _)).app (fun st hs => ?_) (Nat.le_refl _)
        · exact hc _ _ _ e _ (by rw [List.length_append]; cases w <;> simp <;> omega)
        · cases w with
          | false => exact sos_1 (by show st.length + 1 + 1 < 40; omega) rfl
          | true => exact sos_1 (by show st.length + 1 + 1 + 1 < 40; omega) rfl
    · split at h
      · cases e : cl (j + 1) with
        | error q => rw [e] at h; cases h
        | ok q =>
          obtain ⟨j3, v⟩ := q
          rw [e] at h
          refine condL_seg hV hc h3 n j3 _ true j2 u ?_ h
          exact fin.app (fun st hs => hc _ _ _ e (true :: st) (by show st.length + 1 + k ≤ 40; omega)) (Nat.le_refl _)
      · cases h
        exact fin
theorem condP_seg (hV : ∀ j, V j < 2 ^ 31) {cl : Nat → tRes} {k : Nat} (hc : ∀ j j2 u, cl j = .ok (j2, u) → seg u k [true]) (h3 : 3 ≤ k) {j j2 : Nat} {u : List pa_Op} (h : condP T cl j = .ok (j2, u)) : seg u (k + 2) [true] := by
  unfold condP at h
  cases e : cl j with
  | error q => rw [e] at h; cases h
  | ok q =>
    obtain ⟨j3, v⟩ := q
    rw [e] at h
    exact condL_seg hV hc h3 401 j3 v false j2 u (fun st hs => hc _ _ _ e st (by omega)) h
theorem clauseP_seg (hV : ∀ j, V j < 2 ^ 31) : ∀ b j j2 u, clauseP T V b j = .ok (j2, u) → seg u (2 * b + 5) [true]
  | 0, j, j2, u, h => by
    unfold clauseP at h
    split at h
    · cases h
    · exact relP_seg hV h
  | b + 1, j, j2, u, h => by
    unfold clauseP at h
    split at h
    · cases e : condP T (clauseP T V b) (j + 1) with
      | error q => rw [e] at h; cases h
      | ok q =>
        obtain ⟨j3, v⟩ := q
        rw [e] at h
        dsimp only at h
        split at h
        · cases h
          have := condP_seg hV (fun j j2 u q => clauseP_seg hV b j j2 u q) (by omega) e
          exact fun st hs => this st (by omega)
        · cases h
    · split at h
      · cases e : clauseP T V b (j + 1) with
        | error q => rw [e] at h; cases h
        | ok q =>
          obtain ⟨j3, v⟩ := q
          rw [e] at h
          cases h
          have := clauseP_seg hV b _ _ _ e
          exact this.app (fun st hs => sos_1 (by show st.length + 1 < 40; omega) rfl) (by omega)
      · exact fun st hs => relP_seg hV h st (by omega)
theorem lineP_ok (hV : ∀ j, V j < 2 ^ 31) {j j2 : Nat} {x : pa_Ln} (h : lineP T V j = .ok (j2, x)) : pa_okL x := by
  unfold lineP at h
  cases e : sumP T V (j + 1) with
  | error q => rw [e] at h; cases h
  | ok q =>
    obtain ⟨j3, v⟩ := q
    rw [e] at h
    dsimp only at h
    have s1 : pa_sos v [] = some [false] := sumP_seg hV e [] (by decide)
    split at h
    · cases e2 : condP T (clauseP T V 8) (j3 + 1) with
      | error q => rw [e2] at h; cases h
      | ok q =>
        obtain ⟨j4, t⟩ := q
        rw [e2] at h
        dsimp only at h
        split at h
        · cases h
          refine ⟨s1, fun t' ht => ?_⟩
          cases ht
          exact condP_seg hV (fun j j2 u q => clauseP_seg hV 8 j j2 u q) (by decide) e2 [] (by decide)
        · cases h
    · split at h
      · cases h
        exact ⟨s1, fun t' ht => by cases ht⟩
      · cases h
theorem textL_ok (hV : ∀ j, V j < 2 ^ 31) : ∀ n j pr r, textL T V n j pr = .ok r → (∀ x ∈ pr, pa_okL x) → pr.length ≤ 16 → (∀ x ∈ r, pa_okL x) ∧ r.length ≤ 16
  | 0, _, _, _, h, _, _ => by cases h
  | n + 1, j, pr, r, h, ho, hl => by
    unfold textL at h
    split at h
    · cases h; exact ⟨ho, hl⟩
    · split at h
      · split at h
        · cases h
        · cases e : lineP T V j with
          | error q => rw [e] at h; cases h
          | ok q =>
            obtain ⟨j2, x⟩ := q
            rw [e] at h
            refine textL_ok hV n j2 _ r h (fun y hy => ?_) (by rw [List.length_append]; show pr.length + 1 ≤ 16; omega)
            rw [List.mem_append, List.mem_singleton] at hy
            rcases hy with hy | rfl
            · exact ho y hy
            · exact lineP_ok hV e
      · cases h
end SG
