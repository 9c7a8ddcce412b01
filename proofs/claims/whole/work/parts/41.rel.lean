/-! WHAT THE TWO SIDES HAVE IN COMMON -/
def stit (W H s : Nat) : Bool := decide (s % 8 < W) && decide (s / 8 < H)
/-- the cloth: the class's Fabric (ints I, longs J) and the model's row w -/
def pa_F (W H : Nat) (b : Bool) (I : Nat → Int32) (J : Nat → Int64) (w : Nat → Int32) : Prop :=
  (2 ≤ W ∧ W ≤ 6 ∧ 2 ≤ H ∧ H ≤ 6) ∧ (I 0 = nI W ∧ I 1 = nI H ∧ I 2 = b2i b ∧ w 0 = nI W ∧ w 1 = nI H ∧ w 2 = b2i b) ∧
  (∀ s, s < 64 → tb (J 3) s = stit W H s) ∧
  (∀ s, s < 64 → w (10 + s) = nI ((tb (J 4) s).toNat + 2 * (tb (J 5) s).toNat)) ∧
  (∀ s, s < 64 → w (74 + s) = b2i (tb (J 6) s)) ∧
  (∀ s, s < 64 → w (138 + s) = b2i (tb (J 7) s)) ∧
  (∀ s, s < 64 → w (1490 + s) = b2i (tb (J 8) s)) ∧
  (∀ s, s < 64 → w (202 + s) = b2i (tb (J 9) s)) ∧
  (∀ s, s < 64 → stit W H s = false → tb (J 4) s = false ∧ tb (J 5) s = false ∧ tb (J 6) s = false ∧ tb (J 7) s = false ∧ tb (J 8) s = false) ∧
  (∀ k, k < 64 → tb (J 9) k = true → k + 1 < W * H) ∧
  (∀ s, s < 64 → tb (J 8) s = true → tb (J 6) s = false)
/-- book, wool -/
def pa_B (nb : Nat) (bc : Int32) (bh bs bw : Nat → Int32) (w : Nat → Int32) : Prop :=
  nb ≤ 100 ∧ bc = nI nb ∧ w 4 = nI nb ∧ ∀ i, i < nb → bh i = w (300 + 3 * i) ∧ bs i = w (301 + 3 * i) ∧ bw i = w (302 + 3 * i)
def pa_U (nl : Nat) (lc : Int32) (ll : Nat → Int32) (w : Nat → Int32) : Prop :=
  nl ≤ 20 ∧ lc = nI nl ∧ w 3 = nI nl ∧ ∀ i, i < nl → ∃ v : Nat, 1 ≤ v ∧ v ≤ 180 ∧ ll i = nI v ∧ w (270 + i) = nI v
/-- an op of a law: (0, v) a number; (1 .. 7, _) a trait; 13 + 14 - 15 * (16, v) / v; 17 < 18 = 19 >; 20 not 21 and 22 or. A line: its worth, its test (none: no when) -/
abbrev pa_Op : Type := Nat × Int32
abbrev pa_Ln : Type := List pa_Op × Option (List pa_Op)
def pa_enc (o : pa_Op) : List Int32 :=
  if o.1 = 0 then [o.2] else if o.1 ≤ 7 then [-10 - nI o.1] else if o.1 = 16 then [o.2, -4] else if o.1 = 20 then [-10] else
  if o.1 = 13 then [-1] else if o.1 = 14 then [-2] else if o.1 = 15 then [-3] else if o.1 = 17 then [-5] else if o.1 = 18 then [-6] else if o.1 = 19 then [-7] else if o.1 = 21 then [-8] else [-9]
def pa_encL (x : pa_Ln) : List Int32 := x.1.flatMap pa_enc ++ (match x.2 with
  | none => [-18]
  | some t => t.flatMap pa_enc ++ [-19])
/-- the sort of each place of the stack behind an op (true: a truth); none: not well formed -/
def pa_so (o : pa_Op) (st : List Bool) : Option (List Bool) :=
  if o.1 = 0 then (if 0 ≤ o.2.toInt then some (false :: st) else none) else if o.1 ≤ 7 then some (false :: st) else if o.1 = 16 then (match st with
    | false :: r => if 1 ≤ o.2.toInt then some (false :: r) else none
    | _ => none) else if o.1 = 20 then (match st with
    | true :: r => some (true :: r)
    | _ => none) else if o.1 = 13 ∨ o.1 = 14 ∨ o.1 = 15 then (match st with
    | false :: false :: r => some (false :: r)
    | _ => none) else if o.1 = 17 ∨ o.1 = 18 ∨ o.1 = 19 then (match st with
    | false :: false :: r => some (true :: r)
    | _ => none) else if o.1 = 21 ∨ o.1 = 22 then (match st with
    | true :: true :: r => some (true :: r)
    | _ => none) else none
/-- ops in a row; the stack never stands above 40 -/
def pa_sos : List pa_Op → List Bool → Option (List Bool)
  | [], st => some st
  | o :: l, st => if st.length < 40 then (pa_so o st).bind (pa_sos l) else none
def pa_okL (x : pa_Ln) : Prop := pa_sos x.1 [] = some [false] ∧ ∀ t, x.2 = some t → pa_sos t [] = some [true]
def pa_ops (x : pa_Ln) : List pa_Op := x.1 ++ x.2.getD []
/-- the model's rows: where line i begins, its middle, its end; the steps -/
def pa_M (pr : List pa_Ln) (w : Nat → Int32) : Prop :=
  w 605 = nI pr.length ∧
  (∀ i, i < pr.length → w (610 + i) = nI ((pr.take i).flatMap pa_ops).length ∧ w (630 + i) = nI (((pr.take i).flatMap pa_ops).length + ((pr[i]?.map (·.1)).getD []).length) ∧ w (650 + i) = nI ((pr.take (i + 1)).flatMap pa_ops).length) ∧
  (∀ j o, (pr.flatMap pa_ops)[j]? = some o → w (670 + 2 * j) = nI o.1 ∧ ((o.1 = 0 ∨ o.1 = 16) → w (671 + 2 * j) = o.2))
def pa_L (pr : List pa_Ln) (code : Nat → Int32) (len lines : Int32) (w : Nat → Int32) : Prop :=
  pr.length ≤ 16 ∧ (pr.flatMap pa_ops).length ≤ 400 ∧ (pr.flatMap pa_encL).length ≤ 400 ∧ (∀ x ∈ pr, pa_okL x) ∧
  len = nI (pr.flatMap pa_encL).length ∧ lines = nI pr.length ∧ (∀ j v, (pr.flatMap pa_encL)[j]? = some v → code j = v) ∧ pa_M pr w
/-- a Whole of the class and a row of the model -/
def pa_W (W H : Nat) (b : Bool) (hr nb nl : Nat) (pr : List pa_Ln) (h1 d1 : Int32) (I8 : Nat → Int32) (J8 : Nat → Int64) (len lines : Int32) (code : Nat → Int32) (bc : Int32) (bh bs bw : Nat → Int32) (lc : Int32) (ll : Nat → Int32) (w : Nat → Int32) : Prop :=
  pa_F W H b I8 J8 w ∧ (hr ≤ 9999 ∧ h1 = nI hr ∧ w 5 = nI hr) ∧ d1 = w 6 ∧ pa_B nb bc bh bs bw w ∧ pa_U nl lc ll w ∧ pa_L pr code len lines w
/-- steps that can be undone: n of them, the next slot m -/
def pa_P (W H nb nl n m : Nat) (ph pw pc : Nat → Int64) (phr pdr pli ple : Nat → Int32) (back : Nat → Int32) : Prop :=
  n ≤ 8 ∧ m < 8 ∧ (∀ i, i < n →
    (∀ s, s < 64 → back (196 * i + 4 + s) = b2i (tb (ph ((m + 8 - n + i) % 8)) s) ∧ back (196 * i + 68 + s) = b2i (tb (pc ((m + 8 - n + i) % 8)) s) ∧ back (196 * i + 132 + s) = b2i (tb (pw ((m + 8 - n + i) % 8)) s)) ∧
    (∀ s, s < 64 → stit W H s = false → tb (ph ((m + 8 - n + i) % 8)) s = false ∧ tb (pw ((m + 8 - n + i) % 8)) s = false) ∧
    (∀ k, k < 64 → tb (pc ((m + 8 - n + i) % 8)) k = true → k + 1 < W * H) ∧
    (∀ s, s < 64 → tb (pw ((m + 8 - n + i) % 8)) s = true → tb (ph ((m + 8 - n + i) % 8)) s = false) ∧
    (∃ v : Nat, v ≤ 9999 ∧ phr ((m + 8 - n + i) % 8) = nI v ∧ back (196 * i + 2) = nI v) ∧ (pdr ((m + 8 - n + i) % 8) = back (196 * i + 3))) ∧
  ∃ cb cl : Nat → Nat, (∀ i, i < n → pli ((m + 8 - n + i) % 8) = nI (cb i) ∧ back (196 * i + 1) = nI (cb i) ∧ ple ((m + 8 - n + i) % 8) = nI (cl i) ∧ back (196 * i) = nI (cl i) ∧ cb i ≤ nb ∧ cl i ≤ nl) ∧ ∀ i j, i ≤ j → j < n → cb i ≤ cb j ∧ cl i ≤ cl j
def pa_T (n : Nat) (by_ tp : Nat → Int32) : Prop := n ≤ 400 ∧ ∀ i, i < n → ∃ c : Nat, c < 256 ∧ by_ i &&& 255 = nI c ∧ tp i = nI c
/-- what is now -/
def pa_A (W H : Nat) (b : Bool) (hr nb nl : Nat) (pr : List pa_Ln) (n m : Nat) (zC zM : pj_S) : Prop :=
  pa_W W H b hr nb nl pr (zC.1 1 4) (zC.1 1 5) (zC.1 8) (zC.2 8) (zC.1 9 2) (zC.1 9 3) (zC.1 29) (zC.1 10 3) (zC.1 31) (zC.1 32) (zC.1 33) (zC.1 11 1) (zC.1 34) (zM.1 1) ∧
  zC.1 3 7 = nI n ∧ zM.1 0 3 = nI n ∧ zC.1 3 8 = nI m ∧ pa_P W H nb nl n m (zC.2 16) (zC.2 17) (zC.2 18) (zC.1 19) (zC.1 20) (zC.1 21) (zC.1 22) (zM.1 3)
/-- what is kept beside: image, tape, fault -/
def pa_K (zC zM : pj_S) : Prop :=
  (∃ im : Bool, zC.1 0 7 = b2i im ∧ zM.1 0 4 = b2i im ∧ (im = true → ∃ (W H : Nat) (b : Bool) (hr nb nl : Nat) (pr : List pa_Ln), pa_W W H b hr nb nl pr (zC.1 2 4) (zC.1 2 5) (zC.1 12) (zC.2 12) (zC.1 13 2) (zC.1 13 3) (zC.1 35) (zC.1 14 3) (zC.1 37) (zC.1 38) (zC.1 39) (zC.1 15 1) (zC.1 40) (zM.1 2))) ∧
  (∃ n : Nat, zC.1 4 1 = nI n ∧ zM.1 0 12 = nI n ∧ pa_T n (zC.1 23) (zM.1 6)) ∧
  zC.1 5 8 = zM.1 0 19 ∧ zC.1 5 9 = zM.1 0 21
/-- THE INVARIANT -/
def pa_I (zC zM : pj_S) : Prop := (∃ (W H : Nat) (b : Bool) (hr nb nl : Nat) (pr : List pa_Ln) (n m : Nat), pa_A W H b hr nb nl pr n m zC zM) ∧ pa_K zC zM
theorem pa_P.none {W H nb nl m : Nat} (hm : m < 8) {ph pw pc : Nat → Int64} {phr pdr pli ple back : Nat → Int32} : pa_P W H nb nl 0 m ph pw pc phr pdr pli ple back :=
  ⟨by omega, hm, fun i h => absurd h (by omega), fun _ => 0, fun _ => 0, fun i h => absurd h (by omega), fun i j _ h => absurd h (by omega)⟩
/-! what of w each part reads -/
def rgF (i : Nat) : Prop := i ≤ 2 ∨ (10 ≤ i ∧ i < 266) ∨ (1490 ≤ i ∧ i < 1554)
theorem pa_F.w {W H : Nat} {b : Bool} {I : Nat → Int32} {J : Nat → Int64} {w w' : Nat → Int32} (h : pa_F W H b I J w) (e : ∀ i, rgF i → w' i = w i) : pa_F W H b I J w' := by
  obtain ⟨h1, ⟨a1, a2, a3, a4, a5, a6⟩, h3, h4, h5, h6, h7, h8, h9⟩ := h
  unfold rgF at e
  refine ⟨h1, ⟨a1, a2, a3, ?_, ?_, ?_⟩, h3, fun s hs => ?_, fun s hs => ?_, fun s hs => ?_, fun s hs => ?_, fun s hs => ?_, h9⟩
  · rw [e 0 (by omega)]; exact a4
  · rw [e 1 (by omega)]; exact a5
  · rw [e 2 (by omega)]; exact a6
  · rw [e _ (by omega)]; exact h4 s hs
  · rw [e _ (by omega)]; exact h5 s hs
  · rw [e _ (by omega)]; exact h6 s hs
  · rw [e _ (by omega)]; exact h7 s hs
  · rw [e _ (by omega)]; exact h8 s hs
theorem pa_B.w {nb : Nat} {bc : Int32} {bh bs bw w w' : Nat → Int32} (h : pa_B nb bc bh bs bw w) (e : ∀ i, (i = 4 ∨ (300 ≤ i ∧ i < 600)) → w' i = w i) : pa_B nb bc bh bs bw w' := by
  obtain ⟨h1, h2, h3, h4⟩ := h
  refine ⟨h1, h2, by rw [e 4 (by omega)]; exact h3, fun i hi => ?_⟩
  rw [e _ (by omega), e _ (by omega), e _ (by omega)]
  exact h4 i hi
theorem pa_U.w {nl : Nat} {lc : Int32} {ll w w' : Nat → Int32} (h : pa_U nl lc ll w) (e : ∀ i, (i = 3 ∨ (270 ≤ i ∧ i < 290)) → w' i = w i) : pa_U nl lc ll w' := by
  obtain ⟨h1, h2, h3, h4⟩ := h
  refine ⟨h1, h2, by rw [e 3 (by omega)]; exact h3, fun i hi => ?_⟩
  rw [e _ (by omega)]
  exact h4 i hi
theorem pa_L.w {pr : List pa_Ln} {code : Nat → Int32} {len lines : Int32} {w w' : Nat → Int32} (h : pa_L pr code len lines w) (e : ∀ i, 605 ≤ i → i < 1490 → w' i = w i) : pa_L pr code len lines w' := by
  obtain ⟨h1, h2, h3, h4, h5, h6, h7, m1, m2, m3⟩ := h
  refine ⟨h1, h2, h3, h4, h5, h6, h7, by rw [e 605 (by omega) (by omega)]; exact m1, fun i hi => ?_, fun j o hj => ?_⟩
  · rw [e _ (by omega) (by omega), e _ (by omega) (by omega), e _ (by omega) (by omega)]
    exact m2 i hi
  · have := (List.getElem?_eq_some_iff.mp hj).1
    rw [e _ (by omega) (by omega), e _ (by omega) (by omega)]
    exact m3 j o hj
/-! simple words -/
theorem pj_gIn {β : Type} {x : Option β} {n N : Nat} (h : n < N) (hN : N < 2 ^ 31) : pj_g (pj_in (nI n) N) x = x := pj_gT (decide_eq_true (vp_in_nI h hN))
theorem pj_gB0 {β : Type} {x : Option β} : pj_g (pj_bo (nI 0)) x = x := rfl
theorem pj_gB1 {β : Type} {x : Option β} : pj_g (pj_bo (nI 1)) x = x := rfl
theorem pj_gBb {β : Type} {x : Option β} {b : Bool} : pj_g (pj_bo (b2i b)) x = x := by cases b <;> rfl
theorem pj_gNz {β : Type} {x : Option β} {n : Nat} (h : 0 < n) (hN : n < 2 ^ 31) : pj_g (pj_nz (nI n)) x = x := pj_gT (decide_eq_true (nI_ne0 h hN))
theorem b2i_t : b2i true = nI 1 := rfl
theorem b2i_f : b2i false = nI 0 := rfl
/-- the value lies between -/
def isin (v : Int32) (a b : Int) : Bool := decide (a ≤ v.toInt) && decide (v.toInt ≤ b)
theorem Md_isIn_eq (v a b : Int32) (z : pj_S) : Md_isInM v a b z = some (b2i (isin v a.toInt b.toInt), z) := by
  unfold Md_isInM isin
  by_cases h1 : v < a
  · rw [if_pos h1, pj_gB0]
    have h1 := Int32.lt_iff_toInt_lt.mp h1
    have : ¬ a.toInt ≤ v.toInt := by omega
    simp [this, b2i_f]
  · rw [if_neg h1]
    have h3 : a.toInt ≤ v.toInt := by rw [Int32.lt_iff_toInt_lt] at h1; omega
    by_cases h2 : b < v
    · rw [if_pos h2, pj_gB0]
      have h2 := Int32.lt_iff_toInt_lt.mp h2
      have : ¬ v.toInt ≤ b.toInt := by omega
      simp [this, b2i_f]
    · rw [if_neg h2, pj_gB1]
      have : v.toInt ≤ b.toInt := by rw [Int32.lt_iff_toInt_lt] at h2; omega
      simp [this, h3, b2i_t]
theorem isin_n {v : Int32} {n : Nat} (hn : n < 2 ^ 31) (h : isin v 0 n = true) : ∃ k : Nat, k ≤ n ∧ v = nI k := by
  unfold isin at h
  simp only [Bool.and_eq_true, decide_eq_true_eq] at h
  obtain ⟨k, hk, rfl⟩ := nI_of (x := v) (by rw [Int32.lt_iff_toInt_lt]; simp; omega)
  rw [nI_toInt hk] at h
  exact ⟨k, by omega, rfl⟩
theorem isin_nI {k n : Nat} (hk : k < 2 ^ 31) : isin (nI k) 0 n = decide (k ≤ n) := by
  unfold isin
  rw [nI_toInt hk]
  by_cases h : k ≤ n
  · simp [h]
  · simp [h]
/-! state, fault, end -/
theorem ok_fault (a : Int32) : pj_ok pa_I (PJ_fault a) (Md_fault a) := by
  intro zC zM h
  obtain ⟨-, -, -, h1, h2⟩ := id h
  unfold PJ_fault Md_fault
  rw [h1, h2]
  by_cases c1 : a = 0
  · rw [if_pos c1, if_pos c1]; exact ⟨_, _, _, rfl, rfl, h⟩
  · rw [if_neg c1, if_neg c1]
    by_cases c2 : a = nI 1
    · rw [if_pos c2, if_pos c2]; exact ⟨_, _, _, rfl, rfl, h⟩
    · rw [if_neg c2, if_neg c2]; exact ⟨_, _, _, rfl, rfl, h⟩
