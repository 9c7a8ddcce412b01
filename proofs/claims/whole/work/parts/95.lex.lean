/-! tokens of a tape -/
def isL (c : Nat) : Bool := (decide (97 ≤ c) && decide (c ≤ 122)) || (decide (65 ≤ c) && decide (c ≤ 90))
def isD (c : Nat) : Bool := decide (48 ≤ c) && decide (c ≤ 57)
def isB (c : Nat) : Bool := decide (c = 32) || decide (c = 10)
def isS (c : Nat) : Bool := c == 59 || c == 43 || c == 45 || c == 42 || c == 47 || c == 40 || c == 41 || c == 60 || c == 61 || c == 62
def wdN : List (List Nat) := [[114, 117, 110], [119, 104, 101, 110], [111, 114], [97, 110, 100], [110, 111, 116], [107, 105, 110, 100], [114, 111, 119], [99, 111, 108, 117, 109, 110], [98, 101, 115, 105, 100, 101], [98, 101, 108, 111, 119], [104, 111, 117, 114], [103, 111, 110, 101]]
def wd (k : Nat) : List Nat := wdN.getD k []
def tokW (l : List Nat) : Nat := if l = wd 1 then 3 else if l = wd 2 then 4 else if l = wd 3 then 5 else if l = wd 4 then 6 else if l = wd 0 then 20 else if l = wd 5 then 41 else if l = wd 6 then 42 else if l = wd 7 then 43 else if l = wd 8 then 44 else if l = wd 9 then 45 else if l = wd 10 then 46 else if l = wd 11 then 47 else 1
def skp (f : Nat → Bool) : Nat → Nat → Nat
  | 0, p => p
  | d + 1, p => if f p then skp f d (p + 1) else p
section LX
variable (B : Nat → Nat) (n : Nat)
def sg (p : Nat) : Nat := if p < n then B p else 999
def lrun (f : Nat → Bool) (p : Nat) : Nat := skp (fun i => f (sg B n i)) (n - p) p
def lseg (s e : Nat) : List Nat := (List.range (e - s)).map (fun i => B (s + i))
def enP (s : Nat) : Nat := if sg B n s = 999 then s else if isL (sg B n s) then lrun B n isL s else if isD (sg B n s) then lrun B n isD s else s + 1
def tkP (s : Nat) : Nat := if sg B n s = 999 then 0 else if isL (sg B n s) then tokW (lseg B s (enP B n s)) else if isD (sg B n s) then (if enP B n s - s ≤ 4 then 2 else 1) else if isS (sg B n s) then 100 + sg B n s else 1
def vlF : Nat → Nat → Nat → Nat
  | 0, _, a => a
  | d + 1, s, a => vlF d (s + 1) (10 * a + B s - 48)
def vlP (s : Nat) : Nat := if tkP B n s = 2 ∧ enP B n s - s ≤ 4 then vlF B (enP B n s - s) s 0 else 0
def lP : Nat → Nat
  | 0 => lrun B n isB 0
  | j + 1 => lrun B n isB (enP B n (lP j))
def lT (j : Nat) : Nat := tkP B n (lP B n j)
def lV (j : Nat) : Nat := vlP B n (lP B n j)
def lE (j : Nat) : Nat := enP B n (lP B n j)
end LX
section LF
variable {B : Nat → Nat} {n : Nat}
theorem sg_ge {p : Nat} (h : n ≤ p) : sg B n p = 999 := by unfold sg; rw [if_neg (by omega)]
theorem sg_lt {p : Nat} (h : p < n) : sg B n p = B p := by unfold sg; rw [if_pos h]
theorem skp_spec {f : Nat → Bool} : ∀ d p, p ≤ skp f d p ∧ skp f d p ≤ p + d ∧ (∀ i, p ≤ i → i < skp f d p → f i = true) ∧ (skp f d p < p + d → f (skp f d p) = false)
  | 0, p => ⟨Nat.le_refl _, Nat.le_refl _, fun i a b => by
      have b : i < p := b
      omega, fun h => by
      have h : p < p + 0 := h
      omega⟩
  | d + 1, p => by
    unfold skp
    by_cases c : f p = true
    · rw [if_pos c]
      obtain ⟨h1, h2, h3, h4⟩ := skp_spec (f := f) d (p + 1)
      refine ⟨by omega, by omega, fun i a b => ?_, fun h => h4 (by omega)⟩
      by_cases ci : i = p
      · subst ci; exact c
      · exact h3 i (by omega) b
    · rw [if_neg c]
      refine ⟨Nat.le_refl _, by omega, fun i a b => by omega, fun _ => ?_⟩
      cases q : f p
      · rfl
      · exact absurd q c
theorem lrun_spec {f : Nat → Bool} (h9 : f 999 = false) (p : Nat) : p ≤ lrun B n f p ∧ (p ≤ n → lrun B n f p ≤ n) ∧ (∀ i, p ≤ i → i < lrun B n f p → f (sg B n i) = true) ∧ f (sg B n (lrun B n f p)) = false := by
  unfold lrun
  obtain ⟨h1, h2, h3, h4⟩ := skp_spec (f := fun i => f (sg B n i)) (n - p) p
  refine ⟨h1, fun h => by omega, h3, ?_⟩
  by_cases c : skp (fun i => f (sg B n i)) (n - p) p < p + (n - p)
  · exact h4 c
  · rw [sg_ge (by omega)]; exact h9
theorem lrun_gt {f : Nat → Bool} (h9 : f 999 = false) {p : Nat} (h : f (sg B n p) = true) : p < lrun B n f p := by
  obtain ⟨h1, -, -, h4⟩ := lrun_spec (B := B) (n := n) h9 p
  by_cases c : lrun B n f p = p
  · rw [c, h] at h4; cases h4
  · omega
theorem not999 {p : Nat} (hB : ∀ i, i < n → B i < 256) : sg B n p = 999 ↔ n ≤ p := by
  constructor
  · intro h
    by_cases c : p < n
    · rw [sg_lt c] at h
      have := hB p c
      omega
    · omega
  · exact sg_ge
theorem enP_b (hB : ∀ i, i < n → B i < 256) {s : Nat} (hs : s ≤ n) : s ≤ enP B n s ∧ enP B n s ≤ n ∧ (sg B n s ≠ 999 → s < enP B n s) := by
  unfold enP
  by_cases c : sg B n s = 999
  · rw [if_pos c]; exact ⟨Nat.le_refl _, hs, fun q => absurd c q⟩
  · have sn : s < n := by
      by_cases q : s < n
      · exact q
      · exact absurd (sg_ge (by omega)) c
    rw [if_neg c]
    by_cases cl : isL (sg B n s) = true
    · rw [if_pos cl]
      have := lrun_gt (B := B) (n := n) (f := isL) (by decide) cl
      have h2 := (lrun_spec (B := B) (n := n) (f := isL) (by decide) s).2.1 hs
      exact ⟨by omega, h2, fun _ => this⟩
    · rw [if_neg cl]
      by_cases cd : isD (sg B n s) = true
      · rw [if_pos cd]
        have := lrun_gt (B := B) (n := n) (f := isD) (by decide) cd
        have h2 := (lrun_spec (B := B) (n := n) (f := isD) (by decide) s).2.1 hs
        exact ⟨by omega, h2, fun _ => this⟩
      · rw [if_neg cd]; exact ⟨by omega, by omega, fun _ => by omega⟩
theorem lP_b (hB : ∀ i, i < n → B i < 256) : ∀ j, lP B n j ≤ n
  | 0 => (lrun_spec (B := B) (n := n) (f := isB) (by decide) 0).2.1 (Nat.zero_le _)
  | j + 1 => (lrun_spec (B := B) (n := n) (f := isB) (by decide) _).2.1 (enP_b hB (lP_b hB j)).2.1
theorem lT_0 (hB : ∀ i, i < n → B i < 256) (j : Nat) : lT B n j ≠ 0 → sg B n (lP B n j) ≠ 999 := fun h q => h (by unfold lT tkP; rw [if_pos q])
theorem lP_ge (hB : ∀ i, i < n → B i < 256) : ∀ j, (∀ i, i < j → lT B n i ≠ 0) → j ≤ lP B n j
  | 0, _ => Nat.zero_le _
  | j + 1, h => by
    have ih := lP_ge hB j (fun i hi => h i (by omega))
    have h1 := (enP_b hB (lP_b hB j)).2.2 (lT_0 hB j (h j (by omega)))
    have h2 := (lrun_spec (B := B) (n := n) (f := isB) (by decide) (enP B n (lP B n j))).1
    show j + 1 ≤ lrun B n isB (enP B n (lP B n j))
    omega
/-- the first token at which nothing can be read on -/
theorem lJ (hB : ∀ i, i < n → B i < 256) : ∃ J, J ≤ n ∧ (lT B n J = 0 ∨ lT B n J = 1) ∧ ∀ j, j < J → lT B n j ≠ 0 ∧ lT B n j ≠ 1 := by
  have search : ∀ k, (∃ J, J < k ∧ (lT B n J = 0 ∨ lT B n J = 1) ∧ ∀ j, j < J → lT B n j ≠ 0 ∧ lT B n j ≠ 1) ∨ ∀ j, j < k → lT B n j ≠ 0 ∧ lT B n j ≠ 1 := fun k => by
    induction k with
    | zero => exact Or.inr (fun j hj => by omega)
    | succ k ih =>
      rcases ih with ⟨J, h1, h2, h3⟩ | h
      · exact Or.inl ⟨J, by omega, h2, h3⟩
      · by_cases c : lT B n k = 0 ∨ lT B n k = 1
        · exact Or.inl ⟨k, by omega, c, h⟩
        · refine Or.inr (fun j hj => ?_)
          by_cases cj : j = k
          · subst cj; omega
          · exact h j (by omega)
  rcases search (n + 1) with ⟨J, h1, h2, h3⟩ | h
  · exact ⟨J, by omega, h2, h3⟩
  · have := lP_ge hB (n + 1) (fun i hi => (h i hi).1)
    have := lP_b hB (n + 1)
    omega
theorem tokW_v (l : List Nat) : tokW l ∈ vT := by
  unfold tokW
  repeat' split
  all_goals decide
theorem tkP_v (s : Nat) : tkP B n s ∈ vT := by
  unfold tkP
  split
  · decide
  · split
    · exact tokW_v _
    · split
      · split <;> decide
      · split
        · rename_i c
          unfold isS at c
          simp only [Bool.or_eq_true, beq_iff_eq] at c
          rcases c with ((((((((c | c) | c) | c) | c) | c) | c) | c) | c) | c <;> rw [c] <;> decide
        · decide
theorem vT_b : ∀ t ∈ vT, t < 1000 := by decide
theorem vlP_b (hB : ∀ i, i < n → B i < 256) (s : Nat) (hs : s ≤ n) : vlP B n s < 2 ^ 31 := by
  unfold vlP
  split
  · rename_i h
    obtain ⟨e1, e2, -⟩ := enP_b hB hs
    have b : ∀ i, s ≤ i → i < enP B n s → B i < 256 := fun i _ q => hB i (by omega)
    generalize enP B n s = e at *
    have : e - s = 0 ∨ e - s = 1 ∨ e - s = 2 ∨ e - s = 3 ∨ e - s = 4 := by omega
    rcases this with q | q | q | q | q
    · rw [q]; show 0 < _; decide
    · rw [q]
      show 10 * 0 + B s - 48 < _
      have := b s (by omega) (by omega)
      omega
    · rw [q]
      show 10 * (10 * 0 + B s - 48) + B (s + 1) - 48 < _
      have := b s (by omega) (by omega)
      have := b (s + 1) (by omega) (by omega)
      omega
    · rw [q]
      show 10 * (10 * (10 * 0 + B s - 48) + B (s + 1) - 48) + B (s + 1 + 1) - 48 < _
      have := b s (by omega) (by omega)
      have := b (s + 1) (by omega) (by omega)
      have := b (s + 1 + 1) (by omega) (by omega)
      omega
    · rw [q]
      show 10 * (10 * (10 * (10 * 0 + B s - 48) + B (s + 1) - 48) + B (s + 1 + 1) - 48) + B (s + 1 + 1 + 1) - 48 < _
      have := b s (by omega) (by omega)
      have := b (s + 1) (by omega) (by omega)
      have := b (s + 1 + 1) (by omega) (by omega)
      have := b (s + 1 + 1 + 1) (by omega) (by omega)
      omega
  · decide
/-- a word is spelled: the letters one by one -/
theorem lseg_eq {s e : Nat} {l : List Nat} : lseg B s e = l ↔ e - s = l.length ∧ ∀ i c, l[i]? = some c → B (s + i) = c := by
  unfold lseg
  constructor
  · intro h
    subst h
    refine ⟨by simp, fun i c hi => ?_⟩
    rw [List.getElem?_map] at hi
    have : i < e - s := by
      by_cases q : i < e - s
      · exact q
      · rw [List.getElem?_eq_none (by rw [List.length_range]; omega)] at hi; cases hi
    rw [List.getElem?_range this] at hi
    exact Option.some.inj hi
  · rintro ⟨h1, h2⟩
    apply List.ext_getElem?
    intro i
    rw [List.getElem?_map]
    by_cases q : i < e - s
    · rw [List.getElem?_range q]
      have : i < l.length := by omega
      rw [List.getElem?_eq_getElem this]
      show some (B (s + i)) = some l[i]
      rw [h2 i l[i] (List.getElem?_eq_getElem this)]
    · rw [List.getElem?_eq_none (by rw [List.length_range]; omega), List.getElem?_eq_none (by omega)]; rfl
theorem wd_len (k : Nat) (hk : k < 12) : pj_lenS.getD k 0 = (wd k).length ∧ (wd k).length ≤ 6 := by
  have : k = 0 ∨ k = 1 ∨ k = 2 ∨ k = 3 ∨ k = 4 ∨ k = 5 ∨ k = 6 ∨ k = 7 ∨ k = 8 ∨ k = 9 ∨ k = 10 ∨ k = 11 := by omega
  rcases this with rfl | rfl | rfl | rfl | rfl | rfl | rfl | rfl | rfl | rfl | rfl | rfl <;> decide
def wdT (k : Nat) : Nat → Bool
  | 0 => true
  | i + 1 => wdT k i && decide (pj_ch k i = nI ((wd k).getD i 0))
theorem wdT_all : wdT 0 3 = true ∧ wdT 1 4 = true ∧ wdT 2 2 = true ∧ wdT 3 3 = true ∧ wdT 4 3 = true ∧ wdT 5 4 = true ∧ wdT 6 3 = true ∧ wdT 7 6 = true ∧ wdT 8 6 = true ∧ wdT 9 5 = true ∧ wdT 10 4 = true ∧ wdT 11 4 = true := by decide
theorem wdT_at {k : Nat} : ∀ m, wdT k m = true → ∀ i, i < m → pj_ch k i = nI ((wd k).getD i 0)
  | 0, _, i, h => by omega
  | m + 1, e, i, h => by
    unfold wdT at e
    rw [Bool.and_eq_true, decide_eq_true_eq] at e
    by_cases c : i = m
    · subst c; exact e.2
    · exact wdT_at m e.1 i (by omega)
theorem wd_ch (k : Nat) (hk : k < 12) (i : Nat) (hi : i < (wd k).length) : ∃ c, (wd k)[i]? = some c ∧ pj_ch k i = nI c ∧ c < 256 := by
  have e : (wd k)[i]? = some ((wd k).getD i 0) := by
    rw [List.getElem?_eq_getElem hi, List.getD_eq_getElem?_getD, List.getElem?_eq_getElem hi]; rfl
  have hw := wdT_all
  have c256 : ∀ x ∈ wd k, x < 256 := by
    have : k = 0 ∨ k = 1 ∨ k = 2 ∨ k = 3 ∨ k = 4 ∨ k = 5 ∨ k = 6 ∨ k = 7 ∨ k = 8 ∨ k = 9 ∨ k = 10 ∨ k = 11 := by omega
    rcases this with rfl | rfl | rfl | rfl | rfl | rfl | rfl | rfl | rfl | rfl | rfl | rfl <;> decide
  refine ⟨_, e, ?_, c256 _ (List.mem_of_getElem? e)⟩
  have : k = 0 ∨ k = 1 ∨ k = 2 ∨ k = 3 ∨ k = 4 ∨ k = 5 ∨ k = 6 ∨ k = 7 ∨ k = 8 ∨ k = 9 ∨ k = 10 ∨ k = 11 := by omega
  rcases this with rfl | rfl | rfl | rfl | rfl | rfl | rfl | rfl | rfl | rfl | rfl | rfl
  · exact wdT_at 3 hw.1 i hi
  · exact wdT_at 4 hw.2.1 i hi
  · exact wdT_at 2 hw.2.2.1 i hi
  · exact wdT_at 3 hw.2.2.2.1 i hi
  · exact wdT_at 3 hw.2.2.2.2.1 i hi
  · exact wdT_at 4 hw.2.2.2.2.2.1 i hi
  · exact wdT_at 3 hw.2.2.2.2.2.2.1 i hi
  · exact wdT_at 6 hw.2.2.2.2.2.2.2.1 i hi
  · exact wdT_at 6 hw.2.2.2.2.2.2.2.2.1 i hi
  · exact wdT_at 5 hw.2.2.2.2.2.2.2.2.2.1 i hi
  · exact wdT_at 4 hw.2.2.2.2.2.2.2.2.2.2.1 i hi
  · exact wdT_at 4 hw.2.2.2.2.2.2.2.2.2.2.2 i hi
theorem JStr_length_eq (k : Nat) (hk : k < 12) (z : pj_S) : JStr_length k z = some (nI (wd k).length, z) := by
  unfold JStr_length
  rw [pj_gT (decide_eq_true hk), (wd_len k hk).1]; rfl
theorem JStr_charAt_eq (k : Nat) (hk : k < 12) (i : Nat) (hi : i < (wd k).length) (z : pj_S) : JStr_charAt k (nI i) z = some (pj_ch k i, z) := by
  obtain ⟨w1, w2⟩ := wd_len k hk
  unfold JStr_charAt
  rw [pj_gT (decide_eq_true hk), w1, pj_gIn hi (by omega), nI_clamp (by omega)]
end LF
