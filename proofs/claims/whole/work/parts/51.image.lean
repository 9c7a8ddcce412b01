/-! image -/
theorem pj_cpT {β : Type} {x : Option β} {n N : Nat} (h : n ≤ N) (hN : N ≤ 400 := by decide) : pj_g (pj_cpOk (nI 0) (nI 0) (nI n) N N) x = x := by
  refine pj_gT (decide_eq_true ⟨by decide, by decide, nI_pos (by omega), ?_, ?_⟩) <;> rw [nI_clamp (by decide), nI_clamp (by omega)] <;> omega
theorem sJ_n (z : pj_S) (k j : Nat) (v : Int64) {a : Nat} (h : a ≠ k) : (pj_sJ z k j v).2 a = z.2 a := by rw [pj_sJ2, if_neg h]
theorem pa_F.IJ {W H : Nat} {b : Bool} {I I2 : Nat → Int32} {J J2 : Nat → Int64} {w : Nat → Int32} (h : pa_F W H b I J w) (e : ∀ i, i ≤ 2 → I2 i = I i) (e2 : ∀ k, 3 ≤ k → k ≤ 9 → J2 k = J k) : pa_F W H b I2 J2 w := by
  unfold pa_F at h ⊢
  rw [e 0 (by omega), e 1 (by omega), e 2 (by omega), e2 3 (by omega) (by omega), e2 4 (by omega) (by omega), e2 5 (by omega) (by omega), e2 6 (by omega) (by omega), e2 7 (by omega) (by omega), e2 8 (by omega) (by omega), e2 9 (by omega) (by omega)]
  exact h
/-- a copy of a whole -/
theorem pa_W.cp {W H : Nat} {b : Bool} {hr nb nl : Nat} {pr : List pa_Ln} {h1 d1 h2 d2 : Int32} {I I2 : Nat → Int32} {J J2 : Nat → Int64} {len lines len2 lines2 : Int32} {code code2 : Nat → Int32} {bc bc2 : Int32} {bh bs bw bh2 bs2 bw2 : Nat → Int32} {lc lc2 : Int32} {ll ll2 w w2 : Nat → Int32}
    (h : pa_W W H b hr nb nl pr h1 d1 I J len lines code bc bh bs bw lc ll w) (e1 : h2 = h1) (e2 : d2 = d1) (e3 : ∀ i, i ≤ 2 → I2 i = I i) (e4 : ∀ k, 3 ≤ k → k ≤ 9 → J2 k = J k) (e5 : len2 = len) (e6 : lines2 = lines)
    (e7 : ∀ j, j < (pr.flatMap pa_encL).length → code2 j = code j) (e8 : bc2 = bc) (e9 : ∀ j, j < 100 → bh2 j = bh j ∧ bs2 j = bs j ∧ bw2 j = bw j) (e10 : lc2 = lc) (e11 : ∀ j, j < 20 → ll2 j = ll j) (e12 : ∀ j, j < 1554 → w2 j = w j) :
    pa_W W H b hr nb nl pr h2 d2 I2 J2 len2 lines2 code2 bc2 bh2 bs2 bw2 lc2 ll2 w2 := by
  subst e1 e2 e5 e6 e8 e10
  obtain ⟨hF, hH, hd, hB, hU, hL⟩ := h
  refine ⟨(hF.IJ e3 e4).w (fun i hi => e12 i (by unfold rgF at hi; omega)), ⟨hH.1, hH.2.1, by rw [e12 5 (by decide)]; exact hH.2.2⟩, by rw [e12 6 (by decide)]; exact hd, ?_, ?_, ?_⟩
  · obtain ⟨b1, b2, b3, b4⟩ := hB.w (w' := w2) (fun i hi => e12 i (by omega))
    refine ⟨b1, b2, b3, fun i hi => ?_⟩
    obtain ⟨x1, x2, x3⟩ := e9 i (by omega)
    rw [x1, x2, x3]; exact b4 i hi
  · obtain ⟨b1, b2, b3, b4⟩ := hU.w (w' := w2) (fun i hi => e12 i (by omega))
    refine ⟨b1, b2, b3, fun i hi => ?_⟩
    rw [e11 i (by omega)]; exact b4 i hi
  · obtain ⟨b1, b2, b3, b4, b5, b6, b7, b8⟩ := hL.w (w' := w2) (fun i _ hi => e12 i (by omega))
    refine ⟨b1, b2, b3, b4, b5, b6, fun j v hj => ?_, b8⟩
    rw [e7 j (List.getElem?_eq_some_iff.mp hj).1]
    exact b7 j v hj

theorem Fabric_copyFrom_eq (z : pj_S) (b : Bool) (hb : z.1 12 2 = b2i b) : ∃ z2, Fabric_copyFrom z = some ((), z2) ∧ (∀ c, c ≠ 8 → z2.1 c = z.1 c) ∧ (∀ c, c ≠ 8 → z2.2 c = z.2 c) ∧ (∀ i, i ≤ 2 → z2.1 8 i = z.1 12 i) ∧ ∀ k, 3 ≤ k → k ≤ 9 → z2.2 8 k = z.2 12 k := by
  have g : pj_bo (z.1 12 2) = true := by rw [hb]; cases b <;> rfl
  unfold Fabric_copyFrom
  simp (disch := decide) only [pj_bI, ag_n, sJ_n, pj_sI2, pj_sJ1]
  rw [pj_gT g]
  refine ⟨_, rfl, fun c hc => ?_, fun c hc => ?_, fun i hi => ?_, fun k k3 k9 => ?_⟩
  · simp only [pj_sI1, pj_sJ1, hc, ↓reduceIte]
  · simp only [pj_sI2, pj_sJ2, hc, ↓reduceIte]
  · have : i = 0 ∨ i = 1 ∨ i = 2 := by omega
    rcases this with rfl | rfl | rfl <;> rfl
  · have : k = 3 ∨ k = 4 ∨ k = 5 ∨ k = 6 ∨ k = 7 ∨ k = 8 ∨ k = 9 := by omega
    rcases this with rfl | rfl | rfl | rfl | rfl | rfl | rfl <;> rfl
theorem Law_take_9_35_eq (z : pj_S) (n : Nat) (hn : n ≤ 400) (v3 : Int32) : ∃ z2, Law_take_9_35 (nI n) v3 z = some ((), z2) ∧ (∀ c, c ≠ 9 → c ≠ 29 → z2.1 c = z.1 c) ∧ z2.2 = z.2 ∧ z2.1 9 2 = nI n ∧ z2.1 9 3 = v3 ∧ ∀ j, j < n → z2.1 29 j = z.1 35 j := by
  unfold Law_take_9_35
  have mx : pj_max (nI 0) (pj_min (nI n) (pj_min (nI 400) (nI 400))) = nI n := by
    rw [pj_minN (by decide) (by decide), pj_minN (by omega) (by decide), Nat.min_self, Nat.min_eq_left hn]
    unfold pj_max
    by_cases h : n = 0
    · subst h; rfl
    · first
        | rw [if_pos (nI_lt (by omega) (by omega))]
        | rw [if_neg (by rw [nI_ltP (by omega) (by omega)]; omega)]
  rw [mx]
  have e2 : ∀ v, (pj_sI z 9 2 v).1 9 2 = v := fun v => rfl
  simp only [pj_bI, e2]
  rw [pj_cpT hn, nI_clamp (by decide), nI_clamp (by omega)]
  refine ⟨_, rfl, fun c h1 h2 => ?_, rfl, rfl, rfl, fun j hj => ?_⟩
  · simp only [pj_sI1, pj_cp1, h1, h2, ↓reduceIte]
  · show va_cpy (z.1 35) (z.1 29) 0 0 n j = _
    unfold va_cpy
    rw [if_pos (by omega), Nat.sub_zero, Nat.zero_add]
theorem Book_copyFrom_eq (z : pj_S) : ∃ z2, Book_copyFrom z = some ((), z2) ∧ (∀ c, c ≠ 10 → c ≠ 31 → c ≠ 32 → c ≠ 33 → z2.1 c = z.1 c) ∧ z2.2 = z.2 ∧ z2.1 10 3 = z.1 14 3 ∧ ∀ j, j < 100 → z2.1 31 j = z.1 37 j ∧ z2.1 32 j = z.1 38 j ∧ z2.1 33 j = z.1 39 j := by
  unfold Book_copyFrom
  simp only [pj_bI]
  rw [pj_cpT (by decide), pj_cpT (by decide), pj_cpT (by decide), nI_clamp (by decide), nI_clamp (by decide)]
  refine ⟨_, rfl, fun c h1 h2 h3 h4 => ?_, rfl, rfl, fun j hj => ⟨?_, ?_, ?_⟩⟩
  · simp only [pj_sI1, pj_cp1, h1, h2, h3, h4, ↓reduceIte]
  · show va_cpy (z.1 37) (z.1 31) 0 0 100 j = _
    unfold va_cpy
    rw [if_pos (by omega), Nat.sub_zero, Nat.zero_add]
  · show va_cpy (z.1 38) (z.1 32) 0 0 100 j = _
    unfold va_cpy
    rw [if_pos (by omega), Nat.sub_zero, Nat.zero_add]
  · show va_cpy (z.1 39) (z.1 33) 0 0 100 j = _
    unfold va_cpy
    rw [if_pos (by omega), Nat.sub_zero, Nat.zero_add]
theorem Wool_copyFrom_eq (z : pj_S) : ∃ z2, Wool_copyFrom z = some ((), z2) ∧ (∀ c, c ≠ 11 → c ≠ 34 → z2.1 c = z.1 c) ∧ z2.2 = z.2 ∧ z2.1 11 1 = z.1 15 1 ∧ ∀ j, j < 20 → z2.1 34 j = z.1 40 j := by
  unfold Wool_copyFrom
  simp only [pj_bI]
  rw [pj_cpT (by decide), nI_clamp (by decide), nI_clamp (by decide)]
  refine ⟨_, rfl, fun c h1 h2 => ?_, rfl, rfl, fun j hj => ?_⟩
  · simp only [pj_sI1, pj_cp1, h1, h2, ↓reduceIte]
  · show va_cpy (z.1 40) (z.1 34) 0 0 20 j = _
    unfold va_cpy
    rw [if_pos (by omega), Nat.sub_zero, Nat.zero_add]
theorem Whole_copyFrom_eq (z : pj_S) (b : Bool) (hb : z.1 12 2 = b2i b) (n : Nat) (hn : n ≤ 400) (hl : z.1 13 2 = nI n) : ∃ z2, Whole_copyFrom z = some ((), z2) ∧
    (∀ c, c ≠ 8 → c ≠ 9 → c ≠ 29 → c ≠ 10 → c ≠ 31 → c ≠ 32 → c ≠ 33 → c ≠ 11 → c ≠ 34 → c ≠ 1 → z2.1 c = z.1 c) ∧ (∀ c, c ≠ 8 → z2.2 c = z.2 c) ∧
    (∀ i, i ≤ 2 → z2.1 8 i = z.1 12 i) ∧ (∀ k, 3 ≤ k → k ≤ 9 → z2.2 8 k = z.2 12 k) ∧ z2.1 9 2 = z.1 13 2 ∧ z2.1 9 3 = z.1 13 3 ∧ (∀ j, j < n → z2.1 29 j = z.1 35 j) ∧
    z2.1 10 3 = z.1 14 3 ∧ (∀ j, j < 100 → z2.1 31 j = z.1 37 j ∧ z2.1 32 j = z.1 38 j ∧ z2.1 33 j = z.1 39 j) ∧ z2.1 11 1 = z.1 15 1 ∧ (∀ j, j < 20 → z2.1 34 j = z.1 40 j) ∧ z2.1 1 4 = z.1 2 4 ∧ z2.1 1 5 = z.1 2 5 := by
  unfold Whole_copyFrom
  obtain ⟨z1, e1, a1, a2, a3, a4⟩ := Fabric_copyFrom_eq z b hb
  rw [e1, pj_cS, a1 13 (by decide), hl]
  obtain ⟨z2, e2, b1, b2, b3, b4, b5⟩ := Law_take_9_35_eq z1 n hn (z.1 13 3)
  rw [e2, pj_cS]
  obtain ⟨z3, e3, c1, c2, c3, c4⟩ := Book_copyFrom_eq z2
  rw [e3, pj_cS]
  obtain ⟨z4, e4, d1, d2, d3, d4⟩ := Wool_copyFrom_eq z3
  rw [e4, pj_cS, pj_bI, pj_bI]
  have g2 : z4.2 = z1.2 := by rw [d2, c2, b2]
  have w4 : z4.1 2 = z.1 2 := by rw [d1 _ (by decide) (by decide), c1 _ (by decide) (by decide) (by decide) (by decide), b1 _ (by decide) (by decide), a1 _ (by decide)]
  refine ⟨_, rfl, fun c h1 h2 h3 h4 h5 h6 h7 h8 h9 h10 => ?_, fun c hc => ?_, fun i hi => ?_, fun k k3 k9 => ?_, ?_, ?_, fun j hj => ?_, ?_, fun j hj => ?_, ?_, fun j hj => ?_, ?_, ?_⟩
  · rw [ag_n _ _ _ _ h10, ag_n _ _ _ _ h10, d1 c h8 h9, c1 c h4 h5 h6 h7, b1 c h2 h3, a1 c h1]
  · show z4.2 c = _; rw [g2]; exact a2 c hc
  · rw [ag_n _ _ _ _ (by decide), ag_n _ _ _ _ (by decide), d1 _ (by decide) (by decide), c1 _ (by decide) (by decide) (by decide) (by decide), b1 _ (by decide) (by decide)]; exact a3 i hi
  · show z4.2 8 k = _; rw [g2]; exact a4 k k3 k9
  · rw [ag_n _ _ _ _ (by decide), ag_n _ _ _ _ (by decide), d1 _ (by decide) (by decide), c1 _ (by decide) (by decide) (by decide) (by decide), b3]
  · rw [ag_n _ _ _ _ (by decide), ag_n _ _ _ _ (by decide), d1 _ (by decide) (by decide), c1 _ (by decide) (by decide) (by decide) (by decide), b4]
  · rw [ag_n _ _ _ _ (by decide), ag_n _ _ _ _ (by decide), d1 _ (by decide) (by decide), c1 _ (by decide) (by decide) (by decide) (by decide), b5 j hj, a1 _ (by decide)]
  · rw [ag_n _ _ _ _ (by decide), ag_n _ _ _ _ (by decide), d1 _ (by decide) (by decide), c3, b1 _ (by decide) (by decide), a1 _ (by decide)]
  · rw [ag_n _ _ _ _ (by decide), ag_n _ _ _ _ (by decide), ag_n _ _ _ _ (by decide), ag_n _ _ _ _ (by decide), ag_n _ _ _ _ (by decide), ag_n _ _ _ _ (by decide), d1 _ (by decide) (by decide), d1 _ (by decide) (by decide), d1 _ (by decide) (by decide)]
    obtain ⟨x1, x2, x3⟩ := c4 j hj
    rw [x1, x2, x3, b1 _ (by decide) (by decide), a1 _ (by decide), b1 _ (by decide) (by decide), a1 _ (by decide), b1 _ (by decide) (by decide), a1 _ (by decide)]
    exact ⟨rfl, rfl, rfl⟩
  · rw [ag_n _ _ _ _ (by decide), ag_n _ _ _ _ (by decide), d3, c1 _ (by decide) (by decide) (by decide) (by decide), b1 _ (by decide) (by decide), a1 _ (by decide)]
  · rw [ag_n _ _ _ _ (by decide), ag_n _ _ _ _ (by decide), d4 j hj, c1 _ (by decide) (by decide) (by decide) (by decide), b1 _ (by decide) (by decide), a1 _ (by decide)]
  · show z4.1 2 4 = _; rw [w4]
  · show z4.1 2 5 = _; rw [w4]

theorem Fabric_copyFrom_12_8_eq (z : pj_S) (b : Bool) (hb : z.1 8 2 = b2i b) : ∃ z2, Fabric_copyFrom_12_8 z = some ((), z2) ∧ (∀ c, c ≠ 12 → z2.1 c = z.1 c) ∧ (∀ c, c ≠ 12 → z2.2 c = z.2 c) ∧ (∀ i, i ≤ 2 → z2.1 12 i = z.1 8 i) ∧ ∀ k, 3 ≤ k → k ≤ 9 → z2.2 12 k = z.2 8 k := by
  have g : pj_bo (z.1 8 2) = true := by rw [hb]; cases b <;> rfl
  unfold Fabric_copyFrom_12_8
  simp (disch := decide) only [pj_bI, ag_n, sJ_n, pj_sI2, pj_sJ1]
  rw [pj_gT g]
  refine ⟨_, rfl, fun c hc => ?_, fun c hc => ?_, fun i hi => ?_, fun k k3 k9 => ?_⟩
  · simp only [pj_sI1, pj_sJ1, hc, ↓reduceIte]
  · simp only [pj_sI2, pj_sJ2, hc, ↓reduceIte]
  · have : i = 0 ∨ i = 1 ∨ i = 2 := by omega
    rcases this with rfl | rfl | rfl <;> rfl
  · have : k = 3 ∨ k = 4 ∨ k = 5 ∨ k = 6 ∨ k = 7 ∨ k = 8 ∨ k = 9 := by omega
    rcases this with rfl | rfl | rfl | rfl | rfl | rfl | rfl <;> rfl
theorem Law_take_13_29_eq (z : pj_S) (n : Nat) (hn : n ≤ 400) (v3 : Int32) : ∃ z2, Law_take_13_29 (nI n) v3 z = some ((), z2) ∧ (∀ c, c ≠ 13 → c ≠ 35 → z2.1 c = z.1 c) ∧ z2.2 = z.2 ∧ z2.1 13 2 = nI n ∧ z2.1 13 3 = v3 ∧ ∀ j, j < n → z2.1 35 j = z.1 29 j := by
  unfold Law_take_13_29
  have mx : pj_max (nI 0) (pj_min (nI n) (pj_min (nI 400) (nI 400))) = nI n := by
    rw [pj_minN (by decide) (by decide), pj_minN (by omega) (by decide), Nat.min_self, Nat.min_eq_left hn]
    unfold pj_max
    by_cases h : n = 0
    · subst h; rfl
    · first
        | rw [if_pos (nI_lt (by omega) (by omega))]
        | rw [if_neg (by rw [nI_ltP (by omega) (by omega)]; omega)]
  rw [mx]
  have e2 : ∀ v, (pj_sI z 13 2 v).1 13 2 = v := fun v => rfl
  simp only [pj_bI, e2]
  rw [pj_cpT hn, nI_clamp (by decide), nI_clamp (by omega)]
  refine ⟨_, rfl, fun c h1 h2 => ?_, rfl, rfl, rfl, fun j hj => ?_⟩
  · simp only [pj_sI1, pj_cp1, h1, h2, ↓reduceIte]
  · show va_cpy (z.1 29) (z.1 35) 0 0 n j = _
    unfold va_cpy
    rw [if_pos (by omega), Nat.sub_zero, Nat.zero_add]
theorem Book_copyFrom_14_10_eq (z : pj_S) : ∃ z2, Book_copyFrom_14_10 z = some ((), z2) ∧ (∀ c, c ≠ 14 → c ≠ 37 → c ≠ 38 → c ≠ 39 → z2.1 c = z.1 c) ∧ z2.2 = z.2 ∧ z2.1 14 3 = z.1 10 3 ∧ ∀ j, j < 100 → z2.1 37 j = z.1 31 j ∧ z2.1 38 j = z.1 32 j ∧ z2.1 39 j = z.1 33 j := by
  unfold Book_copyFrom_14_10
  simp only [pj_bI]
  rw [pj_cpT (by decide), pj_cpT (by decide), pj_cpT (by decide), nI_clamp (by decide), nI_clamp (by decide)]
  refine ⟨_, rfl, fun c h1 h2 h3 h4 => ?_, rfl, rfl, fun j hj => ⟨?_, ?_, ?_⟩⟩
  · simp only [pj_sI1, pj_cp1, h1, h2, h3, h4, ↓reduceIte]
  · show va_cpy (z.1 31) (z.1 37) 0 0 100 j = _
    unfold va_cpy
    rw [if_pos (by omega), Nat.sub_zero, Nat.zero_add]
  · show va_cpy (z.1 32) (z.1 38) 0 0 100 j = _
    unfold va_cpy
    rw [if_pos (by omega), Nat.sub_zero, Nat.zero_add]
  · show va_cpy (z.1 33) (z.1 39) 0 0 100 j = _
    unfold va_cpy
    rw [if_pos (by omega), Nat.sub_zero, Nat.zero_add]
theorem Wool_copyFrom_15_11_eq (z : pj_S) : ∃ z2, Wool_copyFrom_15_11 z = some ((), z2) ∧ (∀ c, c ≠ 15 → c ≠ 40 → z2.1 c = z.1 c) ∧ z2.2 = z.2 ∧ z2.1 15 1 = z.1 11 1 ∧ ∀ j, j < 20 → z2.1 40 j = z.1 34 j := by
  unfold Wool_copyFrom_15_11
  simp only [pj_bI]
  rw [pj_cpT (by decide), nI_clamp (by decide), nI_clamp (by decide)]
  refine ⟨_, rfl, fun c h1 h2 => ?_, rfl, rfl, fun j hj => ?_⟩
  · simp only [pj_sI1, pj_cp1, h1, h2, ↓reduceIte]
  · show va_cpy (z.1 34) (z.1 40) 0 0 20 j = _
    unfold va_cpy
    rw [if_pos (by omega), Nat.sub_zero, Nat.zero_add]
theorem Whole_copyFrom_2_1_eq (z : pj_S) (b : Bool) (hb : z.1 8 2 = b2i b) (n : Nat) (hn : n ≤ 400) (hl : z.1 9 2 = nI n) : ∃ z2, Whole_copyFrom_2_1 z = some ((), z2) ∧
    (∀ c, c ≠ 12 → c ≠ 13 → c ≠ 35 → c ≠ 14 → c ≠ 37 → c ≠ 38 → c ≠ 39 → c ≠ 15 → c ≠ 40 → c ≠ 2 → z2.1 c = z.1 c) ∧ (∀ c, c ≠ 12 → z2.2 c = z.2 c) ∧
    (∀ i, i ≤ 2 → z2.1 12 i = z.1 8 i) ∧ (∀ k, 3 ≤ k → k ≤ 9 → z2.2 12 k = z.2 8 k) ∧ z2.1 13 2 = z.1 9 2 ∧ z2.1 13 3 = z.1 9 3 ∧ (∀ j, j < n → z2.1 35 j = z.1 29 j) ∧
    z2.1 14 3 = z.1 10 3 ∧ (∀ j, j < 100 → z2.1 37 j = z.1 31 j ∧ z2.1 38 j = z.1 32 j ∧ z2.1 39 j = z.1 33 j) ∧ z2.1 15 1 = z.1 11 1 ∧ (∀ j, j < 20 → z2.1 40 j = z.1 34 j) ∧ z2.1 2 4 = z.1 1 4 ∧ z2.1 2 5 = z.1 1 5 := by
  unfold Whole_copyFrom_2_1
  obtain ⟨z1, e1, a1, a2, a3, a4⟩ := Fabric_copyFrom_12_8_eq z b hb
  rw [e1, pj_cS, a1 9 (by decide), hl]
  obtain ⟨z2, e2, b1, b2, b3, b4, b5⟩ := Law_take_13_29_eq z1 n hn (z.1 9 3)
  rw [e2, pj_cS]
  obtain ⟨z3, e3, c1, c2, c3, c4⟩ := Book_copyFrom_14_10_eq z2
  rw [e3, pj_cS]
  obtain ⟨z4, e4, d1, d2, d3, d4⟩ := Wool_copyFrom_15_11_eq z3
  rw [e4, pj_cS, pj_bI, pj_bI]
  have g2 : z4.2 = z1.2 := by rw [d2, c2, b2]
  have w4 : z4.1 1 = z.1 1 := by rw [d1 _ (by decide) (by decide), c1 _ (by decide) (by decide) (by decide) (by decide), b1 _ (by decide) (by decide), a1 _ (by decide)]
  refine ⟨_, rfl, fun c h1 h2 h3 h4 h5 h6 h7 h8 h9 h10 => ?_, fun c hc => ?_, fun i hi => ?_, fun k k3 k9 => ?_, ?_, ?_, fun j hj => ?_, ?_, fun j hj => ?_, ?_, fun j hj => ?_, ?_, ?_⟩
  · rw [ag_n _ _ _ _ h10, ag_n _ _ _ _ h10, d1 c h8 h9, c1 c h4 h5 h6 h7, b1 c h2 h3, a1 c h1]
  · show z4.2 c = _; rw [g2]; exact a2 c hc
  · rw [ag_n _ _ _ _ (by decide), ag_n _ _ _ _ (by decide), d1 _ (by decide) (by decide), c1 _ (by decide) (by decide) (by decide) (by decide), b1 _ (by decide) (by decide)]; exact a3 i hi
  · show z4.2 12 k = _; rw [g2]; exact a4 k k3 k9
  · rw [ag_n _ _ _ _ (by decide), ag_n _ _ _ _ (by decide), d1 _ (by decide) (by decide), c1 _ (by decide) (by decide) (by decide) (by decide), b3]
  · rw [ag_n _ _ _ _ (by decide), ag_n _ _ _ _ (by decide), d1 _ (by decide) (by decide), c1 _ (by decide) (by decide) (by decide) (by decide), b4]
  · rw [ag_n _ _ _ _ (by decide), ag_n _ _ _ _ (by decide), d1 _ (by decide) (by decide), c1 _ (by decide) (by decide) (by decide) (by decide), b5 j hj, a1 _ (by decide)]
  · rw [ag_n _ _ _ _ (by decide), ag_n _ _ _ _ (by decide), d1 _ (by decide) (by decide), c3, b1 _ (by decide) (by decide), a1 _ (by decide)]
  · rw [ag_n _ _ _ _ (by decide), ag_n _ _ _ _ (by decide), ag_n _ _ _ _ (by decide), ag_n _ _ _ _ (by decide), ag_n _ _ _ _ (by decide), ag_n _ _ _ _ (by decide), d1 _ (by decide) (by decide), d1 _ (by decide) (by decide), d1 _ (by decide) (by decide)]
    obtain ⟨x1, x2, x3⟩ := c4 j hj
    rw [x1, x2, x3, b1 _ (by decide) (by decide), a1 _ (by decide), b1 _ (by decide) (by decide), a1 _ (by decide), b1 _ (by decide) (by decide), a1 _ (by decide)]
    exact ⟨rfl, rfl, rfl⟩
  · rw [ag_n _ _ _ _ (by decide), ag_n _ _ _ _ (by decide), d3, c1 _ (by decide) (by decide) (by decide) (by decide), b1 _ (by decide) (by decide), a1 _ (by decide)]
  · rw [ag_n _ _ _ _ (by decide), ag_n _ _ _ _ (by decide), d4 j hj, c1 _ (by decide) (by decide) (by decide) (by decide), b1 _ (by decide) (by decide), a1 _ (by decide)]
  · show z4.1 1 4 = _; rw [w4]
  · show z4.1 1 5 = _; rw [w4]

/-- the model's copy: from kept (a = 0), to kept -/
theorem Md_image_0 (z : pj_S) : ∃ z2, pj_lp2 Md_image_15 4000 0 (nI 0) z = Md_image_59 0 z2 ∧ (∀ c, c ≠ 1 → z2.1 c = z.1 c) ∧ ∀ j, j < 1554 → z2.1 1 j = z.1 2 j := by
  obtain ⟨a, k, z2, ⟨rfl, e1, e2⟩, e⟩ := pj_loop2 (F := Md_image_15)
    (P := fun d a v z' => ∃ k, k + d = 1554 ∧ a = 0 ∧ v = nI k ∧ (∀ c, c ≠ 1 → z'.1 c = z.1 c) ∧ ∀ j, j < k → z'.1 1 j = z.1 2 j)
    (E := fun a _ z' => a = 0 ∧ (∀ c, c ≠ 1 → z'.1 c = z.1 c) ∧ ∀ j, j < 1554 → z'.1 1 j = z.1 2 j)
    (G := fun a _ z' => Md_image_59 a z') (by
      rintro self d a v z' ⟨k, hk, rfl, rfl, h1, h2⟩
      unfold Md_image_15 Md_image_53
      by_cases c : 1554 ≤ k
      · left
        have : k = 1554 := by omega
        subst this
        exact ⟨⟨rfl, h1, h2⟩, by rw [if_pos (nI_le c (by decide))]⟩
      · right
        rw [if_neg (by rw [nI_leP (by decide) (by omega)]; exact c), if_pos rfl]
        simp (disch := omega) only [pj_gIn, nI_clamp, pj_bI, nI_add]
        refine ⟨d - 1, _, _, _, by omega, ⟨k + 1, by omega, rfl, rfl, fun c hc => ?_, fun j hj => ?_⟩, rfl⟩
        · rw [ag_n _ _ _ _ hc]; exact h1 c hc
        · rw [ag_1]
          by_cases cj : j = k
          · subst cj; rw [upd_s, h1 2 (by decide)]
          · rw [upd_ne cj]; exact h2 j (by omega))
    4000 1554 0 (nI 0) z ⟨0, by omega, rfl, rfl, fun _ _ => rfl, fun j hj => absurd hj (by omega)⟩ (by decide)
  exact ⟨z2, e, e1, e2⟩
theorem Md_image_1 (z : pj_S) : ∃ z2, pj_lp2 Md_image_15 4000 1 (nI 0) z = Md_image_59 1 z2 ∧ (∀ c, c ≠ 2 → z2.1 c = z.1 c) ∧ ∀ j, j < 1554 → z2.1 2 j = z.1 1 j := by
  obtain ⟨a, k, z2, ⟨rfl, e1, e2⟩, e⟩ := pj_loop2 (F := Md_image_15)
    (P := fun d a v z' => ∃ k, k + d = 1554 ∧ a = 1 ∧ v = nI k ∧ (∀ c, c ≠ 2 → z'.1 c = z.1 c) ∧ ∀ j, j < k → z'.1 2 j = z.1 1 j)
    (E := fun a _ z' => a = 1 ∧ (∀ c, c ≠ 2 → z'.1 c = z.1 c) ∧ ∀ j, j < 1554 → z'.1 2 j = z.1 1 j)
    (G := fun a _ z' => Md_image_59 a z') (by
      rintro self d a v z' ⟨k, hk, rfl, rfl, h1, h2⟩
      unfold Md_image_15 Md_image_53
      by_cases c : 1554 ≤ k
      · left
        have : k = 1554 := by omega
        subst this
        exact ⟨⟨rfl, h1, h2⟩, by rw [if_pos (nI_le c (by decide))]⟩
      · right
        rw [if_neg (by rw [nI_leP (by decide) (by omega)]; exact c), if_neg (by decide)]
        simp (disch := omega) only [pj_gIn, nI_clamp, pj_bI, nI_add]
        refine ⟨d - 1, _, _, _, by omega, ⟨k + 1, by omega, rfl, rfl, fun c hc => ?_, fun j hj => ?_⟩, rfl⟩
        · rw [ag_n _ _ _ _ hc]; exact h1 c hc
        · rw [ag_1]
          by_cases cj : j = k
          · subst cj; rw [upd_s, h1 1 (by decide)]
          · rw [upd_ne cj]; exact h2 j (by omega))
    4000 1554 1 (nI 0) z ⟨0, by omega, rfl, rfl, fun _ _ => rfl, fun j hj => absurd hj (by omega)⟩ (by decide)
  exact ⟨z2, e, e1, e2⟩
theorem ok_image (a : Int32) (ha : a = 0 ∨ a = 1) : pj_ok pa_I (PJ_image a) (Md_image a) := by
  intro zC zM h
  obtain ⟨⟨W, H, b, hr, nb, nl, pr, n, m, hA⟩, hK⟩ := id h
  obtain ⟨hW, h1, h2, h3, hP⟩ := id hA
  obtain ⟨⟨im, i1, i2, i3⟩, hT, hf1, hf2⟩ := id hK
  unfold PJ_image Md_image Md_image_13
  rcases ha with rfl | rfl
  · rw [if_pos rfl, if_pos rfl, i1, i2, ib0, ib0]
    cases im
    · rw [if_neg Bool.false_ne_true, if_neg Bool.false_ne_true]
      exact ⟨_, _, _, rfl, rfl, h⟩
    · obtain ⟨W2, H2, b2, hr2, nb2, nl2, pr2, hW2⟩ := i3 rfl
      obtain ⟨hF2, hH2, hd2, hB2, hU2, hL2⟩ := id hW2
      obtain ⟨zC2, e, c1, c2, c3, c4, c5, c6, c7, c8, c9, c10, c11, c12, c13⟩ := Whole_copyFrom_eq zC b2 hF2.2.1.2.2.1 _ hL2.2.2.1 hL2.2.2.2.2.1
      obtain ⟨zM2, f, f1, f2⟩ := Md_image_0 zM
      rw [if_pos rfl, if_pos rfl, e, f]
      refine ⟨nI 1, pj_sI zC2 3 7 (nI 0), pj_sI (pj_sI zM2 0 3 (nI 0)) 0 4 (nI 1), rfl, rfl, pa_I.of (W := W2) (H := H2) (b := b2) (hr := hr2) (nb := nb2) (nl := nl2) (pr := pr2) (n := 0) (m := m) ⟨?_, rfl, rfl, ?_, pa_P.none hP.2.1⟩ ?_⟩
      · exact hW2.cp c12 c13 c3 c4 c5 c6 c7 c8 c9 c10 c11 f2
      · show zC2.1 3 8 = _
        rw [c1 3 (by decide) (by decide) (by decide) (by decide) (by decide) (by decide) (by decide) (by decide) (by decide) (by decide)]; exact h3
      · have hc : ∀ c, c ≠ 8 → c ≠ 9 → c ≠ 29 → c ≠ 10 → c ≠ 31 → c ≠ 32 → c ≠ 33 → c ≠ 11 → c ≠ 34 → c ≠ 1 → c ≠ 3 → (pj_sI zC2 3 7 (nI 0)).1 c = zC.1 c := fun c x1 x2 x3 x4 x5 x6 x7 x8 x9 x10 x11 => by rw [ag_n _ _ _ _ x11]; exact c1 c x1 x2 x3 x4 x5 x6 x7 x8 x9 x10
        have hj : ∀ c, c ≠ 8 → (pj_sI zC2 3 7 (nI 0)).2 c = zC.2 c := c2
        have hm : ∀ c, c ≠ 1 → c ≠ 0 → (pj_sI (pj_sI zM2 0 3 (nI 0)) 0 4 (nI 1)).1 c = zM.1 c := fun c x1 x0 => by rw [ag_n _ _ _ _ x0, ag_n _ _ _ _ x0]; exact f1 c x1
        have hm0 : ∀ j, j ≠ 3 → j ≠ 4 → (pj_sI (pj_sI zM2 0 3 (nI 0)) 0 4 (nI 1)).1 0 j = zM.1 0 j := fun j x1 x0 => by rw [ag_1, upd_ne x0, ag_1, upd_ne x1, f1 0 (by decide)]
        refine ⟨⟨true, ?_, rfl, fun _ => ⟨W2, H2, b2, hr2, nb2, nl2, pr2, ?_⟩⟩, ?_, ?_, ?_⟩
        · rw [hc 0 (by decide) (by decide) (by decide) (by decide) (by decide) (by decide) (by decide) (by decide) (by decide) (by decide) (by decide)]; exact i1
        · rw [hj 12 (by decide), hm 2 (by decide) (by decide)]
          simp (disch := decide) only [hc]
          exact hW2
        · rw [hm 6 (by decide) (by decide), hm0 12 (by decide) (by decide)]
          simp (disch := decide) only [hc]
          exact hT
        · rw [hm0 19 (by decide) (by decide)]
          simp (disch := decide) only [hc]
          exact hf1
        · rw [hm0 21 (by decide) (by decide)]
          simp (disch := decide) only [hc]
          exact hf2
  · rw [if_neg (by decide), if_neg (by decide)]
    obtain ⟨hF2, hH2, hd2, hB2, hU2, hL2⟩ := id hW
    obtain ⟨zC2, e, c1, c2, c3, c4, c5, c6, c7, c8, c9, c10, c11, c12, c13⟩ := Whole_copyFrom_2_1_eq zC b hF2.2.1.2.2.1 _ hL2.2.2.1 hL2.2.2.2.2.1
    obtain ⟨zM2, f, f1, f2⟩ := Md_image_1 zM
    rw [e, f]
    have hc : ∀ c, c ≠ 12 → c ≠ 13 → c ≠ 35 → c ≠ 14 → c ≠ 37 → c ≠ 38 → c ≠ 39 → c ≠ 15 → c ≠ 40 → c ≠ 2 → c ≠ 0 → (pj_sI zC2 0 7 (nI 1)).1 c = zC.1 c := fun c x1 x2 x3 x4 x5 x6 x7 x8 x9 x10 x11 => by rw [ag_n _ _ _ _ x11]; exact c1 c x1 x2 x3 x4 x5 x6 x7 x8 x9 x10
    have hj : ∀ c, c ≠ 12 → (pj_sI zC2 0 7 (nI 1)).2 c = zC.2 c := c2
    have hm : ∀ c, c ≠ 2 → c ≠ 0 → (pj_sI zM2 0 4 (nI 1)).1 c = zM.1 c := fun c x1 x0 => by rw [ag_n _ _ _ _ x0]; exact f1 c x1
    have hm0 : ∀ j, j ≠ 4 → (pj_sI zM2 0 4 (nI 1)).1 0 j = zM.1 0 j := fun j x0 => by rw [ag_1, upd_ne x0, f1 0 (by decide)]
    refine ⟨nI 1, pj_sI zC2 0 7 (nI 1), pj_sI zM2 0 4 (nI 1), rfl, rfl, pa_I.of (W := W) (H := H) (b := b) (hr := hr) (nb := nb) (nl := nl) (pr := pr) (n := n) (m := m) ?_ ⟨⟨true, rfl, rfl, fun _ => ⟨W, H, b, hr, nb, nl, pr, ?_⟩⟩, ?_, ?_, ?_⟩⟩
    · unfold pa_A at hA ⊢
      rw [hj 8 (by decide), hj 16 (by decide), hj 17 (by decide), hj 18 (by decide), hm 1 (by decide) (by decide), hm 3 (by decide) (by decide), hm0 3 (by decide)]
      simp (disch := decide) only [hc]
      exact hA
    · exact hW.cp c12 c13 c3 c4 c5 c6 c7 c8 c9 c10 c11 f2
    · rw [hm 6 (by decide) (by decide), hm0 12 (by decide)]
      simp (disch := decide) only [hc]
      exact hT
    · rw [hm0 19 (by decide)]
      simp (disch := decide) only [hc]
      exact hf1
    · rw [hm0 21 (by decide)]
      simp (disch := decide) only [hc]
      exact hf2
