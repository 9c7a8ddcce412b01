/-! what can be undone: keeping a step, going back -/
theorem ag_1 (z : pj_S) (k j : Nat) (v : Int32) : (pj_sI z k j v).1 k = upd (z.1 k) j v := by rw [pj_sI1, if_pos rfl]
theorem ag_n (z : pj_S) (k j : Nat) (v : Int32) {a : Nat} (h : a ≠ k) : (pj_sI z k j v).1 a = z.1 a := by rw [pj_sI1, if_neg h]
theorem upd_s (f : Nat → Int32) (k : Nat) (x : Int32) : upd f k x k = x := pk_us
theorem pj_minN {a b : Nat} (ha : a < 2 ^ 31) (hb : b < 2 ^ 31) : pj_min (nI a) (nI b) = nI (min a b) := by
  unfold pj_min
  by_cases h : b < a
  · rw [if_pos (nI_lt h ha), Nat.min_eq_right (by omega)]
  · rw [if_neg (by rw [nI_ltP hb ha]; exact h), Nat.min_eq_left (by omega)]
/-- the model's row of steps behind a keeping -/
def pm_new (w back : Nat → Int32) (p : Nat) : Prop :=
  (∀ i, i < 4 → back (196 * p + i) = w (3 + i)) ∧ ∀ s, s < 64 → back (196 * p + 4 + s) = w (74 + s) ∧ back (196 * p + 68 + s) = w (202 + s) ∧ back (196 * p + 132 + s) = w (1490 + s)
def pm_ag (z z2 : pj_S) : Prop := (∀ c, c ≠ 0 → c ≠ 3 → z2.1 c = z.1 c) ∧ (∀ j, j ≠ 3 → z2.1 0 j = z.1 0 j)
theorem Md_keeps_90_eq (z : pj_S) (p q : Nat) (hp : p < 8) (h0 : z.1 0 3 = nI q) :
    ∃ z2, Md_keeps_88 (nI (196 * p)) z = some ((), z2) ∧ pm_ag z z2 ∧ z2.1 0 3 = nI (q + 1) ∧ (∀ j, (j < 196 * p + 4 ∨ 196 * p + 196 ≤ j) → z2.1 3 j = z.1 3 j) ∧
      ∀ s, s < 64 → z2.1 3 (196 * p + 4 + s) = z.1 1 (74 + s) ∧ z2.1 3 (196 * p + 68 + s) = z.1 1 (202 + s) ∧ z2.1 3 (196 * p + 132 + s) = z.1 1 (1490 + s) := by
  unfold Md_keeps_88
  obtain ⟨a, k, z2, ⟨e1, e2, e3, e4, e5, e6⟩, e⟩ := pj_loop2 (F := Md_keeps_90)
    (P := fun d a v z' => ∃ k, k + d = 64 ∧ a = nI (196 * p) ∧ v = nI k ∧ (∀ c, c ≠ 3 → z'.1 c = z.1 c) ∧ (∀ j, (j < 196 * p + 4 ∨ 196 * p + 196 ≤ j) → z'.1 3 j = z.1 3 j) ∧
      ∀ s, s < k → z'.1 3 (196 * p + 4 + s) = z.1 1 (74 + s) ∧ z'.1 3 (196 * p + 68 + s) = z.1 1 (202 + s) ∧ z'.1 3 (196 * p + 132 + s) = z.1 1 (1490 + s))
    (E := fun a v z' => True ∧ True ∧ True ∧ (∀ c, c ≠ 3 → z'.1 c = z.1 c) ∧ (∀ j, (j < 196 * p + 4 ∨ 196 * p + 196 ≤ j) → z'.1 3 j = z.1 3 j) ∧
      ∀ s, s < 64 → z'.1 3 (196 * p + 4 + s) = z.1 1 (74 + s) ∧ z'.1 3 (196 * p + 68 + s) = z.1 1 (202 + s) ∧ z'.1 3 (196 * p + 132 + s) = z.1 1 (1490 + s))
    (G := fun _ _ z' => Md_keeps_164 z') (by
      rintro self d a v z' ⟨k, hk, rfl, rfl, h1, h2, h3⟩
      unfold Md_keeps_90
      by_cases c : 64 ≤ k
      · left
        have : k = 64 := by omega
        subst this
        exact ⟨⟨trivial, trivial, trivial, h1, h2, h3⟩, by rw [if_pos (by rw [nI_leP (by decide) (by omega)]; omega)]⟩
      · right
        rw [if_neg (by rw [nI_leP (by decide) (by omega)]; omega)]
        simp (disch := omega) only [pj_bI, nI_add, pj_gIn, nI_clamp]
        refine ⟨d - 1, _, _, _, by omega, ⟨k + 1, by omega, rfl, rfl, fun c hc => ?_, fun j hj => ?_, fun s hs => ?_⟩, rfl⟩
        · rw [ag_n _ _ _ _ hc, ag_n _ _ _ _ hc, ag_n _ _ _ _ hc]
          exact h1 c hc
        · rw [ag_1, upd_ne (by omega), ag_1, upd_ne (by omega), ag_1, upd_ne (by omega)]
          exact h2 j hj
        · have a1 : z'.1 1 = z.1 1 := h1 1 (by decide)
          simp only [ag_1, ag_n _ 3 _ _ (show (1 : Nat) ≠ 3 by decide), a1]
          by_cases hsk : s = k
          · subst hsk
            refine ⟨?_, ?_, ?_⟩
            · rw [upd_ne (by omega), upd_ne (by omega), upd_s]
            · rw [upd_ne (by omega), upd_s]
            · rw [upd_s]
          · obtain ⟨g1, g2, g3⟩ := h3 s (by omega)
            refine ⟨?_, ?_, ?_⟩
            · rw [upd_ne (by omega), upd_ne (by omega), upd_ne (by omega)]; exact g1
            · rw [upd_ne (by omega), upd_ne (by omega), upd_ne (by omega)]; exact g2
            · rw [upd_ne (by omega), upd_ne (by omega), upd_ne (by omega)]; exact g3)
    4000 64 (nI (196 * p)) (nI 0) z ⟨0, by omega, rfl, rfl, fun _ _ => rfl, fun _ _ => rfl, fun s hs => absurd hs (by omega)⟩ (by decide)
  rw [e]
  refine ⟨_, rfl, ⟨fun c c0 c3 => ?_, fun j hj => ?_⟩, ?_, fun j hj => ?_, fun s hs => ?_⟩
  · rw [ag_n _ _ _ _ c0]; exact e4 c c3
  · rw [ag_1, upd_ne hj, e4 0 (by decide)]
  · rw [ag_1, upd_s, e4 0 (by decide), h0, nI_add]
  · rw [ag_n _ _ _ _ (by decide)]; exact e5 j hj
  · rw [ag_n _ _ _ _ (by decide)]; exact e6 s hs
theorem Md_keeps_50_eq (z : pj_S) (p : Nat) (hp : p < 8) (h0 : z.1 0 3 = nI p) :
    ∃ z2, Md_keeps_50 z = some ((), z2) ∧ pm_ag z z2 ∧ z2.1 0 3 = nI (p + 1) ∧ (∀ j, j < 196 * p → z2.1 3 j = z.1 3 j) ∧ pm_new (z.1 1) (z2.1 3) p := by
  unfold Md_keeps_50
  rw [pj_bI, h0, pk_mul]
  obtain ⟨a, k, z2, ⟨e1, e4, e5, e6⟩, e⟩ := pj_loop2 (F := Md_keeps_61)
    (P := fun d a v z' => ∃ k, k + d = 4 ∧ a = nI (196 * p) ∧ v = nI k ∧ (∀ c, c ≠ 3 → z'.1 c = z.1 c) ∧ (∀ j, (j < 196 * p) → z'.1 3 j = z.1 3 j) ∧ ∀ i, i < k → z'.1 3 (196 * p + i) = z.1 1 (3 + i))
    (E := fun a v z' => a = nI (196 * p) ∧ (∀ c, c ≠ 3 → z'.1 c = z.1 c) ∧ (∀ j, (j < 196 * p) → z'.1 3 j = z.1 3 j) ∧ ∀ i, i < 4 → z'.1 3 (196 * p + i) = z.1 1 (3 + i))
    (G := fun a _ z' => Md_keeps_88 a z') (by
      rintro self d a v z' ⟨k, hk, rfl, rfl, h1, h2, h3⟩
      unfold Md_keeps_61
      by_cases c : 4 ≤ k
      · left
        have : k = 4 := by omega
        subst this
        exact ⟨⟨rfl, h1, h2, h3⟩, by rw [if_pos (by rw [nI_leP (by decide) (by omega)]; omega)]⟩
      · right
        rw [if_neg (by rw [nI_leP (by decide) (by omega)]; omega)]
        simp (disch := omega) only [pj_bI, nI_add, pj_gIn, nI_clamp]
        refine ⟨d - 1, _, _, _, by omega, ⟨k + 1, by omega, rfl, rfl, fun c hc => ?_, fun j hj => ?_, fun i hi => ?_⟩, rfl⟩
        · rw [ag_n _ _ _ _ hc]; exact h1 c hc
        · rw [ag_1, upd_ne (by omega)]; exact h2 j hj
        · rw [ag_1, h1 1 (by decide)]
          by_cases hik : i = k
          · subst hik; rw [upd_s]
          · rw [upd_ne (by omega)]; exact h3 i (by omega))
    4000 4 (nI (196 * p)) (nI 0) z ⟨0, by omega, rfl, rfl, fun _ _ => rfl, fun _ _ => rfl, fun s hs => absurd hs (by omega)⟩ (by decide)
  rw [e, e1]
  obtain ⟨z3, f1, ⟨f2, f3⟩, f4, f5, f6⟩ := Md_keeps_90_eq z2 p p hp (by rw [e4 0 (by decide)]; exact h0)
  refine ⟨z3, f1, ⟨fun c c0 c3 => ?_, fun j hj => ?_⟩, f4, fun j hj => ?_, fun i hi => ?_, fun s hs => ?_⟩
  · rw [f2 c c0 c3]; exact e4 c c3
  · rw [f3 j hj, e4 0 (by decide)]
  · rw [f5 j (by omega)]; exact e5 j hj
  · rw [f5 _ (by omega)]; exact e6 i hi
  · rw [← e4 1 (by decide)]; exact f6 s hs
theorem Md_keeps_eq (z : pj_S) (n : Nat) (hn : n ≤ 8) (h0 : z.1 0 3 = nI n) :
    ∃ z2, Md_keeps z = some ((), z2) ∧ pm_ag z z2 ∧ z2.1 0 3 = nI (min (n + 1) 8) ∧ (∀ j, j < 196 * (min (n + 1) 8 - 1) → z2.1 3 j = if n = 8 then z.1 3 (j + 196) else z.1 3 j) ∧ pm_new (z.1 1) (z2.1 3) (min (n + 1) 8 - 1) := by
  unfold Md_keeps
  rw [h0]
  by_cases c : n = 8
  · subst c
    rw [if_pos rfl]
    obtain ⟨k, z2, ⟨e4, e5⟩, e⟩ := pj_loop1 (F := Md_keeps_11)
      (P := fun d v z' => ∃ k, k + d = 1372 ∧ v = nI k ∧ (∀ c, c ≠ 3 → z'.1 c = z.1 c) ∧ ∀ j, z'.1 3 j = if j < k then z.1 3 (j + 196) else z.1 3 j)
      (E := fun v z' => (∀ c, c ≠ 3 → z'.1 c = z.1 c) ∧ ∀ j, z'.1 3 j = if j < 1372 then z.1 3 (j + 196) else z.1 3 j)
      (G := fun _ z' => Md_keeps_40 z') (by
        rintro self d v z' ⟨k, hk, rfl, h1, h2⟩
        unfold Md_keeps_11
        by_cases c : 1372 ≤ k
        · left
          have : k = 1372 := by omega
          subst this
          exact ⟨⟨h1, h2⟩, by rw [if_pos (by rw [nI_leP (by decide) (by omega)]; omega)]⟩
        · right
          rw [if_neg (by rw [nI_leP (by decide) (by omega)]; omega)]
          simp (disch := omega) only [pj_bI, nI_add, pj_gIn, nI_clamp]
          refine ⟨d - 1, _, _, by omega, ⟨k + 1, by omega, rfl, fun c hc => ?_, fun j => ?_⟩, rfl⟩
          · rw [ag_n _ _ _ _ hc]; exact h1 c hc
          · rw [ag_1, h2 (k + 196), if_neg (by omega)]
            by_cases hj : j = k
            · subst hj; rw [upd_s, if_pos (by omega)]
            · rw [upd_ne hj, h2 j]
              by_cases hjk : j < k
              · rw [if_pos hjk, if_pos (by omega)]
              · rw [if_neg hjk, if_neg (by omega)])
      4000 1372 (nI 0) z ⟨0, by omega, rfl, fun _ _ => rfl, fun j => by rw [if_neg (by omega)]⟩ (by decide)
    rw [e]
    unfold Md_keeps_40
    rw [pj_bI, e4 0 (by decide), h0, pk_sub (by decide)]
    obtain ⟨z3, f1, ⟨f2, f3⟩, f4, f5, f6⟩ := Md_keeps_50_eq (pj_sI z2 0 3 (nI (8 - 1))) 7 (by decide) (by rw [ag_1, upd_s])
    refine ⟨z3, f1, ⟨fun c c0 c3 => ?_, fun j hj => ?_⟩, f4, fun j hj => ?_, ?_⟩
    · rw [f2 c c0 c3, ag_n _ _ _ _ c0]; exact e4 c c3
    · rw [f3 j hj, ag_1, upd_ne hj, e4 0 (by decide)]
    · have hj : j < 1372 := by simpa using hj
      rw [if_pos rfl, f5 j (by omega), ag_n _ _ _ _ (by decide), e5 j, if_pos hj]
    · have : (pj_sI z2 0 3 (nI (8 - 1))).1 1 = z.1 1 := by rw [ag_n _ _ _ _ (by decide)]; exact e4 1 (by decide)
      rw [this] at f6
      exact f6
  · rw [if_neg (by rw [nI_P (by omega) (by decide)]; exact c)]
    obtain ⟨z3, f1, f2, f4, f5, f6⟩ := Md_keeps_50_eq z n (by omega) h0
    have : min (n + 1) 8 = n + 1 := by omega
    rw [this]
    refine ⟨z3, f1, f2, f4, fun j hj => ?_, f6⟩
    rw [if_neg c]
    exact f5 j (by omega)
