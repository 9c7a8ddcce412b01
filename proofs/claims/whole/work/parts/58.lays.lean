/-! the model's rows of what is here and who holds whom -/
/-- rows 9, 10, 11 say he, ca, and how many hold; nothing else has changed but them -/
def pm_lay (W : Nat) (kd : Nat → Nat) (he ca : Nat → Bool) (z : pj_S) : Prop := (∀ s, s < 64 → z.1 9 s = b2i (he s)) ∧ (∀ s, s < 64 → z.1 10 s = b2i (ca s)) ∧ ∀ t, t < 64 → z.1 11 t = nI (hc W kd he t 64)
theorem Md_laysNow_eq (z : pj_S) : ∃ z2, Md_laysNow z = some ((), z2) ∧ (∀ c, c ≠ 9 → c ≠ 10 → z2.1 c = z.1 c) ∧ ∀ s, s < 64 → z2.1 9 s = z.1 1 (74 + s) ∧ z2.1 10 s = z.1 1 (138 + s) := by
  unfold Md_laysNow
  obtain ⟨v, z2, ⟨e1, e2⟩, e⟩ := pj_loop1 (F := Md_laysNow_2)
    (P := fun d v z' => ∃ k, k + d = 64 ∧ v = nI k ∧ (∀ c, c ≠ 9 → c ≠ 10 → z'.1 c = z.1 c) ∧ ∀ s, s < k → z'.1 9 s = z.1 1 (74 + s) ∧ z'.1 10 s = z.1 1 (138 + s))
    (E := fun _ z' => (∀ c, c ≠ 9 → c ≠ 10 → z'.1 c = z.1 c) ∧ ∀ s, s < 64 → z'.1 9 s = z.1 1 (74 + s) ∧ z'.1 10 s = z.1 1 (138 + s))
    (G := fun _ z' => some ((), z')) (by
      rintro self d v z' ⟨k, hk, rfl, h1, h2⟩
      unfold Md_laysNow_2
      by_cases c : 64 ≤ k
      · left
        have : k = 64 := by omega
        subst this
        exact ⟨⟨h1, h2⟩, by rw [if_pos (nI_le c (by decide))]⟩
      · right
        rw [if_neg (by rw [nI_leP (by decide) (by omega)]; exact c)]
        simp (disch := omega) only [nI_add, pj_gIn, nI_clamp, pj_bI]
        refine ⟨d - 1, _, _, by omega, ⟨k + 1, by omega, rfl, fun c c9 c10 => ?_, fun s hs => ?_⟩, rfl⟩
        · rw [ag_n _ _ _ _ c10, ag_n _ _ _ _ c9]; exact h1 c c9 c10
        · simp (disch := decide) only [ag_n, ag_1]
          rw [h1 1 (by decide) (by decide)]
          by_cases cs : s = k
          · subst cs; rw [upd_s, upd_s]; exact ⟨rfl, rfl⟩
          · rw [upd_ne cs, upd_ne cs]; exact h2 s (by omega))
    4000 64 (nI 0) z ⟨0, by omega, rfl, fun _ _ _ => rfl, fun s hs => absurd hs (by omega)⟩ (by decide)
  exact ⟨z2, e, e1, e2⟩
section LAY
variable {W H : Nat} {kd : Nat → Nat} {he ca : Nat → Bool} {z : pj_S}
theorem oI_n : oI none = -1 := rfl
theorem oI_s (t : Nat) : oI (some t) = nI t := rfl
theorem d1_lt {s t : Nat} (hs : s < 64) (h : d1 W kd s = some t) : t < 64 := by
  unfold d1 at h
  by_cases c8 : s < 8
  · rw [if_pos c8] at h; cases h
  · rw [if_neg c8] at h
    by_cases c2 : kd s = 2
    · rw [if_pos c2] at h; cases h
    · rw [if_neg c2] at h
      by_cases c1 : kd s = 1
      · rw [if_pos c1] at h
        by_cases co : s % 8 % 2 = 1
        · rw [if_pos co] at h; have := Option.some.inj h; omega
        · rw [if_neg co] at h
          by_cases cw : W ≤ s % 8 + 1
          · rw [if_pos cw] at h; have := Option.some.inj h; omega
          · rw [if_neg cw] at h; have := Option.some.inj h; omega
      · rw [if_neg c1] at h; have := Option.some.inj h; omega
theorem d2_lt {s t : Nat} (hs : s < 64) (h : d2 W kd s = some t) : t < 64 := by
  unfold d2 at h
  by_cases c8 : s < 8
  · rw [if_pos c8] at h; cases h
  · rw [if_neg c8] at h
    by_cases c3 : kd s = 3
    · rw [if_pos c3] at h
      by_cases cw : W ≤ s % 8 + 1
      · rw [if_pos cw] at h; cases h
      · rw [if_neg cw] at h; have := Option.some.inj h; omega
    · rw [if_neg c3] at h; cases h
theorem Md_drawnOne_eq (w0 : z.1 1 0 = nI W) (hW : W ≤ 6) (s : Nat) (hs : s < 64) (hk : z.1 1 (10 + s) = nI (kd s)) (hk4 : kd s < 4) : Md_drawnOne (nI s) z = some (oI (d1 W kd s), z) := by
  unfold Md_drawnOne d1
  rw [pj_gNz (by decide) (by decide), pj_remN (by omega) (by decide) (by decide), pj_bI, nI_add, pj_gIn (by omega) (by decide), nI_clamp (n := 10 + s) (by omega), hk, pj_bI]
  by_cases c8 : s < 8
  · rw [if_pos (nI_lt c8 (by decide)), if_pos c8]; rfl
  · rw [if_neg (by rw [nI_ltP (by omega) (by decide)]; exact c8), if_neg c8]
    by_cases c2 : kd s = 2
    · rw [if_pos (by rw [c2]), if_pos c2]; rfl
    · rw [if_neg (by rw [nI_P (by omega) (by decide)]; exact c2), if_neg c2]
      by_cases c1 : kd s = 1
      · rw [if_pos (by rw [c1]), if_pos c1, pj_gNz (by decide) (by decide), pj_remN (by omega) (by decide) (by decide)]
        by_cases co : s % 8 % 2 = 1
        · rw [if_pos (by rw [co]), if_pos co, pk_sub (by omega), pk_sub (by omega)]
          rfl
        · rw [if_neg (by rw [nI_P (by omega) (by decide)]; exact co), if_neg co, pj_gIn (by decide) (by decide), nI_clamp (n := 0) (by decide), w0, nI_add]
          by_cases cw : W ≤ s % 8 + 1
          · rw [if_pos (nI_le cw (by omega)), if_pos cw, pk_sub (by omega)]; rfl
          · rw [if_neg (by rw [nI_leP (by omega) (by omega)]; exact cw), if_neg cw, pk_sub (by omega), nI_add, oI_s, show s - 8 + 1 = s - 7 by omega]
      · rw [if_neg (by rw [nI_P (by omega) (by decide)]; exact c1), if_neg c1, pk_sub (by omega)]; rfl
theorem Md_drawnOther_eq (w0 : z.1 1 0 = nI W) (hW : W ≤ 6) (s : Nat) (hs : s < 64) (hk : z.1 1 (10 + s) = nI (kd s)) (hk4 : kd s < 4) : Md_drawnOther (nI s) z = some (oI (d2 W kd s), z) := by
  unfold Md_drawnOther d2
  by_cases c8 : s < 8
  · rw [if_pos (nI_lt c8 (by decide)), if_pos c8]; rfl
  · rw [if_neg (by rw [nI_ltP (by omega) (by decide)]; exact c8), if_neg c8, nI_add, pj_gIn (by omega) (by decide), nI_clamp (n := 10 + s) (by omega), hk]
    by_cases c3 : kd s = 3
    · rw [if_pos (by rw [c3]), if_pos c3, pj_gNz (by decide) (by decide), pj_gIn (by decide) (by decide), nI_clamp (n := 0) (by decide), w0, pj_remN (by omega) (by decide) (by decide), nI_add]
      by_cases cw : W ≤ s % 8 + 1
      · rw [if_pos (nI_le cw (by omega)), if_pos cw]; rfl
      · rw [if_neg (by rw [nI_leP (by omega) (by omega)]; exact cw), if_neg cw, pk_sub (by omega), nI_add, oI_s, show s - 8 + 1 = s - 7 by omega]
    · rw [if_neg (by rw [nI_P (by omega) (by decide)]; exact c3), if_neg c3]; rfl
theorem oI_ne {t : Nat} (h : t < 64) : ¬ oI (some t) = -1 := by
  rw [oI_s]
  intro q
  have := nI_toInt (n := t) (by omega)
  rw [q] at this
  have t : (-1 : Int32).toInt = -1 := by decide
  omega
/-- one stitch more holds -/
theorem Md_holds_eq (w0 : z.1 1 0 = nI W) (hW : W ≤ 6) (s : Nat) (hs : s < 64) (hk : z.1 1 (10 + s) = nI (kd s)) (hk4 : kd s < 4) (v : Int32) : ∃ z2, Md_holds (nI s) v z = some ((), z2) ∧ (∀ c, c ≠ 11 → z2.1 c = z.1 c) ∧
    ∀ t, t < 64 → z2.1 11 t = if d2 W kd s = some t then (if d1 W kd s = some t then z.1 11 t + v + v else z.1 11 t + v) else if d1 W kd s = some t then z.1 11 t + v else z.1 11 t := by
  unfold Md_holds Md_holds_28
  have l1 : ∀ t, d1 W kd s = some t → t < 64 := fun t => d1_lt hs
  have l2 : ∀ t, d2 W kd s = some t → t < 64 := fun t => d2_lt hs
  rw [Md_drawnOne_eq w0 hW s hs hk hk4, pj_cS, Md_drawnOther_eq w0 hW s hs hk hk4, pj_cS]
  cases q1 : d1 W kd s with
  | none =>
    rw [if_pos oI_n]
    cases q2 : d2 W kd s with
    | none =>
      rw [if_pos oI_n]
      exact ⟨z, rfl, fun _ _ => rfl, fun t ht => by rw [if_neg (by simp), if_neg (by simp)]⟩
    | some t2 =>
      have := l2 t2 q2
      rw [if_neg (oI_ne this), oI_s, pj_gIn (by omega) (by decide), pj_gIn (by omega) (by decide), nI_clamp (n := t2) (by omega), pj_bI]
      refine ⟨_, rfl, fun c hc => ag_n _ _ _ _ hc, fun t ht => ?_⟩
      rw [ag_1]
      by_cases c : t2 = t
      · subst c; rw [upd_s, if_pos rfl, if_neg (by simp)]
      · rw [upd_ne (fun q => c q.symm), if_neg (by simp [c]), if_neg (by simp)]
  | some t1 =>
    have := l1 t1 q1
    rw [if_neg (oI_ne this), oI_s, pj_gIn (by omega) (by decide), pj_gIn (by omega) (by decide), nI_clamp (n := t1) (by omega), pj_bI]
    cases q2 : d2 W kd s with
    | none =>
      rw [if_pos oI_n]
      refine ⟨_, rfl, fun c hc => ag_n _ _ _ _ hc, fun t ht => ?_⟩
      rw [ag_1]
      by_cases c : t1 = t
      · subst c; rw [upd_s, if_neg (by simp), if_pos rfl]
      · rw [upd_ne (fun q => c q.symm), if_neg (by simp), if_neg (by simp [c])]
    | some t2 =>
      have := l2 t2 q2
      rw [if_neg (oI_ne this), oI_s, pj_gIn (by omega) (by decide), pj_gIn (by omega) (by decide), nI_clamp (n := t2) (by omega), pj_bI]
      refine ⟨_, rfl, fun c hc => by rw [ag_n _ _ _ _ hc, ag_n _ _ _ _ hc], fun t ht => ?_⟩
      rw [ag_1, ag_1]
      by_cases c : t2 = t
      · subst c
        rw [upd_s, if_pos rfl]
        by_cases c1 : t1 = t2
        · subst c1; rw [upd_s, if_pos rfl]
        · rw [upd_ne (fun q => c1 q.symm), if_neg (by simp [c1])]
      · rw [upd_ne (fun q => c q.symm), if_neg (by simp [c])]
        by_cases c1 : t1 = t
        · subst c1; rw [upd_s, if_pos rfl]
        · rw [upd_ne (fun q => c1 q.symm), if_neg (by simp [c1])]
theorem Md_laysHolders_21_eq (w0 : z.1 1 0 = nI W) (hW : W ≤ 6) (hk : ∀ s, s < 64 → z.1 1 (10 + s) = nI (kd s)) (hk4 : ∀ s, kd s < 4) (h9 : ∀ s, s < 64 → z.1 9 s = b2i (he s)) (h11 : ∀ t, t < 64 → z.1 11 t = nI 0) :
    ∃ z2, Md_laysHolders_21 z = some ((), z2) ∧ (∀ c, c ≠ 11 → z2.1 c = z.1 c) ∧ ∀ t, t < 64 → z2.1 11 t = nI (hc W kd he t 64) := by
  unfold Md_laysHolders_21
  obtain ⟨v, z2, ⟨e1, e2⟩, e⟩ := pj_loop1 (F := Md_laysHolders_23)
    (P := fun d v z' => ∃ k, k + d = 64 ∧ v = nI k ∧ (∀ c, c ≠ 11 → z'.1 c = z.1 c) ∧ ∀ t, t < 64 → z'.1 11 t = nI (hc W kd he t k))
    (E := fun _ z' => (∀ c, c ≠ 11 → z'.1 c = z.1 c) ∧ ∀ t, t < 64 → z'.1 11 t = nI (hc W kd he t 64))
    (G := fun _ z' => some ((), z')) (by
      rintro self d v z' ⟨k, hk', rfl, h1, h2⟩
      unfold Md_laysHolders_23 Md_laysHolders_45
      by_cases c : 64 ≤ k
      · left
        have : k = 64 := by omega
        subst this
        exact ⟨⟨h1, h2⟩, by rw [if_pos (nI_le c (by decide))]⟩
      · right
        have r1 := h1 1 (by decide)
        have r9 := h1 9 (by decide)
        rw [if_neg (by rw [nI_leP (by decide) (by omega)]; exact c), pj_gIn (by omega) (by decide), nI_clamp (n := k) (by omega), r9, h9 k (by omega), ib1, nI_add]
        have hs : ∀ t, hc W kd he t (k + 1) = hc W kd he t k + ((he k && decide (d1 W kd k = some t)).toNat + (he k && decide (d2 W kd k = some t)).toNat) := fun t => by
          unfold hc
          rw [cnt, cnt]
          omega
        cases q : he k
        · rw [if_neg Bool.false_ne_true, pj_bI]
          refine ⟨d - 1, _, _, by omega, ⟨k + 1, by omega, rfl, h1, fun t ht => ?_⟩, rfl⟩
          rw [h2 t ht, hs, q]
          rfl
        · rw [if_pos rfl]
          obtain ⟨z3, y, y1, y2⟩ := Md_holds_eq (z := z') (by rw [r1]; exact w0) hW k (by omega) (by rw [r1]; exact hk k (by omega)) (hk4 k) (nI 1)
          rw [y, pj_cS, pj_bI]
          refine ⟨d - 1, _, _, by omega, ⟨k + 1, by omega, rfl, fun c hc => (y1 c hc).trans (h1 c hc), fun t ht => ?_⟩, rfl⟩
          rw [y2 t ht, hs, q, h2 t ht]
          by_cases c1 : d1 W kd k = some t
          · by_cases c2 : d2 W kd k = some t
            · rw [if_pos c2, if_pos c1, nI_add, nI_add, c1, c2]; simp
            · rw [if_neg c2, if_pos c1, nI_add, c1]; simp [c2]
          · by_cases c2 : d2 W kd k = some t
            · rw [if_pos c2, if_neg c1, nI_add, c2]; simp [c1]
            · rw [if_neg c2, if_neg c1]; simp [c1, c2])
    4000 64 (nI 0) z ⟨0, by omega, rfl, fun _ _ => rfl, fun t ht => h11 t ht⟩ (by decide)
  exact ⟨z2, e, e1, e2⟩
theorem Md_laysHolders_eq (w0 : z.1 1 0 = nI W) (hW : W ≤ 6) (hk : ∀ s, s < 64 → z.1 1 (10 + s) = nI (kd s)) (hk4 : ∀ s, kd s < 4) (h9 : ∀ s, s < 64 → z.1 9 s = b2i (he s)) :
    ∃ z2, Md_laysHolders z = some ((), z2) ∧ (∀ c, c ≠ 11 → z2.1 c = z.1 c) ∧ ∀ t, t < 64 → z2.1 11 t = nI (hc W kd he t 64) := by
  unfold Md_laysHolders
  obtain ⟨v, z2, ⟨e1, e2⟩, e⟩ := pj_loop1 (F := Md_laysHolders_2)
    (P := fun d v z' => ∃ k, k + d = 64 ∧ v = nI k ∧ (∀ c, c ≠ 11 → z'.1 c = z.1 c) ∧ ∀ t, t < k → z'.1 11 t = nI 0)
    (E := fun _ z' => (∀ c, c ≠ 11 → z'.1 c = z.1 c) ∧ ∀ t, t < 64 → z'.1 11 t = nI 0)
    (G := fun _ z' => Md_laysHolders_21 z') (by
      rintro self d v z' ⟨k, hk', rfl, h1, h2⟩
      unfold Md_laysHolders_2
      by_cases c : 64 ≤ k
      · left
        have : k = 64 := by omega
        subst this
        exact ⟨⟨h1, h2⟩, by rw [if_pos (nI_le c (by decide))]⟩
      · right
        rw [if_neg (by rw [nI_leP (by decide) (by omega)]; exact c), pj_gIn (by omega) (by decide), nI_clamp (n := k) (by omega), pj_bI, nI_add, pj_bI]
        refine ⟨d - 1, _, _, by omega, ⟨k + 1, by omega, rfl, fun c hc => ?_, fun t ht => ?_⟩, rfl⟩
        · rw [ag_n _ _ _ _ hc]; exact h1 c hc
        · rw [ag_1]
          by_cases ct : t = k
          · subst ct; rw [upd_s]
          · rw [upd_ne ct]; exact h2 t (by omega))
    4000 64 (nI 0) z ⟨0, by omega, rfl, fun _ _ => rfl, fun t ht => absurd ht (by omega)⟩ (by decide)
  rw [e]
  have r1 := e1 1 (by decide)
  obtain ⟨z3, y, y1, y2⟩ := Md_laysHolders_21_eq (W := W) (kd := kd) (he := he) (z := z2) (by rw [r1]; exact w0) hW (by rw [r1]; exact hk) hk4 (by rw [e1 9 (by decide)]; exact h9) e2
  exact ⟨z3, y, fun c hc => (y1 c hc).trans (e1 c hc), y2⟩
theorem Md_isHeld_eq {b : Bool} (w1 : z.1 1 1 = nI H) (w2 : z.1 1 2 = b2i b) (hH : 2 ≤ H ∧ H ≤ 6) (hl' : pm_lay W kd he ca z) (t : Nat) (ht : t < 64) : Md_isHeld (nI t) z = some (b2i (hl W H b kd ca he t), z) := by
  obtain ⟨l1, l2, l3⟩ := hl'
  unfold Md_isHeld Md_isHeld_45 Md_isHeld_54 hl
  rw [pj_gIn (n := t) ht (by decide), pj_gIn (n := t) ht (by decide), pj_gIn (n := t) ht (by decide), nI_clamp (n := t) (by omega), l1 t ht, l2 t ht, l3 t ht, ib1, ib1, pj_gIn (n := 2) (by decide) (by decide), nI_clamp (n := 2) (by decide), w2, ib1, pj_gNz (by decide) (by decide), pj_gIn (n := 1) (by decide) (by decide), nI_clamp (n := 1) (by decide), w1, pk_div (by omega) (by decide) (by decide), pk_sub (by omega)]
  have hle : hc W kd he t 64 ≤ 128 := by
    unfold hc
    have := cnt_le (fun s => he s && decide (d1 W kd s = some t)) 64
    have := cnt_le (fun s => he s && decide (d2 W kd s = some t)) 64
    omega
  have last : (if nI (hc W kd he t 64) ≤ 0 then pj_g (pj_bo (nI 0)) (some ((nI 0), z)) else pj_g (pj_bo (nI 1)) (some ((nI 1), z))) = some (b2i (decide (0 < hc W kd he t 64)), z) := by
    by_cases c : 0 < hc W kd he t 64
    · have x : ¬ nI (hc W kd he t 64) ≤ 0 := by show ¬ nI (hc W kd he t 64) ≤ nI 0; rw [nI_leP (by omega) (by decide)]; omega
      rw [if_neg x, decide_eq_true c]; rfl
    · have x : nI (hc W kd he t 64) ≤ 0 := by show nI (hc W kd he t 64) ≤ nI 0; exact nI_le (by omega) (by decide)
      rw [if_pos x, decide_eq_false c]; rfl
  rw [last]
  cases he t
  · rfl
  · rw [if_pos rfl]
    cases ca t
    · rw [if_neg Bool.false_ne_true]
      cases b
      · rw [if_neg Bool.false_ne_true]; simp
      · rw [if_pos rfl]
        by_cases c : t / 8 + 1 = H
        · rw [if_pos (by rw [show t / 8 = H - 1 by omega]), decide_eq_true c]; rfl
        · rw [if_neg (by rw [nI_P (by omega) (by omega)]; omega), decide_eq_false c]; simp
    · rw [if_pos rfl]; rfl
theorem Md_isLoose_eq {b : Bool} (w1 : z.1 1 1 = nI H) (w2 : z.1 1 2 = b2i b) (hH : 2 ≤ H ∧ H ≤ 6) (hl' : pm_lay W kd he ca z) (t : Nat) (ht : t < 64) : Md_isLoose (nI t) z = some (b2i (he t && !hl W H b kd ca he t), z) := by
  unfold Md_isLoose
  rw [pj_gIn (n := t) ht (by decide), nI_clamp (n := t) (by omega), hl'.1 t ht, ib1, Md_isHeld_eq w1 w2 hH hl' t ht, pj_cS, ib0]
  cases he t
  · rfl
  · rw [if_pos rfl]
    cases hl W H b kd ca he t <;> rfl
end LAY
theorem Fabric_loose_eq {W H : Nat} {b : Bool} {z : pj_S} {w : Nat → Int32} (hF : pa_F W H b (z.1 8) (z.2 8) w) : ∃ r, Fabric_loose z = some (r, z) ∧ ∀ t, t < 64 → tb r t = (tb (z.2 8 6) t && !hl W H b (kdb (tb (z.2 8 4)) (tb (z.2 8 5))) (tb (z.2 8 7)) (tb (z.2 8 6)) t) := by
  have hx : ∀ s, s < 64 → tb (z.2 8 6) s = true → stit W H s = true := fun s hs h => by
    cases q : stit W H s
    · have := (hF.2.2.2.2.2.2.2.2.1 s hs q).2.2.1
      rw [this] at h; cases h
    · rfl
  obtain ⟨r, e, er⟩ := Fabric_heldOf_eq hF (z.2 8 6) (z.2 8 7) hx
  unfold Fabric_loose
  rw [e, pj_cS]
  refine ⟨_, rfl, fun t ht => ?_⟩
  rw [tb_and, tb_not _ _ ht, er t ht]
