/-! rectangles; a new cloth; the start -/
theorem row_tb : ∀ x1, x1 < 8 → ∀ x0, x0 ≤ x1 → ∀ i, i < 64 → tb (pj_shlL 1 (nI (x1 + 1)) - pj_shlL 1 (nI x0)) i = (decide (x0 ≤ i) && decide (i ≤ x1)) := by decide +kernel
theorem PJ_rectangle_eq (x0 x1 y0 y1 : Nat) (h : x0 ≤ x1) (hx : x1 < 8) (hy0 : y0 < 2 ^ 30) (hy1 : y1 < 2 ^ 30) (z : pj_S) : ∃ r, PJ_rectangle (nI x0) (nI x1) (nI y0) (nI y1) z = some (r, z) ∧
    ∀ i, i < 64 → tb r i = decide ((x0 ≤ i % 8 ∧ i % 8 ≤ x1) ∧ y0 ≤ i / 8 ∧ i / 8 ≤ y1 ∧ i / 8 < 6) := by
  unfold PJ_rectangle
  rw [nI_add, pj_bI]
  obtain ⟨a0, a1, a2, a3, z2, ⟨rfl, e⟩, e2⟩ := pj_loop4 (F := PJ_rectangle_17)
    (P := fun d v3 v4 v6 v8 z' => v3 = nI y1 ∧ v4 = pj_shlL 1 (nI (x1 + 1)) - pj_shlL 1 (nI x0) ∧ z' = z ∧ ∃ k, v8 = nI k ∧ k < 2 ^ 30 + 1 ∧ y0 ≤ k ∧ d = 7 - k ∧ (k = y0 ∨ (k ≤ y1 + 1 ∧ k ≤ 6)) ∧ ∀ i, i < 64 → tb v6 i = decide ((x0 ≤ i % 8 ∧ i % 8 ≤ x1) ∧ y0 ≤ i / 8 ∧ i / 8 < k))
    (E := fun _ _ v6 _ z' => z' = z ∧ ∀ i, i < 64 → tb v6 i = decide ((x0 ≤ i % 8 ∧ i % 8 ≤ x1) ∧ y0 ≤ i / 8 ∧ i / 8 ≤ y1 ∧ i / 8 < 6))
    (G := fun _ _ v6 _ z' => some (v6, z')) (by
      rintro self d v3 v4 v6 v8 z' ⟨rfl, rfl, rfl, k, rfl, hk, h1, rfl, h2, h3⟩
      unfold PJ_rectangle_17 PJ_rectangle_49
      by_cases c : y1 < k
      · left
        rw [if_pos (nI_lt c (by omega))]
        refine ⟨⟨rfl, fun i hi => ?_⟩, rfl⟩
        rw [h3 i hi]
        congr 1
        apply propext
        omega
      · rw [if_neg (by rw [nI_ltP (by omega) (by omega)]; exact c)]
        by_cases c2 : 6 ≤ k
        · left
          rw [if_pos (nI_le c2 (by omega))]
          refine ⟨⟨rfl, fun i hi => ?_⟩, rfl⟩
          rw [h3 i hi]
          congr 1
          apply propext
          omega
        · right
          rw [if_neg (by rw [nI_leP (by omega) (by omega)]; exact c2), pk_mul, pj_bI, nI_add, pj_bI]
          refine ⟨7 - (k + 1), _, _, _, _, _, by omega, ⟨rfl, rfl, rfl, k + 1, rfl, by omega, by omega, rfl, by omega, fun i hi => ?_⟩, rfl⟩
          rw [tb_or, h3 i hi, tb_shl _ _ (by omega) _ hi]
          by_cases ck : 8 * k ≤ i
          · rw [row_tb x1 hx x0 h (i - 8 * k) (by omega)]
            rw [Bool.eq_iff_iff]
            simp only [Bool.or_eq_true, Bool.and_eq_true, decide_eq_true_eq]
            omega
          · rw [Bool.eq_iff_iff]
            simp only [Bool.or_eq_true, Bool.and_eq_true, decide_eq_true_eq]
            omega)
    4000 (7 - y0) (nI y1) (pj_shlL 1 (nI (x1 + 1)) - pj_shlL 1 (nI x0)) 0 (nI y0) z ⟨rfl, rfl, rfl, y0, rfl, by omega, by omega, rfl, Or.inl rfl, fun i hi => by
      rw [tb_0]
      symm
      rw [decide_eq_false_iff_not]
      omega⟩ (by omega)
  exact ⟨_, e2, e⟩
/-- what a beginning leaves of the class -/
theorem Whole_begin_eq (W H : Nat) (hW : 2 ≤ W ∧ W ≤ 6 ∧ 2 ≤ H ∧ H ≤ 6) (z : pj_S) : ∃ z2, Whole_begin (nI W) (nI H) z = some ((), z2) ∧
    (∀ c, c ≠ 8 → c ≠ 9 → c ≠ 10 → c ≠ 11 → c ≠ 1 → z2.1 c = z.1 c) ∧ (∀ c, c ≠ 8 → z2.2 c = z.2 c) ∧ z2.1 1 5 = z.1 1 5 ∧ z2.1 1 4 = nI 0 ∧ z2.1 10 3 = nI 0 ∧ z2.1 11 1 = nI 0 ∧ z2.1 9 2 = nI 0 ∧ z2.1 9 3 = nI 0 ∧
    z2.1 8 0 = nI W ∧ z2.1 8 1 = nI H ∧ z2.1 8 2 = nI 1 ∧ (∀ s, s < 64 → tb (z2.2 8 3) s = stit W H s) ∧ z2.2 8 4 = 0 ∧ z2.2 8 5 = 0 ∧ z2.2 8 6 = z2.2 8 3 ∧ z2.2 8 7 = 0 ∧ z2.2 8 8 = 0 ∧ z2.2 8 9 = 0 := by
  unfold Whole_begin Fabric_begin Law_clear
  simp only [pj_bI, pj_gB1]
  obtain ⟨r, e, er⟩ := PJ_rectangle_eq 0 (W - 1) 0 (H - 1) (by omega) (by omega) (by omega) (by omega) (pj_sI (pj_sI (pj_sI z 8 0 (nI W)) 8 1 (nI H)) 8 2 (nI 1))
  rw [pk_sub (by omega), pk_sub (by omega), e]
  simp only [pj_cS]
  refine ⟨_, rfl, fun c c1 c2 c3 c4 c5 => ?_, fun c hc => ?_, rfl, rfl, rfl, rfl, rfl, rfl, rfl, rfl, rfl, fun s hs => ?_, rfl, rfl, rfl, rfl, rfl, rfl⟩
  · simp only [pj_sI1, pj_sJ1, c1, c2, c3, c4, c5, ↓reduceIte]
  · simp only [pj_sI2, pj_sJ2, hc, ↓reduceIte]
  · show tb r s = _
    rw [er s hs]
    unfold stit
    rw [Bool.eq_iff_iff]
    simp only [Bool.and_eq_true, decide_eq_true_eq]
    omega
/-- the model's -/
theorem Md_begins_zero (v1 v2 v3 : Int32) (z : pj_S) : ∃ z2, pj_lp4 Md_begins_11 4000 v1 v2 v3 (nI 0) z = Md_begins_33 v1 v2 v3 z2 ∧ (∀ c, c ≠ 1 → z2.1 c = z.1 c) ∧ ∀ j, j < 1554 → z2.1 1 j = nI 0 := by
  obtain ⟨a0, a1, a2, a3, z2, ⟨rfl, rfl, rfl, e1, e2⟩, e⟩ := pj_loop4 (F := Md_begins_11)
    (P := fun d b1 b2 b3 v z' => b1 = v1 ∧ b2 = v2 ∧ b3 = v3 ∧ ∃ k, k + d = 1554 ∧ v = nI k ∧ (∀ c, c ≠ 1 → z'.1 c = z.1 c) ∧ ∀ j, j < k → z'.1 1 j = nI 0)
    (E := fun b1 b2 b3 _ z' => b1 = v1 ∧ b2 = v2 ∧ b3 = v3 ∧ (∀ c, c ≠ 1 → z'.1 c = z.1 c) ∧ ∀ j, j < 1554 → z'.1 1 j = nI 0)
    (G := fun b1 b2 b3 _ z' => Md_begins_33 b1 b2 b3 z') (by
      rintro self d b1 b2 b3 v z' ⟨rfl, rfl, rfl, k, hk, rfl, h1, h2⟩
      unfold Md_begins_11
      by_cases c : 1554 ≤ k
      · left
        have : k = 1554 := by omega
        subst this
        exact ⟨⟨rfl, rfl, rfl, h1, h2⟩, by rw [if_pos (nI_le c (by decide))]⟩
      · right
        rw [if_neg (by rw [nI_leP (by decide) (by omega)]; exact c), pj_gIn (by omega) (by decide), nI_clamp (by omega), pj_bI, nI_add, pj_bI]
        refine ⟨d - 1, _, _, _, _, _, by omega, ⟨rfl, rfl, rfl, k + 1, by omega, rfl, fun c hc => ?_, fun j hj => ?_⟩, rfl⟩
        · rw [ag_n _ _ _ _ hc]; exact h1 c hc
        · rw [ag_1]
          by_cases cj : j = k
          · subst cj; rw [upd_s]
          · rw [upd_ne cj]; exact h2 j (by omega))
    4000 1554 v1 v2 v3 (nI 0) z ⟨rfl, rfl, rfl, 0, by omega, rfl, fun _ _ => rfl, fun j hj => absurd hj (by omega)⟩ (by decide)
  exact ⟨z2, e, e1, e2⟩
theorem Md_begins_eq (W H : Nat) (hW : 2 ≤ W ∧ W ≤ 6 ∧ 2 ≤ H ∧ H ≤ 6) (z : pj_S) : ∃ z2, Md_begins (nI W) (nI H) z = some ((), z2) ∧ (∀ c, c ≠ 0 → c ≠ 1 → z2.1 c = z.1 c) ∧ (∀ j, j ≠ 3 → z2.1 0 j = z.1 0 j) ∧ z2.1 0 3 = nI 0 ∧
    ∀ j, j < 1554 → z2.1 1 j = if 74 ≤ j ∧ j < 138 then b2i (stit W H (j - 74)) else if j = 2 then nI 1 else if j = 1 then nI H else if j = 0 then nI W else if j = 6 then z.1 1 6 else nI 0 := by
  unfold Md_begins
  rw [pj_gIn (by decide) (by decide), nI_clamp (by decide), pj_bI]
  obtain ⟨z2, e, e1, e2⟩ := Md_begins_zero (nI W) (nI H) (z.1 1 6) z
  rw [e]
  unfold Md_begins_33
  simp (disch := omega) only [pj_gIn, nI_clamp, pj_bI]
  generalize hz : pj_sI (pj_sI (pj_sI (pj_sI z2 1 6 (z.1 1 6)) 1 0 (nI W)) 1 1 (nI H)) 1 2 (nI 1) = z3
  have f1 : ∀ c, c ≠ 1 → z3.1 c = z.1 c := fun c hc => by rw [← hz, ag_n _ _ _ _ hc, ag_n _ _ _ _ hc, ag_n _ _ _ _ hc, ag_n _ _ _ _ hc]; exact e1 c hc
  have f2 : ∀ j, j < 1554 → z3.1 1 j = if j = 2 then nI 1 else if j = 1 then nI H else if j = 0 then nI W else if j = 6 then z.1 1 6 else nI 0 := fun j hj => by
    rw [← hz]
    simp only [ag_1, pj_upd]
    rw [e2 j hj]
  obtain ⟨a, z4, ⟨g1, g2⟩, g⟩ := pj_loop1 (F := Md_begins_65)
    (P := fun d v z' => ∃ k, k + d = 64 ∧ v = nI k ∧ (∀ c, c ≠ 1 → z'.1 c = z.1 c) ∧ ∀ j, j < 1554 → z'.1 1 j = if 74 ≤ j ∧ j < 74 + k then b2i (stit W H (j - 74)) else if j = 2 then nI 1 else if j = 1 then nI H else if j = 0 then nI W else if j = 6 then z.1 1 6 else nI 0)
    (E := fun _ z' => (∀ c, c ≠ 1 → z'.1 c = z.1 c) ∧ ∀ j, j < 1554 → z'.1 1 j = if 74 ≤ j ∧ j < 138 then b2i (stit W H (j - 74)) else if j = 2 then nI 1 else if j = 1 then nI H else if j = 0 then nI W else if j = 6 then z.1 1 6 else nI 0)
    (G := fun _ z' => Md_begins_102 z') (by
      rintro self d v z' ⟨k, hk, rfl, h1, h2⟩
      unfold Md_begins_65 Md_begins_95
      by_cases c : 64 ≤ k
      · left
        have : k = 64 := by omega
        subst this
        exact ⟨⟨h1, h2⟩, by rw [if_pos (nI_le c (by decide))]⟩
      · right
        have w0 : z'.1 1 0 = nI W := by rw [h2 0 (by decide), if_neg (by omega)]; rfl
        have w1 : z'.1 1 1 = nI H := by rw [h2 1 (by decide), if_neg (by omega)]; rfl
        rw [if_neg (by rw [nI_leP (by decide) (by omega)]; exact c), Md_isStitch_eq w0 w1 ⟨hW.2.1, hW.2.2.2⟩, pj_cS, ib0, stI_k (by omega), nI_add]
        simp (disch := omega) only [pj_gIn, nI_clamp, pj_bI, nI_add]
        have t : decide (k < 64) = true := by simp; omega
        rw [t, Bool.true_and]
        have fin : ∃ d2 b0 z2, d2 < d ∧ (∃ k, k + d2 = 64 ∧ b0 = nI k ∧ (∀ c, c ≠ 1 → z2.1 c = z.1 c) ∧ ∀ j, j < 1554 → z2.1 1 j = if 74 ≤ j ∧ j < 74 + k then b2i (stit W H (j - 74)) else if j = 2 then nI 1 else if j = 1 then nI H else if j = 0 then nI W else if j = 6 then z.1 1 6 else nI 0) ∧ self (nI (k + 1)) (pj_sI z' 1 (74 + k) (b2i (stit W H k))) = self b0 z2 := by
          refine ⟨d - 1, _, _, by omega, ⟨k + 1, by omega, rfl, fun c hc => ?_, fun j hj => ?_⟩, rfl⟩
          · rw [ag_n _ _ _ _ hc]; exact h1 c hc
          · rw [ag_1]
            by_cases cj : j = 74 + k
            · subst cj
              rw [upd_s, if_pos (by omega), Nat.add_sub_cancel_left]
            · rw [upd_ne cj, h2 j hj]
              by_cases c3 : 74 ≤ j ∧ j < 74 + k
              · rw [if_pos c3, if_pos (by omega)]
              · rw [if_neg c3, if_neg (show ¬ (74 ≤ j ∧ j < 74 + (k + 1)) by omega)]
        cases hs : stit W H k
        · rw [hs] at fin
          rw [if_neg Bool.false_ne_true]
          exact fin
        · rw [hs] at fin
          rw [if_pos rfl]
          exact fin)
    4000 64 (nI 0) z3 ⟨0, by omega, rfl, f1, fun j hj => by rw [if_neg (by omega)]; exact f2 j hj⟩ (by decide)
  rw [g]
  refine ⟨_, rfl, fun c c0 c1 => ?_, fun j hj => ?_, rfl, fun j hj => ?_⟩
  · rw [ag_n _ _ _ _ c0]; exact g1 c c1
  · rw [ag_1, upd_ne hj, g1 0 (by decide)]
  · rw [ag_n _ _ _ _ (by decide)]; exact g2 j hj
/-- both begin -/
theorem pa_begin (W H : Nat) (hW : 2 ≤ W ∧ W ≤ 6 ∧ 2 ≤ H ∧ H ≤ 6) (zC zM : pj_S) (hd : zC.1 1 5 = zM.1 1 6) (hK : pa_K zC zM) (m : Nat) (hm : m < 8) (h8 : zC.1 3 8 = nI m) : ∃ zC2 zM2, Whole_begin (nI W) (nI H) zC = some ((), zC2) ∧ Md_begins (nI W) (nI H) zM = some ((), zM2) ∧
    (∀ n7 : Int32, zC2.1 3 7 = zC.1 3 7 ∧ pa_I (pj_sI zC2 3 7 (nI 0)) zM2) := by
  obtain ⟨zC2, e1, c1, c2, c3, c4, c5, c6, c7, c8, d0, d1, d2, d3, d4, d5, d6, d7, d8, d9⟩ := Whole_begin_eq W H hW zC
  obtain ⟨zM2, e2, f1, f2, f3, f4⟩ := Md_begins_eq W H hW zM
  refine ⟨zC2, zM2, e1, e2, fun n7 => ⟨by rw [c1 3 (by decide) (by decide) (by decide) (by decide) (by decide)], pa_I.of (W := W) (H := H) (b := true) (hr := 0) (nb := 0) (nl := 0) (pr := []) (n := 0) (m := m) ⟨⟨?_, ⟨by omega, ?_, ?_⟩, ?_, ⟨by omega, ?_, ?_, fun i hi => absurd hi (by omega)⟩, ⟨by omega, ?_, ?_, fun i hi => absurd hi (by omega)⟩, ?_⟩, rfl, f3, ?_, pa_P.none hm⟩ ?_⟩⟩
  · have g8 : (pj_sI zC2 3 7 (nI 0)).1 8 = zC2.1 8 := rfl
    have g9 : (pj_sI zC2 3 7 (nI 0)).2 8 = zC2.2 8 := rfl
    rw [g8, g9]
    refine ⟨hW, ⟨d0, d1, d2, ?_, ?_, ?_⟩, d3, fun i hi => ?_, fun i hi => ?_, fun i hi => ?_, fun i hi => ?_, fun i hi => ?_, fun i hi g => ?_, fun k hk g => ?_, fun i hi g => ?_⟩
    · rw [f4 0 (by decide), if_neg (by omega)]; rfl
    · rw [f4 1 (by decide), if_neg (by omega)]; rfl
    · rw [f4 2 (by decide), if_neg (by omega)]; rfl
    · rw [f4 _ (by omega), d4, d5, tb_0, if_neg (by omega), if_neg (by omega), if_neg (by omega), if_neg (by omega), if_neg (by omega)]; rfl
    · rw [f4 _ (by omega), d6, d3 i hi, if_pos (by omega), Nat.add_sub_cancel_left]
    · rw [f4 _ (by omega), d7, tb_0, if_neg (by omega), if_neg (by omega), if_neg (by omega), if_neg (by omega), if_neg (by omega)]; rfl
    · rw [f4 _ (by omega), d8, tb_0, if_neg (by omega), if_neg (by omega), if_neg (by omega), if_neg (by omega), if_neg (by omega)]; rfl
    · rw [f4 _ (by omega), d9, tb_0, if_neg (by omega), if_neg (by omega), if_neg (by omega), if_neg (by omega), if_neg (by omega)]; rfl
    · rw [d4, d5, d6, d7, d8, tb_0, d3 i hi, g]; exact ⟨rfl, rfl, rfl, rfl, rfl⟩
    · rw [d9, tb_0] at g; cases g
    · rw [d8, tb_0] at g; cases g
  · exact c4
  · rw [f4 5 (by decide), if_neg (by omega)]; rfl
  · show zC2.1 1 5 = _
    rw [c3, f4 6 (by decide), if_neg (by omega), hd]; rfl
  · exact c5
  · rw [f4 4 (by decide), if_neg (by omega)]; rfl
  · exact c6
  · rw [f4 3 (by decide), if_neg (by omega)]; rfl
  · refine ⟨by simp, by simp, by simp, by simp, ?_, ?_, by simp, ?_, fun i hi => absurd hi (by simp), fun j o h => by simp at h⟩
    · exact c7
    · exact c8
    · rw [f4 605 (by decide), if_neg (by omega)]; rfl
  · show zC2.1 3 8 = _
    rw [c1 3 (by decide) (by decide) (by decide) (by decide) (by decide)]; exact h8
  · have hc : ∀ c, c ≠ 8 → c ≠ 9 → c ≠ 10 → c ≠ 11 → c ≠ 1 → c ≠ 3 → (pj_sI zC2 3 7 (nI 0)).1 c = zC.1 c := fun c x1 x2 x3 x4 x5 x6 => by rw [ag_n _ _ _ _ x6]; exact c1 c x1 x2 x3 x4 x5
    have hj : ∀ c, c ≠ 8 → (pj_sI zC2 3 7 (nI 0)).2 c = zC.2 c := c2
    unfold pa_K at hK ⊢
    rw [hj 12 (by decide), f2 4 (by decide), f1 2 (by decide) (by decide), f2 12 (by decide), f1 6 (by decide) (by decide), f2 19 (by decide), f2 21 (by decide)]
    simp (disch := decide) only [hc]
    exact hK
theorem ok_cloth (a c : Int32) : pj_ok pa_I (PJ_cloth a c) (Md_cloth a c) := by
  intro zC zM h
  obtain ⟨⟨W, H, b, hr, nb, nl, pr, n, m, hA⟩, hK⟩ := id h
  obtain ⟨⟨hF, hH, hd, hB, hU, hL⟩, h1, h2, h3, hP⟩ := id hA
  have fin : ∀ r : Int32, ∃ r2 zC2 zM2, some (r, zC) = some (r2, zC2) ∧ some (r, zM) = some (r2, zM2) ∧ pa_I zC2 zM2 := fun r => ⟨r, zC, zM, rfl, rfl, h⟩
  have sp : ∀ v : Int32, (isin v (nI 2).toInt (nI 6).toInt = true ∧ (∃ k : Nat, 2 ≤ k ∧ k ≤ 6 ∧ v = nI k) ∧ ¬ v < nI 2 ∧ ¬ nI 6 < v ∧ v ≤ nI 6) ∨ (isin v (nI 2).toInt (nI 6).toInt = false ∧ (v < nI 2 ∨ (¬ v < nI 2 ∧ nI 6 < v ∧ ¬ v ≤ nI 6))) := fun v => by
    rcases nI_or v with ⟨k, hk, rfl⟩ | hn
    · rw [nI_toInt (by decide), nI_toInt (by decide), isin_k hk, nI_ltP hk (by decide), nI_ltP (by decide) hk, nI_leP hk (by decide)]
      by_cases c1 : 2 ≤ k
      · by_cases c2 : k ≤ 6
        · left
          refine ⟨by simp; omega, ⟨k, c1, c2, rfl⟩, by omega, by omega, by omega⟩
        · right
          refine ⟨by simp; omega, by omega⟩
      · right
        refine ⟨by simp; omega, by omega⟩
    · right
      exact ⟨isin_neg hn (by decide), Or.inl (ng_lt hn (by decide))⟩
  unfold PJ_cloth Md_cloth
  rw [Md_isIn_eq, pj_cS, ib0]
  rcases sp a with ⟨s1, ⟨k, k1, k2, rfl⟩, s2, s3, s4⟩ | ⟨s1, s2⟩
  · rw [if_neg s2, if_neg s3, s1, if_pos rfl, Md_isIn_eq, pj_cS, ib0]
    rcases sp c with ⟨t1, ⟨j, j1, j2, rfl⟩, t2, t3, t4⟩ | ⟨t1, t2⟩
    · rw [if_neg t2, if_pos t4, t1, if_pos rfl]
      obtain ⟨zC2, zM2, e1, e2, e3⟩ := pa_begin k j ⟨k1, k2, j1, j2⟩ zC zM hd hK m hP.2.1 h3
      rw [e1, e2]
      exact ⟨_, _, _, rfl, rfl, (e3 0).2⟩
    · rw [t1, if_neg Bool.false_ne_true]
      rcases t2 with t2 | ⟨t2, -, t3⟩
      · rw [if_pos t2]; exact fin _
      · rw [if_neg t2, if_neg t3]; exact fin _
  · rw [s1, if_neg Bool.false_ne_true]
    rcases s2 with s2 | ⟨s2, s3, -⟩
    · rw [if_pos s2]; exact fin _
    · rw [if_neg s2, if_pos s3]; exact fin _
/-- the start -/
theorem pa_I0 : ∃ zC zM, Whole_begin 4 4 pj_z0C = some ((), zC) ∧ Md_begins 4 4 pj_z0M = some ((), zM) ∧ pa_I zC zM := by
  have hK : pa_K pj_z0C pj_z0M := ⟨⟨false, rfl, rfl, fun h => by cases h⟩, ⟨0, rfl, rfl, by omega, fun i hi => absurd hi (by omega)⟩, rfl, rfl⟩
  obtain ⟨zC2, zM2, e1, e2, e3⟩ := pa_begin 4 4 (by decide) pj_z0C pj_z0M rfl hK 0 (by decide) rfl
  obtain ⟨g1, g2⟩ := e3 0
  have e : pj_sI zC2 3 7 (nI 0) = zC2 := by
    apply Prod.ext
    · funext c j
      rw [pj_sI1]
      by_cases hc : c = 3
      · subst hc
        rw [if_pos rfl, pj_upd]
        by_cases hj : j = 7
        · subst hj; rw [if_pos rfl, g1]; rfl
        · rw [if_neg hj]
      · rw [if_neg hc]
    · rfl
  rw [e] at g2
  exact ⟨zC2, zM2, e1, e2, g2⟩
