/-! part -/
theorem stA_st {W H k : Nat} (hW : 2 ≤ W ∧ W ≤ 6) (hk : k < W * H) : stit W H (stA W k) = true ∧ stA W k % 8 < W ∧ stA W k / 8 = k / W := by
  have q1 : k / W < H := Nat.div_lt_of_lt_mul hk
  have q2 : k % W < W := Nat.mod_lt _ (by omega)
  have key : stA W k % 8 < W ∧ stA W k / 8 = k / W := by
    unfold stA
    by_cases c : k / W % 2 = 0
    · rw [if_pos c]; omega
    · rw [if_neg c]; omega
  refine ⟨?_, key⟩
  unfold stit
  rw [key.2]
  simp [key.1, q1]
def insd (x0 x1 y0 y1 s : Nat) : Bool := decide ((x0 ≤ s % 8 ∧ s % 8 ≤ x1) ∧ y0 ≤ s / 8 ∧ s / 8 ≤ y1)
theorem Md_isInside_eq (x0 x1 y0 y1 s : Nat) (h1 : x1 < 2 ^ 31) (h0 : x0 < 2 ^ 31) (h2 : y0 < 2 ^ 31) (h3 : y1 < 2 ^ 31) (hs : s < 64) (z : pj_S) : Md_isInsideM (nI s) (nI x0) (nI x1) (nI y0) (nI y1) z = some (b2i (insd x0 x1 y0 y1 s), z) := by
  unfold Md_isInsideM insd
  rw [pj_gNz (by decide) (by decide), pj_remN (by omega) (by decide) (by decide), pk_div (by omega) (by decide) (by decide), Md_isIn_eq, pj_cS, ib0, isin_k (by omega), nI_toInt h0, nI_toInt h1, pj_gNz (by decide) (by decide), Md_isIn_eq, pj_cS, ib0, isin_k (by omega), nI_toInt h2, nI_toInt h3]
  by_cases c1 : x0 ≤ s % 8 ∧ s % 8 ≤ x1
  · have t1 : (decide ((x0 : Int) ≤ ((s % 8 : Nat) : Int)) && decide (((s % 8 : Nat) : Int) ≤ (x1 : Int))) = true := by simp; omega
    rw [t1, if_pos rfl]
    by_cases c2 : y0 ≤ s / 8 ∧ s / 8 ≤ y1
    · have t2 : (decide ((y0 : Int) ≤ ((s / 8 : Nat) : Int)) && decide (((s / 8 : Nat) : Int) ≤ (y1 : Int))) = true := by simp; omega
      rw [t2, if_pos rfl]
      have : decide ((x0 ≤ s % 8 ∧ s % 8 ≤ x1) ∧ y0 ≤ s / 8 ∧ s / 8 ≤ y1) = true := by simp; omega
      rw [this]; rfl
    · have t2 : (decide ((y0 : Int) ≤ ((s / 8 : Nat) : Int)) && decide (((s / 8 : Nat) : Int) ≤ (y1 : Int))) = false := by simp; omega
      rw [t2, if_neg Bool.false_ne_true]
      have : decide ((x0 ≤ s % 8 ∧ s % 8 ≤ x1) ∧ y0 ≤ s / 8 ∧ s / 8 ≤ y1) = false := by simp; omega
      rw [this]; rfl
  · have t1 : (decide ((x0 : Int) ≤ ((s % 8 : Nat) : Int)) && decide (((s % 8 : Nat) : Int) ≤ (x1 : Int))) = false := by simp; omega
    rw [t1, if_neg Bool.false_ne_true]
    have : decide ((x0 ≤ s % 8 ∧ s % 8 ≤ x1) ∧ y0 ≤ s / 8 ∧ s / 8 ≤ y1) = false := by simp; omega
    rw [this]; rfl
theorem Fabric_hasThread_eq {W H : Nat} {b : Bool} {zC : pj_S} {w : Nat → Int32} (hF : pa_F W H b (zC.1 8) (zC.2 8) w) (i j : Nat) (hi : i < W * H) (hj : j < W * H) : Fabric_hasThreadBetween (nI i) (nI j) zC = some (b2i (!tb (zC.2 8 9) (min i j)), zC) := by
  obtain ⟨p1, p2⟩ := wh_b hF.1
  unfold Fabric_hasThreadBetween
  rw [if_neg (nI_pos (by omega)), if_neg (nI_pos (by omega)), Fabric_places_eq hF, pj_cS, if_neg (by rw [nI_leP (by omega) (by omega)]; omega), Fabric_places_eq hF, pj_cS, if_neg (by rw [nI_leP (by omega) (by omega)]; omega), pj_minN (by omega) (by omega), PJ_bitOf_eq _ _ (by omega), pj_cS, ib0]
  cases tb (zC.2 8 9) (min i j) <;> rfl
/-- a thread crosses the edge behind place k -/
def crs (W : Nat) (cu wo ins : Nat → Bool) (k : Nat) : Bool := !cu k && (!wo (stA W k) && (!wo (stA W (k + 1)) && (ins (stA W k) != ins (stA W (k + 1)))))
theorem Fabric_cutsAround_eq {W H : Nat} {b : Bool} {zC : pj_S} {w : Nat → Int32} (hF : pa_F W H b (zC.1 8) (zC.2 8) w) (r : Int64) : Fabric_cutsAround r zC = some (nI (cnt (crs W (tb (zC.2 8 9)) (tb (zC.2 8 8)) (tb r)) (W * H - 1)), zC) := by
  obtain ⟨p1, p2⟩ := wh_b hF.1
  unfold Fabric_cutsAround
  obtain ⟨a, v, k, z2, ⟨rfl, rfl⟩, e⟩ := pj_loop3 (F := Fabric_cutsAround_5)
    (P := fun d a v q z' => z' = zC ∧ a = r ∧ ∃ k, k + d = W * H - 1 ∧ q = nI k ∧ v = nI (cnt (crs W (tb (zC.2 8 9)) (tb (zC.2 8 8)) (tb r)) k))
    (E := fun _ v _ z' => v = nI (cnt (crs W (tb (zC.2 8 9)) (tb (zC.2 8 8)) (tb r)) (W * H - 1)) ∧ z' = zC)
    (G := fun _ v _ z' => some (v, z')) (by
      rintro self d a v q z' ⟨rfl, rfl, k, hk, rfl, rfl⟩
      unfold Fabric_cutsAround_5 Fabric_cutsAround_75 Fabric_cutsAround_76 Fabric_cutsAround_101
      rw [Fabric_places_eq hF, pj_cS, nI_add]
      by_cases c : W * H ≤ k + 1
      · left
        have : k = W * H - 1 := by omega
        subst this
        exact ⟨⟨rfl, rfl⟩, by rw [if_pos (nI_le c (by omega))]⟩
      · right
        have s1 := stA_st (H := H) ⟨hF.1.1, hF.1.2.1⟩ (show k < W * H by omega)
        have s2 := stA_st (H := H) ⟨hF.1.1, hF.1.2.1⟩ (show k + 1 < W * H by omega)
        have l1 := stit_48 hF.1.2.2.2 s1.1
        have l2 := stit_48 hF.1.2.2.2 s2.1
        have step : ∀ x : Bool, crs W (tb (z'.2 8 9)) (tb (z'.2 8 8)) (tb a) k = x → nI (cnt (crs W (tb (z'.2 8 9)) (tb (z'.2 8 8)) (tb a)) k) + nI x.toNat = nI (cnt (crs W (tb (z'.2 8 9)) (tb (z'.2 8 8)) (tb a)) (k + 1)) := fun x hx => by
          rw [nI_add, cnt, hx]
        rw [if_neg (by rw [nI_leP (by omega) (by omega)]; exact c), Fabric_stitchAt_eq hF k (by omega), pj_cS, Fabric_stitchAt_eq hF (k + 1) (by omega), pj_cS, Fabric_hasThread_eq hF k (k + 1) (by omega) (by omega), pj_cS, ib0, Nat.min_eq_left (by omega)]
        refine ⟨d - 1, a, nI (cnt (crs W (tb (z'.2 8 9)) (tb (z'.2 8 8)) (tb a)) (k + 1)), nI (k + 1), z', by omega, ⟨rfl, rfl, k + 1, by omega, rfl, rfl⟩, ?_⟩
        have step0 : crs W (tb (z'.2 8 9)) (tb (z'.2 8 8)) (tb a) k = false → cnt (crs W (tb (z'.2 8 9)) (tb (z'.2 8 8)) (tb a)) (k + 1) = cnt (crs W (tb (z'.2 8 9)) (tb (z'.2 8 8)) (tb a)) k := fun hx => by rw [cnt, hx]; rfl
        have step1 : crs W (tb (z'.2 8 9)) (tb (z'.2 8 8)) (tb a) k = true → cnt (crs W (tb (z'.2 8 9)) (tb (z'.2 8 8)) (tb a)) (k + 1) = cnt (crs W (tb (z'.2 8 9)) (tb (z'.2 8 8)) (tb a)) k + 1 := fun hx => by rw [cnt, hx]; rfl
        rw [PJ_bitOf_eq (z'.2 8 8) _ (by omega), pj_cS, ib0, PJ_bitOf_eq (z'.2 8 8) _ (by omega), pj_cS, ib0, PJ_bitOf_eq a _ (by omega), pj_cS, PJ_bitOf_eq a _ (by omega), pj_cS]
        cases x1 : tb (z'.2 8 9) k
        · rw [if_pos (by rfl)]
          cases x2 : tb (z'.2 8 8) (stA W k)
          · rw [if_neg Bool.false_ne_true]
            cases x3 : tb (z'.2 8 8) (stA W (k + 1))
            · rw [if_neg Bool.false_ne_true, if_neg (by decide)]
              by_cases x4 : tb a (stA W k) = tb a (stA W (k + 1))
              · rw [if_pos (by rw [x4]), pj_bI, step0 (by unfold crs; rw [x1, x2, x3, x4]; simp)]
              · rw [if_neg (by rw [b2i_inj]; exact x4), pj_bI, pj_bI, nI_add, step1 (by unfold crs; rw [x1, x2, x3]; simp [x4])]
            · rw [if_pos rfl, if_pos nI_0, pj_bI, step0 (by unfold crs; rw [x1, x2, x3]; simp)]
          · rw [if_pos rfl, if_pos nI_0, pj_bI, step0 (by unfold crs; rw [x1, x2]; simp)]
        · rw [if_neg (by simp), if_pos nI_0, pj_bI, step0 (by unfold crs; rw [x1]; simp)])
    4000 (W * H - 1) r (nI 0) (nI 0) zC ⟨rfl, rfl, 0, by omega, rfl, rfl⟩ (by omega)
  exact e
theorem Md_part_eq {W H : Nat} {zM : pj_S} (hW : 2 ≤ W ∧ W ≤ 6 ∧ 2 ≤ H ∧ H ≤ 6) (w0 : zM.1 1 0 = nI W) (w1 : zM.1 1 1 = nI H) (cu wo : Nat → Bool) (hc : ∀ k, k < 64 → zM.1 1 (202 + k) = b2i (cu k)) (hw : ∀ k, k < 64 → zM.1 1 (1490 + k) = b2i (wo k)) (x0 x1 y0 y1 : Nat) (h1 : x1 < 2 ^ 31) (h0 : x0 < 2 ^ 31) (h2 : y0 < 2 ^ 31) (h3 : y1 < 2 ^ 31) :
    pj_lp6 Md_part_60 4000 (nI x0) (nI x1) (nI y0) (nI y1) (nI 0) (nI 0) zM = some (nI (cnt (crs W cu wo (insd x0 x1 y0 y1)) (W * H - 1)), zM) := by
  obtain ⟨p1, p2⟩ := wh_b hW
  obtain ⟨a1, a2, a3, a4, v, k, z2, ⟨rfl, rfl⟩, e⟩ := pj_loop6 (F := Md_part_60)
    (P := fun d b1 b2 b3 b4 v q z' => (b1 = nI x0 ∧ b2 = nI x1 ∧ b3 = nI y0 ∧ b4 = nI y1 ∧ z' = zM) ∧ ∃ k, k + d = W * H - 1 ∧ q = nI k ∧ v = nI (cnt (crs W cu wo (insd x0 x1 y0 y1)) k))
    (E := fun _ _ _ _ v _ z' => v = nI (cnt (crs W cu wo (insd x0 x1 y0 y1)) (W * H - 1)) ∧ z' = zM)
    (G := fun _ _ _ _ v _ z' => some (v, z')) (by
      rintro self d b1 b2 b3 b4 v q z' ⟨⟨rfl, rfl, rfl, rfl, rfl⟩, k, hk, rfl, rfl⟩
      unfold Md_part_60 Md_part_171 Md_part_172 Md_part_181
      rw [pj_gIn (n := 0) (by decide) (by decide), pj_gIn (n := 1) (by decide) (by decide), nI_clamp (n := 0) (by decide), nI_clamp (n := 1) (by decide), w0, w1, pk_mul, nI_add]
      by_cases c : W * H ≤ k + 1
      · left
        have : k = W * H - 1 := by omega
        subst this
        exact ⟨⟨rfl, rfl⟩, by rw [if_pos (nI_le c (by omega))]⟩
      · right
        have s1 := stA_st (H := H) ⟨hW.1, hW.2.1⟩ (show k < W * H by omega)
        have s2 := stA_st (H := H) ⟨hW.1, hW.2.1⟩ (show k + 1 < W * H by omega)
        have l1 := stit_48 hW.2.2.2 s1.1
        have l2 := stit_48 hW.2.2.2 s2.1
        have e1 := Md_stitchAt_eq w0 ⟨hW.1, hW.2.1⟩ k (by omega)
        have e2 := Md_stitchAt_eq w0 ⟨hW.1, hW.2.1⟩ (k + 1) (by omega)
        have step0 : crs W cu wo (insd x0 x1 y0 y1) k = false → cnt (crs W cu wo (insd x0 x1 y0 y1)) (k + 1) = cnt (crs W cu wo (insd x0 x1 y0 y1)) k := fun hx => by rw [cnt, hx]; rfl
        have step1 : crs W cu wo (insd x0 x1 y0 y1) k = true → cnt (crs W cu wo (insd x0 x1 y0 y1)) (k + 1) = cnt (crs W cu wo (insd x0 x1 y0 y1)) k + 1 := fun hx => by rw [cnt, hx]; rfl
        rw [if_neg (by rw [nI_leP (by omega) (by omega)]; exact c), nI_add, pj_gIn (n := 202 + k) (by omega) (by decide), nI_clamp (n := 202 + k) (by omega), hc k (by omega), ib0]
        refine ⟨d - 1, nI x0, nI x1, nI y0, nI y1, nI (cnt (crs W cu wo (insd x0 x1 y0 y1)) (k + 1)), nI (k + 1), z', by omega, ⟨⟨rfl, rfl, rfl, rfl, rfl⟩, k + 1, by omega, rfl, rfl⟩, ?_⟩
        have i1 : nI 1490 + nI (stA W k) = nI (1490 + stA W k) := by rw [nI_add]
        have i2 : nI 1490 + nI (stA W (k + 1)) = nI (1490 + stA W (k + 1)) := by rw [nI_add]
        rw [e1, pj_cS, i1, pj_gIn (n := 1490 + stA W k) (by omega) (by decide), nI_clamp (n := 1490 + stA W k) (by omega), hw _ (by omega), ib0, e2, pj_cS, i2, pj_gIn (n := 1490 + stA W (k + 1)) (by omega) (by decide), nI_clamp (n := 1490 + stA W (k + 1)) (by omega), hw _ (by omega), ib0, e1, pj_cS, Md_isInside_eq _ _ _ _ _ h1 h0 h2 h3 (by omega), pj_cS, e2, pj_cS, Md_isInside_eq _ _ _ _ _ h1 h0 h2 h3 (by omega), pj_cS]
        simp only [pj_bI, nI_add, Nat.add_zero]
        cases x1' : cu k
        · rw [if_neg Bool.false_ne_true]
          cases x2 : wo (stA W k)
          · rw [if_neg Bool.false_ne_true]
            cases x3 : wo (stA W (k + 1))
            · rw [if_neg Bool.false_ne_true]
              by_cases x4 : insd x0 x1 y0 y1 (stA W k) = insd x0 x1 y0 y1 (stA W (k + 1))
              · rw [if_pos (by rw [x4]), step0 (by unfold crs; rw [x1', x2, x3, x4]; simp)]
              · rw [if_neg (by rw [b2i_inj]; exact x4), step1 (by unfold crs; rw [x1', x2, x3]; simp [x4])]
            · rw [if_pos rfl, step0 (by unfold crs; rw [x1', x2, x3]; simp)]
          · rw [if_pos rfl, step0 (by unfold crs; rw [x1', x2]; simp)]
        · rw [if_pos rfl, step0 (by unfold crs; rw [x1']; simp)])
    4000 (W * H - 1) (nI x0) (nI x1) (nI y0) (nI y1) (nI 0) (nI 0) zM ⟨⟨rfl, rfl, rfl, rfl, rfl⟩, 0, by omega, rfl, rfl⟩ (by omega)
  exact e
theorem ok_part (a c d e : Int32) : pj_ok pa_I (PJ_part a c d e) (Md_part a c d e) := by
  intro zC zM h
  obtain ⟨⟨W, H, b, hr, nb, nl, pr, n, m, hA⟩, hK⟩ := id h
  obtain ⟨⟨hF, hH, hd, hB, hU, hL⟩, h1, h2, h3, hP⟩ := id hA
  obtain ⟨g1, ⟨g2, g3, g4, g5, g6, g7⟩, -, -, -, -, g8, g9, -⟩ := id hF
  have fin : ∀ r : Int32, ∃ r2 zC2 zM2, some (r, zC) = some (r2, zC2) ∧ some (r, zM) = some (r2, zM2) ∧ pa_I zC2 zM2 := fun r => ⟨r, zC, zM, rfl, rfl, h⟩
  unfold PJ_part Md_part
  rw [Md_isIn_eq, pj_cS, ib0, nI_toInt (n := 0) (by decide)]
  by_cases ca : ¬ ∃ k : Nat, k < 2 ^ 31 ∧ a = nI k
  · have hn : a.toInt < 0 := by
      rcases nI_or a with q | q
      · exact absurd q ca
      · exact q
    rw [if_pos (ng_lt0 hn), isin_neg hn (by decide), if_neg Bool.false_ne_true]
    exact fin _
  obtain ⟨x0, hx0, rfl⟩ := Classical.not_not.mp ca
  rw [if_neg (nI_pos hx0)]
  by_cases cc : c < nI x0
  · have : isin (nI x0) ((0 : Nat) : Int) c.toInt = false := by
      rw [isin_k hx0]
      have := Int32.lt_iff_toInt_lt.mp cc
      rw [nI_toInt hx0] at this
      simp; omega
    rw [if_pos cc, this, if_neg Bool.false_ne_true]
    exact fin _
  have hc0 : ∃ k : Nat, k < 2 ^ 31 ∧ c = nI k := by
    rcases nI_or c with q | q
    · exact q
    · exact absurd (ng_lt q hx0) cc
  obtain ⟨x1, hx1, rfl⟩ := hc0
  rw [nI_ltP hx1 hx0] at cc
  have t1 : isin (nI x0) ((0 : Nat) : Int) (nI x1).toInt = true := by
    rw [isin_k hx0, nI_toInt hx1]; simp; omega
  rw [if_neg (by rw [nI_ltP hx1 hx0]; exact cc), t1, if_pos rfl, pj_gIn (n := 0) (by decide) (by decide), nI_clamp (n := 0) (by decide), g5, g2, Md_isIn_eq, pj_cS, ib0, nI_toInt (n := 0) (by decide), nI_sub1 (by omega) (by decide)]
  have t2 : isin (nI x1) ((0 : Nat) : Int) ((W : Int) - ((1 : Nat) : Int)) = decide (x1 < W) := isin_P hx1
  rw [t2]
  by_cases cx : ¬ x1 < W
  · have tx : ¬ decide (x1 < W) = true := by simp only [decide_eq_true_eq]; exact cx
    rw [if_pos (nI_le (by omega) hx1), if_neg tx]
    exact fin _
  have cx : x1 < W := Classical.not_not.mp cx
  have tx : decide (x1 < W) = true := decide_eq_true cx
  rw [if_neg (by rw [nI_leP (by omega) hx1]; omega), if_pos tx, Md_isIn_eq, pj_cS, ib0, nI_toInt (n := 0) (by decide)]
  by_cases cd : ¬ ∃ k : Nat, k < 2 ^ 31 ∧ d = nI k
  · have hn : d.toInt < 0 := by
      rcases nI_or d with q | q
      · exact absurd q cd
      · exact q
    rw [if_pos (ng_lt0 hn), isin_neg hn (by decide), if_neg Bool.false_ne_true]
    exact fin _
  obtain ⟨y0, hy0, rfl⟩ := Classical.not_not.mp cd
  rw [if_neg (nI_pos hy0)]
  by_cases ce : e < nI y0
  · have : isin (nI y0) ((0 : Nat) : Int) e.toInt = false := by
      rw [isin_k hy0]
      have := Int32.lt_iff_toInt_lt.mp ce
      rw [nI_toInt hy0] at this
      simp; omega
    rw [if_pos ce, this, if_neg Bool.false_ne_true]
    exact fin _
  have he0 : ∃ k : Nat, k < 2 ^ 31 ∧ e = nI k := by
    rcases nI_or e with q | q
    · exact q
    · exact absurd (ng_lt q hy0) ce
  obtain ⟨y1, hy1, rfl⟩ := he0
  rw [nI_ltP hy1 hy0] at ce
  have t3 : isin (nI y0) ((0 : Nat) : Int) (nI y1).toInt = true := by
    rw [isin_k hy0, nI_toInt hy1]; simp; omega
  rw [if_neg (by rw [nI_ltP hy1 hy0]; exact ce), t3, if_pos rfl, pj_gIn (n := 1) (by decide) (by decide), nI_clamp (n := 1) (by decide), g6, g3, Md_isIn_eq, pj_cS, ib0, nI_toInt (n := 0) (by decide), nI_sub1 (by omega) (by decide)]
  have t4 : isin (nI y1) ((0 : Nat) : Int) ((H : Int) - ((1 : Nat) : Int)) = decide (y1 < H) := isin_P hy1
  rw [t4]
  by_cases cy : ¬ y1 < H
  · have ty : ¬ decide (y1 < H) = true := by simp only [decide_eq_true_eq]; exact cy
    rw [if_neg (by rw [nI_ltP hy1 (by omega)]; exact cy), if_neg ty]
    exact fin _
  have cy : y1 < H := Classical.not_not.mp cy
  obtain ⟨r, er, hr'⟩ := PJ_rectangle_eq x0 x1 y0 y1 (by omega) (by omega) (by omega) (by omega) zC
  have ty : decide (y1 < H) = true := decide_eq_true cy
  rw [if_pos (nI_lt cy (by omega)), if_pos ty, er, pj_cS, Fabric_cutsAround_eq hF, pj_cS, Md_part_eq g1 g5 g6 (tb (zC.2 8 9)) (tb (zC.2 8 8)) g9 g8 x0 x1 y0 y1 hx1 hx0 hy0 hy1]
  obtain ⟨p1, p2⟩ := wh_b g1
  have eq : cnt (crs W (tb (zC.2 8 9)) (tb (zC.2 8 8)) (tb r)) (W * H - 1) = cnt (crs W (tb (zC.2 8 9)) (tb (zC.2 8 8)) (insd x0 x1 y0 y1)) (W * H - 1) := by
    have bit : ∀ k, k < W * H → tb r (stA W k) = insd x0 x1 y0 y1 (stA W k) := fun k hk => by
      have s1 := stA_st (H := H) ⟨g1.1, g1.2.1⟩ hk
      have l1 := stit_48 g1.2.2.2 s1.1
      rw [hr' _ (by omega)]
      unfold insd
      congr 1
      apply propext
      omega
    apply cnt_congr
    intro k hk
    unfold crs
    rw [bit k (by omega), bit (k + 1) (by omega)]
  rw [eq]
  exact fin _
