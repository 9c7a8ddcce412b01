/-! ends of the thread; at, cut, book -/
def endI (P : Nat) (cu : Nat → Bool) (v u : Int32) : Bool :=
  isin v 0 ((P : Int) - 1) && (if u = nI 1 then (decide (v = 0) || cu (v.toNatClampNeg - 1)) else if u = 0 then (decide (v = nI (P - 1)) || cu v.toNatClampNeg) else false)
theorem isin_P {k P : Nat} (hk : k < 2 ^ 31) : isin (nI k) 0 ((P : Int) - 1) = decide (k < P) := by
  rw [isin_k hk]
  by_cases h : k < P
  · have : (k : Int) ≤ P - 1 := by omega
    simp [h, this]
  · have : ¬ (k : Int) ≤ P - 1 := by omega
    simp [h, this]
theorem endI_t {P : Nat} {cu : Nat → Bool} {v u : Int32} (hP : P ≤ 36) (h : endI P cu v u = true) : ∃ k, k < P ∧ v = nI k ∧ ((u = nI 1 ∧ (k = 0 ∨ cu (k - 1) = true)) ∨ (u = nI 0 ∧ (k + 1 = P ∨ cu k = true))) := by
  unfold endI at h
  rcases nI_or v with ⟨k, hk, rfl⟩ | hn
  · rw [isin_P hk, nI_clamp hk] at h
    simp only [Bool.and_eq_true, decide_eq_true_eq] at h
    obtain ⟨h1, h2⟩ := h
    refine ⟨k, h1, rfl, ?_⟩
    by_cases c : u = nI 1
    · rw [if_pos c] at h2
      simp only [Bool.or_eq_true, decide_eq_true_eq, nI_eq0 hk] at h2
      exact Or.inl ⟨c, h2⟩
    · rw [if_neg c] at h2
      by_cases c2 : u = 0
      · rw [if_pos c2] at h2
        simp only [Bool.or_eq_true, decide_eq_true_eq] at h2
        rw [nI_P hk (by omega)] at h2
        refine Or.inr ⟨by rw [c2, nI_0], ?_⟩
        rcases h2 with h2 | h2
        · left; omega
        · exact Or.inr h2
      · rw [if_neg c2] at h2
        cases h2
  · rw [isin_neg hn (by decide)] at h
    cases h
theorem cu_ge {J : Nat → Int64} {P k : Nat} (h : ∀ k, k < 64 → tb (J 9) k = true → k + 1 < P) (hk : P ≤ k + 1) : tb (J 9) k = false := by
  by_cases c : k < 64
  · cases q : tb (J 9) k
    · rfl
    · have := h k c q; omega
  · exact tb_ge (by omega)
section ENDS
variable {W H : Nat} {b : Bool} {zC zM : pj_S} {w : Nat → Int32}
theorem Fabric_isEnd_eq (hF : pa_F W H b (zC.1 8) (zC.2 8) w) (v u : Int32) : Fabric_isEnd v u zC = some (b2i (endI (W * H) (tb (zC.2 8 9)) v u), zC) := by
  obtain ⟨p1, p2⟩ := wh_b hF.1
  unfold Fabric_isEnd endI Fabric_isEnd_37 Fabric_isEnd_69
  rcases nI_or v with ⟨k, hk, rfl⟩ | hn
  · rw [if_neg (nI_pos hk), Fabric_places_eq hF, pj_cS, isin_P hk]
    by_cases c : k < W * H
    · rw [if_pos (nI_lt c (by omega)), nI_clamp hk]
      by_cases c1 : u = nI 1
      · rw [if_pos c1, if_pos c1]
        by_cases c2 : k = 0
        · subst c2
          rw [if_pos nI_0]
          simp [c, pj_gB1, b2i_t, nI_0]
        · rw [if_neg (by rw [nI_eq0 hk]; exact c2), pk_sub (by omega), PJ_bitOf_eq _ _ (by omega), pj_cS, ib1]
          have : ¬ nI k = 0 := by rw [nI_eq0 hk]; exact c2
          cases q : tb (zC.2 8 9) (k - 1) <;> simp [c, this, pj_gB0, pj_gB1, b2i_t, b2i_f]
      · rw [if_neg c1, if_neg c1]
        by_cases c2 : u = 0
        · rw [if_pos c2, if_pos c2, Fabric_places_eq hF, pj_cS, pk_sub (by omega)]
          by_cases c3 : k = W * H - 1
          · have e : nI k = nI (W * H - 1) := by rw [c3]
            rw [if_pos e]
            simp [c, e, pj_gB1, b2i_t]
          · have : ¬ nI k = nI (W * H - 1) := by rw [nI_P hk (by omega)]; exact c3
            rw [if_neg this, PJ_bitOf_eq _ _ (by omega), pj_cS, ib1]
            cases q : tb (zC.2 8 9) k <;> simp [c, this, pj_gB0, pj_gB1, b2i_t, b2i_f]
        · rw [if_neg c2, if_neg c2]
          simp [pj_gB0, b2i_f]
    · rw [if_neg (by rw [nI_ltP hk (by omega)]; exact c)]
      simp [c, pj_gB0, b2i_f]
  · rw [if_pos (ng_lt0 hn), isin_neg hn (by decide)]
    rfl
theorem Md_isPlace_eq (h0 : zM.1 1 0 = nI W) (h1 : zM.1 1 1 = nI H) (hw : 1 ≤ W * H ∧ W * H ≤ 36) (v : Int32) : Md_isPlace v zM = some (b2i (isin v 0 (((W * H : Nat) : Int) - 1)), zM) := by
  unfold Md_isPlace
  simp (disch := omega) only [pj_gIn, nI_clamp, h0, h1, pk_mul]
  rw [Md_isIn_eq, pj_cS, pj_gBb, nI_sub1 (by omega) (by omega), nI_toInt (by omega)]
  rfl
theorem Md_isEnd_eq (h0 : zM.1 1 0 = nI W) (h1 : zM.1 1 1 = nI H) (hw : 4 ≤ W * H ∧ W * H ≤ 36) (cu : Nat → Bool) (hc : ∀ k, k < 64 → zM.1 1 (202 + k) = b2i (cu k)) (v u : Int32) : Md_isEnd v u zM = some (b2i (endI (W * H) cu v u), zM) := by
  unfold Md_isEnd endI Md_isEnd_44 Md_isEnd_85
  rw [Md_isPlace_eq h0 h1 ⟨by omega, by omega⟩, pj_cS, ib0]
  rcases nI_or v with ⟨k, hk, rfl⟩ | hn
  · rw [isin_P hk]
    by_cases c : k < W * H
    · rw [if_pos (by simp [c]), Md_isIn_eq, pj_cS, ib0, nI_clamp hk, nI_toInt (by decide), nI_toInt (by decide)]
      by_cases c1 : u = nI 1
      · have : isin u (0 : Nat) (1 : Nat) = true := by rw [c1]; decide
        rw [this, if_pos rfl, if_pos c1, if_pos c1]
        by_cases c2 : k = 0
        · subst c2
          rw [if_pos nI_0]
          simp [c, pj_gB1, b2i_t, nI_0]
        · have n0 : ¬ nI k = 0 := by rw [nI_eq0 hk]; exact c2
          rw [if_neg n0, nI_add, pk_sub (by omega), pj_gIn (by omega) (by decide), nI_clamp (by omega), show 202 + k - 1 = 202 + (k - 1) by omega, hc (k - 1) (by omega), ib1]
          cases q : cu (k - 1) <;> simp [c, n0, pj_gB0, pj_gB1, b2i_t, b2i_f]
      · rw [if_neg c1]
        by_cases c2 : u = 0
        · have : isin u (0 : Nat) (1 : Nat) = true := by rw [c2]; decide
          rw [this, if_pos rfl, if_neg c1, if_pos c2]
          simp (disch := omega) only [pj_gIn, nI_clamp, h0, h1, pk_mul, pk_sub, nI_add]
          by_cases c3 : k = W * H - 1
          · have e : nI k = nI (W * H - 1) := by rw [c3]
            rw [if_pos e]
            simp [c, e, pj_gB1, b2i_t]
          · have : ¬ nI k = nI (W * H - 1) := by rw [nI_P hk (by omega)]; exact c3
            rw [if_neg this, hc k (by omega), ib1]
            cases q : cu k <;> simp [c, this, pj_gB0, pj_gB1, b2i_t, b2i_f]
        · rw [if_neg c1, if_neg c2]
          have : isin u (0 : Nat) (1 : Nat) = false := by
            rcases nI_or u with ⟨j, hj, rfl⟩ | hn
            · rw [isin_k hj]
              rw [nI_P hj (by decide)] at c1
              rw [nI_eq0 hj] at c2
              simp; omega
            · exact isin_neg hn (by decide)
          rw [this, if_neg (by simp)]
          simp [pj_gB0, b2i_f]
    · rw [if_neg (by simp [c])]
      simp [c, pj_gB0, b2i_f]
  · rw [isin_neg hn (by decide), if_neg (by simp)]
    rfl
end ENDS
theorem ok_at (a c : Int32) : pj_ok pa_I (PJ_at a c) (Md_at a c) := by
  intro zC zM h
  obtain ⟨⟨W, H, b, hr, nb, nl, pr, n, m, hA⟩, hK⟩ := id h
  obtain ⟨⟨hF, hH, hd, hB, hU, hL⟩, h1, h2, h3, hP⟩ := id hA
  obtain ⟨p1, p2⟩ := wh_b hF.1
  have w0 := hF.2.1.2.2.2.1
  have w1 := hF.2.1.2.2.2.2.1
  have fin : ∀ r : Int32, ∃ r2 zC2 zM2, some (r, zC) = some (r2, zC2) ∧ some (r, zM) = some (r2, zM2) ∧ pa_I zC2 zM2 := fun r => ⟨r, zC, zM, rfl, rfl, h⟩
  unfold PJ_at Md_at
  rw [Md_isPlace_eq w0 w1 ⟨by omega, p2⟩, pj_cS, ib0]
  rcases nI_or a with ⟨k, hk, rfl⟩ | hn
  · rw [if_neg (nI_pos hk), Fabric_places_eq hF, pj_cS, isin_P hk]
    by_cases c1 : k < W * H
    · have t1 : decide (k < W * H) = true := by simp [c1]
      rw [if_pos (nI_lt c1 (by omega)), if_pos t1, Md_isIn_eq, pj_cS, ib0, nI_toInt (by decide), nI_toInt (by decide)]
      rcases nI_or c with ⟨j, hj, rfl⟩ | hn
      · rw [isin_k hj]
        by_cases j0 : j = 0
        · subst j0
          rw [if_pos rfl, if_pos (by decide), if_pos nI_0, Fabric_stitchAt_eq hF k c1, Md_stitchAt_eq w0 ⟨hF.1.1, hF.1.2.1⟩ k (by omega)]
          exact fin _
        · rw [if_neg (by rw [nI_P hj (by decide)]; exact j0)]
          by_cases j1 : j = 1
          · subst j1
            rw [if_pos rfl, if_pos (by decide), if_neg (by decide), if_pos rfl, PJ_bitOf_eq _ k (by omega), pj_cS, nI_add, pj_gIn (by omega) (by decide), nI_clamp (by omega), hF.2.2.2.2.2.2.2.1 k (by omega)]
            exact fin _
          · rw [if_neg (by rw [nI_P hj (by decide)]; exact j1)]
            by_cases j2 : j = 2
            · subst j2
              rw [if_pos rfl, if_pos (by decide), if_neg (by decide), if_neg (by decide), Fabric_isEnd_eq hF, pj_cS, pk_sub (by decide), Md_isEnd_eq w0 w1 ⟨p1, p2⟩ (tb (zC.2 8 9)) hF.2.2.2.2.2.2.2.1, pj_cS, ib0, ib0]
              cases endI (W * H) (tb (zC.2 8 9)) (nI k) (nI 0) <;> exact fin _
            · rw [if_neg (by rw [nI_P hj (by decide)]; exact j2)]
              by_cases j3 : j = 3
              · subst j3
                rw [if_pos rfl, if_pos (by decide), if_neg (by decide), if_neg (by decide), Fabric_isEnd_eq hF, pj_cS, pk_sub (by decide), Md_isEnd_eq w0 w1 ⟨p1, p2⟩ (tb (zC.2 8 9)) hF.2.2.2.2.2.2.2.1, pj_cS, ib0, ib0]
                cases endI (W * H) (tb (zC.2 8 9)) (nI k) (nI 1) <;> exact fin _
              · rw [if_neg (by rw [nI_P hj (by decide)]; exact j3), if_neg (by simp; omega)]
                exact fin _
      · rw [isin_neg hn (by decide), if_neg (ng_ne hn (by decide)), if_neg (ng_ne hn (by decide)), if_neg (ng_ne hn (by decide)), if_neg (ng_ne hn (by decide)), if_neg Bool.false_ne_true]
        exact fin _
    · rw [if_neg (by rw [nI_ltP hk (by omega)]; exact c1), if_neg (by simp [c1])]
      exact fin _
  · rw [if_pos (ng_lt0 hn), isin_neg hn (by decide), if_neg (by simp)]
    exact fin _
theorem ok_book (a c : Int32) : pj_ok pa_I (PJ_book a c) (Md_book a c) := by
  intro zC zM h
  obtain ⟨⟨W, H, b, hr, nb, nl, pr, n, m, hA⟩, hK⟩ := id h
  obtain ⟨⟨hF, hH, hd, ⟨b1, b2, b3, b4⟩, hU, hL⟩, h1, h2, h3, hP⟩ := id hA
  have fin : ∀ r : Int32, ∃ r2 zC2 zM2, some (r, zC) = some (r2, zC2) ∧ some (r, zM) = some (r2, zM2) ∧ pa_I zC2 zM2 := fun r => ⟨r, zC, zM, rfl, rfl, h⟩
  unfold PJ_book Md_book Book_read
  rw [pj_gIn (by decide) (by decide), Md_isIn_eq, pj_cS, nI_clamp (by decide), b3, b2, ib0, nI_sub1 (by omega) (by decide), nI_toInt (by decide)]
  rcases nI_or a with ⟨k, hk, rfl⟩ | hn
  · have e : isin (nI k) ((0 : Nat) : Int) ((nb : Int) - ((1 : Nat) : Int)) = decide (k < nb) := isin_P hk
    rw [if_neg (nI_pos hk), e]
    by_cases c1 : k < nb
    · have t1 : decide (k < nb) = true := by simp [c1]
      rw [if_neg (by rw [nI_leP (by omega) hk]; omega), if_pos (nI_lt (by omega) (by decide)), if_pos t1, Md_isIn_eq, pj_cS, ib0, nI_toInt (by decide), nI_toInt (by decide)]
      obtain ⟨d1, d2, d3⟩ := b4 k c1
      rcases nI_or c with ⟨j, hj, rfl⟩ | hn
      · rw [isin_k hj]
        by_cases j0 : j = 0
        · subst j0
          rw [if_pos rfl, if_pos (by decide), pj_gIn (by omega) (by decide), pj_cS, nI_clamp hk, d1]
          simp (disch := omega) only [pk_mul, nI_add, pj_gIn, nI_clamp]
          exact fin _
        · rw [if_neg (by rw [nI_P hj (by decide)]; exact j0)]
          by_cases j1 : j = 1
          · subst j1
            rw [if_pos rfl, if_pos (by decide), pj_gIn (by omega) (by decide), pj_cS, nI_clamp hk, d2]
            simp (disch := omega) only [pk_mul, nI_add, pj_gIn, nI_clamp]
            rw [show 300 + 3 * k + 1 = 301 + 3 * k by omega]
            exact fin _
          · rw [if_neg (by rw [nI_P hj (by decide)]; exact j1)]
            by_cases j2 : j = 2
            · subst j2
              rw [if_pos rfl, if_pos (by decide), pj_gIn (by omega) (by decide), pj_cS, nI_clamp hk, d3]
              simp (disch := omega) only [pk_mul, nI_add, pj_gIn, nI_clamp]
              rw [show 300 + 3 * k + 2 = 302 + 3 * k by omega]
              exact fin _
            · rw [if_neg (by rw [nI_P hj (by decide)]; exact j2), if_neg (by simp; omega)]
              exact fin _
      · rw [isin_neg hn (by decide), if_neg (ng_ne hn (by decide)), if_neg (ng_ne hn (by decide)), if_neg (ng_ne hn (by decide)), if_neg Bool.false_ne_true]
        exact fin _
    · have t1 : ¬ decide (k < nb) = true := by simp [c1]
      rw [if_pos (by rw [nI_leP (by omega) hk]; omega), if_neg t1]
      exact fin _
  · rw [if_pos (ng_lt0 hn), isin_neg hn (by decide), if_neg Bool.false_ne_true]
    exact fin _
