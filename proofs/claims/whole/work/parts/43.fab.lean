/-! places, stitches, ends -/
theorem pj_remN {a d : Nat} (ha : a < 2 ^ 31) (h0 : 0 < d) (hd : d < 2 ^ 31) : pj_rem (nI a) (nI d) = nI (a % d) := pk_rem ha h0 hd
theorem nI_and7 {n : Nat} (h : n < 2 ^ 32) : nI n &&& nI 7 = nI (n % 8) := pk_andN h 3 (by decide)
theorem nI_and1 {n : Nat} (h : n < 2 ^ 32) : nI n &&& nI 1 = nI (n % 2) := pk_andN h 1 (by decide)
theorem nI_and3 {n : Nat} (h : n < 2 ^ 32) : nI n &&& nI 3 = nI (n % 4) := pk_andN h 2 (by decide)
theorem nI_shr3 {n : Nat} (h : n < 2 ^ 31) : nI n >>> (nI 3 &&& 31) = nI (n / 8) := pk_shrN h _ 3 (by decide)
theorem nI_1P {n : Nat} (h : n < 2 ^ 31) : (nI n = nI 1) = (n = 1) := propext (nI_eq h (by decide))
theorem nI_P {n k : Nat} (h : n < 2 ^ 31) (hk : k < 2 ^ 31) : (nI n = nI k) = (n = k) := propext (nI_eq h hk)
theorem nI_leP {n k : Nat} (h : n < 2 ^ 31) (hk : k < 2 ^ 31) : (nI n ≤ nI k) = (n ≤ k) := propext (nI_leI h hk)
theorem nI_ltP {n k : Nat} (h : n < 2 ^ 31) (hk : k < 2 ^ 31) : (nI n < nI k) = (n < k) := propext (nI_ltI h hk)
theorem wh_b {W H : Nat} (h : 2 ≤ W ∧ W ≤ 6 ∧ 2 ≤ H ∧ H ≤ 6) : 4 ≤ W * H ∧ W * H ≤ 36 := by
  obtain ⟨h1, h2, h3, h4⟩ := h
  exact ⟨Nat.mul_le_mul h1 h3, Nat.mul_le_mul h2 h4⟩
/-- a STITCH by any int -/
def stI (W H : Nat) (v : Int32) : Bool := isin v 0 63 && stit W H v.toNatClampNeg
theorem stI_k {W H k : Nat} (hk : k < 2 ^ 31) : stI W H (nI k) = (decide (k < 64) && stit W H k) := by
  unfold stI
  rw [isin_k hk, nI_clamp hk]
  by_cases h : k < 64
  · have : (k : Int) ≤ 63 := by omega
    simp [h, this]
  · have : ¬ (k : Int) ≤ 63 := by omega
    simp [h, this]
theorem stI_neg {W H : Nat} {v : Int32} (h : v.toInt < 0) : stI W H v = false := by
  unfold stI
  rw [isin_neg h (by decide)]
  rfl
theorem stI_t {W H : Nat} {v : Int32} (h : stI W H v = true) : ∃ k, k < 64 ∧ v = nI k ∧ stit W H k = true := by
  rcases nI_or v with ⟨k, hk, rfl⟩ | hn
  · rw [stI_k hk] at h
    simp only [Bool.and_eq_true, decide_eq_true_eq] at h
    exact ⟨k, h.1, rfl, h.2⟩
  · rw [stI_neg hn] at h
    cases h
theorem stit_48 {W H k : Nat} (hH : H ≤ 6) (h : stit W H k = true) : k < 48 := by
  unfold stit at h
  simp only [Bool.and_eq_true, decide_eq_true_eq] at h
  omega
section FAB
variable {W H : Nat} {b : Bool} {zC zM : pj_S} {w : Nat → Int32}
theorem Fabric_places_eq (hF : pa_F W H b (zC.1 8) (zC.2 8) w) : Fabric_places zC = some (nI (W * H), zC) := by
  unfold Fabric_places
  rw [hF.2.1.1, hF.2.1.2.1, pk_mul]
theorem Fabric_has_eq (hF : pa_F W H b (zC.1 8) (zC.2 8) w) (v : Int32) : Fabric_has v zC = some (b2i (stI W H v), zC) := by
  unfold Fabric_has
  rcases nI_or v with ⟨k, hk, rfl⟩ | hn
  · rw [if_neg (nI_pos hk), stI_k hk]
    by_cases c : k < 48
    · rw [if_neg (by rw [nI_leP (by decide) hk]; omega), PJ_bitOf_eq _ k (by omega), pj_cS, ib1, hF.2.2.1 k (by omega)]
      have : k < 64 := by omega
      cases h : stit W H k <;> simp [this, b2i_t, b2i_f, pj_gB0, pj_gB1]
    · rw [if_pos (by rw [nI_leP (by decide) hk]; omega), pj_gB0]
      have : stit W H k = false := by
        cases h : stit W H k
        · rfl
        · exact absurd (stit_48 hF.1.2.2.2 h) c
      rw [this, Bool.and_false]
      rfl
  · rw [if_pos (ng_lt0 hn), stI_neg hn]
    rfl
theorem Md_isStitch_eq (h0 : zM.1 1 0 = nI W) (h1 : zM.1 1 1 = nI H) (hw : W ≤ 6 ∧ H ≤ 6) (v : Int32) : Md_isStitch v zM = some (b2i (stI W H v), zM) := by
  unfold Md_isStitch
  rw [Md_isIn_eq, pj_cS, ib0, nI_toInt (by decide), nI_toInt (by decide)]
  rcases nI_or v with ⟨k, hk, rfl⟩ | hn
  · rw [stI_k hk, isin_k hk]
    by_cases c : k < 64
    · have c' : (k : Int) ≤ 63 := by omega
      rw [if_pos (by simp [c'])]
      simp (disch := omega) only [pj_gNz, pj_gIn, nI_clamp, h0, h1, pj_remN, pk_div, nI_leP, pj_gB0, pj_gB1]
      unfold stit
      by_cases c1 : W ≤ k % 8
      · have : ¬ k % 8 < W := by omega
        rw [if_pos c1]
        simp [this, b2i_f]
      · have c3 : k % 8 < W := by omega
        rw [if_neg c1]
        by_cases c2 : H ≤ k / 8
        · have : ¬ k / 8 < H := by omega
          rw [if_pos c2]
          simp [this, b2i_f]
        · have : k / 8 < H := by omega
          rw [if_neg c2]
          simp [this, c3, c, b2i_t]
    · have c' : ¬ (k : Int) ≤ 63 := by omega
      rw [if_neg (by simp [c']), pj_gB0]
      simp [c, b2i_f]
  · rw [isin_neg hn (by decide), stI_neg hn, if_neg (by simp)]
    rfl
theorem Fabric_isHere_eq (hF : pa_F W H b (zC.1 8) (zC.2 8) w) (v : Int32) : Fabric_isHere v zC = some (b2i (stI W H v && tb (zC.2 8 6) v.toNatClampNeg), zC) := by
  unfold Fabric_isHere
  rw [Fabric_has_eq hF, pj_cS, ib0]
  cases h : stI W H v
  · rfl
  · obtain ⟨k, hk, rfl, hs⟩ := stI_t h
    rw [if_pos rfl, PJ_bitOf_eq _ k hk, pj_cS, ib1, nI_clamp (by omega)]
    cases tb (zC.2 8 6) k <;> rfl
theorem Fabric_kindOf_eq (k : Nat) (hk : k < 64) (z : pj_S) : Fabric_kindOf (nI k) z = some (nI ((tb (z.2 8 4) k).toNat + 2 * (tb (z.2 8 5) k).toNat), z) := by
  unfold Fabric_kindOf
  rw [PJ_bitOf_eq _ k hk, pj_cS, PJ_bitOf_eq _ k hk, pj_cS]
  unfold b2i
  rw [pk_mul, nI_add]
/-- the place of a stitch, the stitch of a place -/
def plO (W s : Nat) : Nat := s / 8 * W + (if s / 8 % 2 = 0 then s % 8 else W - 1 - s % 8)
def stA (W k : Nat) : Nat := 8 * (k / W) + (if k / W % 2 = 0 then k % W else W - 1 - k % W)
theorem Fabric_placeOf_eq (hF : pa_F W H b (zC.1 8) (zC.2 8) w) (k : Nat) (hk : stit W H k = true) : Fabric_placeOf (nI k) zC = some (nI (plO W k), zC) := by
  have h48 := stit_48 hF.1.2.2.2 hk
  obtain ⟨b1, b2, -, -⟩ := hF.1
  unfold stit at hk
  simp only [Bool.and_eq_true, decide_eq_true_eq] at hk
  unfold Fabric_placeOf Fabric_placeOf_33
  simp (disch := omega) only [pj_bI, nI_and7, nI_shr3, nI_and1, hF.2.1.1, nI_eq0, pk_mul, pk_sub, nI_add]
  unfold plO
  by_cases c : k / 8 % 2 = 0 <;> simp [c]
theorem Md_placeOf_eq (h0 : zM.1 1 0 = nI W) (hw : 2 ≤ W ∧ W ≤ 6 ∧ H ≤ 6) (k : Nat) (hk : stit W H k = true) : Md_placeOf (nI k) zM = some (nI (plO W k), zM) := by
  have h48 := stit_48 hw.2.2 hk
  unfold stit at hk
  simp only [Bool.and_eq_true, decide_eq_true_eq] at hk
  unfold Md_placeOf Md_placeOf_38
  simp (disch := omega) only [pj_bI, pj_gNz, pj_gIn, nI_clamp, pk_div, pj_remN, h0, nI_eq0, pk_mul, pk_sub, nI_add]
  unfold plO
  by_cases c : k / 8 % 2 = 0 <;> simp [c]
theorem Fabric_stitchAt_eq (hF : pa_F W H b (zC.1 8) (zC.2 8) w) (k : Nat) (hk : k < W * H) : Fabric_stitchAt (nI k) zC = some (nI (stA W k), zC) := by
  obtain ⟨p1, p2⟩ := wh_b hF.1
  obtain ⟨b1, b2, -, -⟩ := hF.1
  have q1 : k / W ≤ k := Nat.div_le_self k W
  have q2 : k % W < W := Nat.mod_lt _ (by omega)
  have q3 : k / W * W ≤ k := Nat.div_mul_le_self k W
  have q4 : k - k / W * W = k % W := by
    have := Nat.div_add_mod k W
    rw [Nat.mul_comm] at this
    omega
  unfold Fabric_stitchAt Fabric_stitchAt_60
  rw [if_neg (nI_pos (by omega)), Fabric_places_eq hF, pj_cS]
  simp (disch := omega) only [hF.2.1.1, nI_leP]
  rw [if_neg (by omega), if_pos b1]
  simp (disch := omega) only [pj_bI, pj_gNz, pk_div, pk_mul, pk_sub, nI_and1, nI_eq0, nI_add, q4]
  unfold stA
  by_cases c : k / W % 2 = 0 <;> simp [c]
theorem Md_stitchAt_eq (h0 : zM.1 1 0 = nI W) (hw : 2 ≤ W ∧ W ≤ 6) (k : Nat) (hk : k < 36) : Md_stitchAt (nI k) zM = some (nI (stA W k), zM) := by
  have q1 : k / W ≤ k := Nat.div_le_self k W
  have q2 : k % W < W := Nat.mod_lt _ (by omega)
  unfold Md_stitchAt Md_stitchAt_42
  simp (disch := omega) only [pj_bI, pj_gNz, pj_gIn, nI_clamp, pk_div, pj_remN, h0, nI_eq0, pk_mul, pk_sub, nI_add]
  unfold stA
  by_cases c : k / W % 2 = 0 <;> simp [c]
end FAB
