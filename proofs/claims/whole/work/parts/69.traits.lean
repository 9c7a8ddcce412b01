/-! the class's traits of a stitch -/
section TRAITS
variable {W H : Nat} {b : Bool} {z : pj_S} {w : Nat → Int32}
theorem Fabric_belowOf_eq (s : Nat) (hs : s < 48) : Fabric_belowOf (nI s) z = some (nI (fc5 (tb (z.2 8 6)) s), z) := by
  unfold Fabric_belowOf fc5
  by_cases c : s < 8
  · rw [if_neg (by rw [nI_leP (by decide) (by omega)]; omega), if_pos c]
  · rw [if_pos (nI_le (by omega) (by omega)), pk_sub (by omega), PJ_bitOf_eq _ _ (by omega), pj_cS, if_neg c]; rfl
theorem Fabric_besideOf_eq (hF : pa_F W H b (z.1 8) (z.2 8) w) (s : Nat) (hs : s < 48) : Fabric_besideOf (nI s) z = some (nI (fc4 W (tb (z.2 8 6)) s), z) := by
  have hb := hF.1
  have mid : ∀ u : Nat, u = (if s % 8 = 0 then 0 else (tb (z.2 8 6) (s - 1)).toNat) → Fabric_besideOf_23 (nI s) (nI (s % 8)) (nI u) z = some (nI (fc4 W (tb (z.2 8 6)) s), z) := fun u hu => by
    unfold Fabric_besideOf_23 Fabric_besideOf_48 fc4
    rw [hF.2.1.1, nI_add, nI_add, nI_add]
    by_cases c : W ≤ s % 8 + 1
    · rw [if_pos (nI_le c (by omega)), if_pos c, hu]
    · rw [if_neg (by rw [nI_leP (by omega) (by omega)]; exact c), if_neg c, PJ_bitOf_eq _ _ (by omega), pj_cS, hu]
      unfold b2i
      rw [nI_add]
  unfold Fabric_besideOf
  rw [nI_and7 (by omega), pj_bI]
  by_cases c : s % 8 = 0
  · have x : nI (s % 8) ≤ 0 := by show nI (s % 8) ≤ nI 0; exact nI_le (by omega) (by decide)
    rw [if_pos x]
    exact mid 0 (by rw [if_pos c])
  · have x : ¬ nI (s % 8) ≤ 0 := by show ¬ nI (s % 8) ≤ nI 0; rw [nI_leP (by omega) (by decide)]; omega
    rw [if_neg x, pk_sub (by omega), PJ_bitOf_eq _ _ (by omega), pj_cS]
    exact mid _ (by rw [if_neg c])
theorem cnt_one (p : Bool) : ∀ x, x < 8 → cnt (fun j => decide (j = x) && p) 8 = p.toNat := by
  cases p <;> decide
theorem cnt_col (he : Nat → Bool) (x : Nat) (hx : x < 8) : ∀ n, n ≤ H → cnt (fun i => decide (i % 8 = x ∧ i / 8 < H) && !he i) (8 * n) = cnt (fun y => !he (8 * y + x)) n
  | 0, _ => rfl
  | n + 1, h => by
    have cs : cnt (fun y => !he (8 * y + x)) (n + 1) = cnt (fun y => !he (8 * y + x)) n + (!he (8 * n + x)).toNat := rfl
    rw [Nat.mul_succ, cnt_add, cnt_col he x hx n (by omega), cs]
    congr 1
    rw [← cnt_one (!he (8 * n + x)) x hx]
    apply cnt_congr
    intro j hj
    by_cases c : j = x
    · subst c
      have : (8 * n + j) % 8 = j ∧ (8 * n + j) / 8 < H := by omega
      simp [this]
    · have : ¬ ((8 * n + j) % 8 = x ∧ (8 * n + j) / 8 < H) := by omega
      rw [decide_eq_false this, decide_eq_false c]; rfl
theorem cnt_zero {f : Nat → Bool} : ∀ n, (∀ i, i < n → f i = false) → cnt f n = 0
  | 0, _ => rfl
  | n + 1, h => by
    unfold cnt
    rw [cnt_zero n (fun i hi => h i (by omega)), h n (by omega)]; rfl
theorem Fabric_goneInColumn_eq (hF : pa_F W H b (z.1 8) (z.2 8) w) (s : Nat) (hs : s < 48) : Fabric_goneInColumn (nI (s % 8)) z = some (nI (fc7 H (tb (z.2 8 6)) s), z) := by
  have hb := hF.1
  unfold Fabric_goneInColumn fc7
  obtain ⟨r, e, er⟩ := PJ_rectangle_eq (s % 8) (s % 8) 0 (H - 1) (Nat.le_refl _) (by omega) (by decide) (by omega) z
  rw [hF.2.1.2.1, pk_sub (by omega), e, pj_cS, JLong_bitCount_eq, pj_cS]
  have e1 : cnt (tb (r &&& (z.2 8 6 ^^^ -1))) 64 = cnt (fun i => decide (i % 8 = s % 8 ∧ i / 8 < H) && !tb (z.2 8 6) i) 64 := by
    apply cnt_congr
    intro i hi
    rw [tb_and, tb_not _ _ hi, er i hi]
    congr 1
    exact decide_eq_decide.mpr (by omega)
  have e2 : cnt (fun i => decide (i % 8 = s % 8 ∧ i / 8 < H) && !tb (z.2 8 6) i) 64 = cnt (fun i => decide (i % 8 = s % 8 ∧ i / 8 < H) && !tb (z.2 8 6) i) (8 * H) := by
    have : 64 = 8 * H + (64 - 8 * H) := by omega
    rw [this, cnt_add]
    rw [cnt_zero (f := fun j => decide ((8 * H + j) % 8 = s % 8 ∧ (8 * H + j) / 8 < H) && !tb (z.2 8 6) (8 * H + j)) _ (fun i hi => by
      have : ¬ ((8 * H + i) % 8 = s % 8 ∧ (8 * H + i) / 8 < H) := by omega
      rw [decide_eq_false this]; rfl), Nat.add_zero]
  rw [e1, e2, cnt_col _ _ (by omega) H (Nat.le_refl _)]
end TRAITS
