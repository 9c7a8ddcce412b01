/-! wool is wound -/
def lkN (k : Nat) : Nat := if k = 0 then 3 else if k = 1 then 4 else if k = 2 then 2 else 5
theorem lkN_b (k : Nat) : 2 ≤ lkN k ∧ lkN k ≤ 5 := by unfold lkN; split <;> (try split) <;> (try split) <;> omega
theorem lk_get (k : Nat) (h : k < 4) : pj_lk.getD (Int32.toNatClampNeg (nI k)) 0 = nI (lkN k) := by
  rw [nI_clamp (by omega)]
  have : k = 0 ∨ k = 1 ∨ k = 2 ∨ k = 3 := by omega
  rcases this with rfl | rfl | rfl | rfl <;> decide
theorem Md_lengthOf_eq (k : Nat) (h : k < 4) (z : pj_S) : Md_lengthOfM (nI k) z = some (nI (lkN k), z) := by
  have : k = 0 ∨ k = 1 ∨ k = 2 ∨ k = 3 := by omega
  rcases this with rfl | rfl | rfl | rfl <;> rfl
def wf (T wd : Nat → Bool) (kd : Nat → Nat) (s : Nat) : Nat := if T s && !wd s then lkN (kd s) else 0
theorem Fabric_wind_eq (z : pj_S) (x : Int64) : Fabric_wind x z = some (nI (sm (wf (tb x) (tb (z.2 8 8)) (kdb (tb (z.2 8 4)) (tb (z.2 8 5)))) 48), pj_sJ z 8 8 ((z.2 8 8) ||| x)) := by
  unfold Fabric_wind
  obtain ⟨a0, a1, a2, z2, ⟨rfl, rfl, rfl⟩, e⟩ := pj_loop3 (F := Fabric_wind_5)
    (P := fun d a0 a1 a2 z' => a0 = x ∧ z' = z ∧ ∃ k, k + d = 48 ∧ a2 = nI k ∧ a1 = nI (sm (wf (tb x) (tb (z.2 8 8)) (kdb (tb (z.2 8 4)) (tb (z.2 8 5)))) k))
    (E := fun a0 a1 a2 z' => a0 = x ∧ z' = z ∧ a1 = nI (sm (wf (tb x) (tb (z.2 8 8)) (kdb (tb (z.2 8 4)) (tb (z.2 8 5)))) 48))
    (G := fun a0 a1 _ z' => Fabric_wind_52 a0 a1 z') (by
      rintro self d a0 a1 a2 z' ⟨rfl, rfl, k, hk, rfl, rfl⟩
      unfold Fabric_wind_5 Fabric_wind_46
      by_cases c : 48 ≤ k
      · left
        have : k = 48 := by omega
        subst this
        exact ⟨⟨rfl, rfl, rfl⟩, by rw [if_pos (nI_le c (by omega))]⟩
      · right
        have i1 : nI k + nI 1 = nI (k + 1) := by rw [nI_add]
        have sk : sm (wf (tb a0) (tb (z'.2 8 8)) (kdb (tb (z'.2 8 4)) (tb (z'.2 8 5)))) (k + 1) = sm (wf (tb a0) (tb (z'.2 8 8)) (kdb (tb (z'.2 8 4)) (tb (z'.2 8 5)))) k + wf (tb a0) (tb (z'.2 8 8)) (kdb (tb (z'.2 8 4)) (tb (z'.2 8 5))) k := rfl
        rw [if_neg (by rw [nI_leP (by decide) (by omega)]; exact c), PJ_bitOf_eq _ k (by omega), pj_cS, ib1, tb_and, tb_not _ _ (by omega), i1]
        have wk : wf (tb a0) (tb (z'.2 8 8)) (kdb (tb (z'.2 8 4)) (tb (z'.2 8 5))) k = if tb a0 k && !tb (z'.2 8 8) k then lkN (kdb (tb (z'.2 8 4)) (tb (z'.2 8 5)) k) else 0 := rfl
        cases q : (tb a0 k && !tb (z'.2 8 8) k)
        · rw [if_neg Bool.false_ne_true, pj_bI]
          rw [q, if_neg Bool.false_ne_true] at wk
          exact ⟨d - 1, _, _, _, _, by omega, ⟨rfl, rfl, k + 1, by omega, rfl, by rw [sk, wk]; rfl⟩, rfl⟩
        · have k4 : (tb (z'.2 8 4) k).toNat + 2 * (tb (z'.2 8 5) k).toNat < 4 := by cases tb (z'.2 8 4) k <;> cases tb (z'.2 8 5) k <;> decide
          rw [q, if_pos rfl] at wk
          rw [if_pos rfl, Fabric_kindOf_eq k (by omega), pj_cS, nI_and3 (by omega), Nat.mod_eq_of_lt k4, pj_gIn k4 (by decide), lk_get _ k4, nI_add, pj_bI, pj_bI]
          exact ⟨d - 1, _, _, _, _, by omega, ⟨rfl, rfl, k + 1, by omega, rfl, by rw [sk, wk]; rfl⟩, rfl⟩)
    4000 48 x (nI 0) (nI 0) z ⟨rfl, rfl, 0, by omega, rfl, rfl⟩ (by decide)
  rw [e]
  rfl
theorem tch_s (W : Nat) (dir : Bool) (k0 i s : Nat) : tch W dir k0 (i + 1) s = (tch W dir k0 i s || decide (s = stA W (pl dir k0 i))) := rfl
section WINDS
variable {W H : Nat} {dir : Bool} {k0 : Nat} {z : pj_S} {kd : Nat → Nat} {wd : Nat → Bool}
theorem winds_run (hW : 2 ≤ W ∧ W ≤ 6) (hH : H ≤ 6) (hP : W * H ≤ 36) (hk0 : k0 < W * H) (w0 : z.1 1 0 = nI W) (hk : ∀ s, s < 64 → z.1 1 (10 + s) = nI (kd s)) (hk4 : ∀ s, kd s < 4) {j : Nat} (hj : j ≤ plJ dir (W * H) k0) (h27 : z.1 0 27 = nI j) :
    ∀ d i q z', i + d = j → d < q → (∀ c, c ≠ 1 → z'.1 c = z.1 c) → (∀ a, a < 1490 → z'.1 1 a = z.1 1 a) → (∀ t, t < 64 → z'.1 1 (1490 + t) = b2i (wd t || tch W dir k0 i t)) → sm (wf (tch W dir k0 i) wd kd) 48 ≤ 5 * i →
    ∃ z2, pj_lp4 Md_winds_5 q (nI k0) (b2i dir) (nI (sm (wf (tch W dir k0 i) wd kd) 48)) (nI i) z' = Md_winds_88 (nI (sm (wf (tch W dir k0 j) wd kd) 48)) z2 ∧
      (∀ c, c ≠ 1 → z2.1 c = z.1 c) ∧ (∀ a, a < 1490 → z2.1 1 a = z.1 1 a) ∧ (∀ t, t < 64 → z2.1 1 (1490 + t) = b2i (wd t || tch W dir k0 j t)) ∧ sm (wf (tch W dir k0 j) wd kd) 48 ≤ 5 * j := by
  have hJ : plJ dir (W * H) k0 ≤ 36 := by unfold plJ; split <;> omega
  intro d
  induction d with
  | zero =>
    intro i q z' hi hq h1 h2 h3 h4
    have : i = j := by omega
    subst this
    obtain ⟨q, rfl⟩ : ∃ p, q = p + 1 := ⟨q - 1, by omega⟩
    refine ⟨z', ?_, h1, h2, h3, h4⟩
    rw [pj_lp4_s]
    unfold Md_winds_5
    rw [h1 0 (by decide), h27, if_pos (nI_le (Nat.le_refl _) (by omega))]
  | succ d ih =>
    intro i q z' hi hq h1 h2 h3 h4
    obtain ⟨q, rfl⟩ : ∃ p, q = p + 1 := ⟨q - 1, by omega⟩
    have hk : pl dir k0 i < W * H := by
      unfold plJ at hj
      unfold pl
      cases dir <;> simp at hj ⊢ <;> omega
    obtain ⟨st, -⟩ := stA_st (W := W) (H := H) hW hk
    have s48 := stit_48 hH st
    have new := tch_new (W := W) (H := H) (dir := dir) (k0 := k0) (i := i) hW hH hk0 (by omega)
    have hkk := ‹∀ s, s < 64 → z.1 1 (10 + s) = nI (kd s)›
    -- the next sum
    have step : sm (wf (tch W dir k0 (i + 1)) wd kd) 48 = sm (wf (tch W dir k0 i) wd kd) 48 + (if wd (stA W (pl dir k0 i)) then 0 else lkN (kd (stA W (pl dir k0 i)))) := by
      rw [sm_set (f := wf (tch W dir k0 i) wd kd) (g := wf (tch W dir k0 (i + 1)) wd kd) (a := stA W (pl dir k0 i)) (by unfold wf; rw [new]; rfl) (fun t ht => by unfold wf; rw [tch_s, decide_eq_false ht, Bool.or_false]) 48, if_pos s48]
      congr 1
      unfold wf
      rw [tch_s, decide_eq_true rfl, Bool.or_true, Bool.true_and]
      cases wd (stA W (pl dir k0 i)) <;> rfl
    have nx : ∀ t, t < 64 → ∀ (x : pj_S), x = pj_sI z' 1 (1490 + stA W (pl dir k0 i)) (nI 1) → x.1 1 (1490 + t) = b2i (wd t || tch W dir k0 (i + 1) t) := fun t ht x ex => by
      rw [ex, ag_1]
      by_cases c : t = stA W (pl dir k0 i)
      · rw [c, upd_s, tch_s, decide_eq_true rfl, Bool.or_true, Bool.or_true]; rfl
      · rw [upd_ne (by omega), h3 t ht, tch_s, decide_eq_false c, Bool.or_false]
    have tl : ∀ (v : Nat), sm (wf (tch W dir k0 (i + 1)) wd kd) 48 = sm (wf (tch W dir k0 i) wd kd) 48 + v → v ≤ 5 → ∃ z2, Md_winds_68 (pj_lp4 Md_winds_5 q) (nI k0) (b2i dir) (nI i) (nI (stA W (pl dir k0 i))) (nI v) (nI (sm (wf (tch W dir k0 i) wd kd) 48)) z' = Md_winds_88 (nI (sm (wf (tch W dir k0 j) wd kd) 48)) z2 ∧
        (∀ c, c ≠ 1 → z2.1 c = z.1 c) ∧ (∀ a, a < 1490 → z2.1 1 a = z.1 1 a) ∧ (∀ t, t < 64 → z2.1 1 (1490 + t) = b2i (wd t || tch W dir k0 j t)) ∧ sm (wf (tch W dir k0 j) wd kd) 48 ≤ 5 * j := fun v hv hv5 => by
      have := ih (i + 1) q (pj_sI z' 1 (1490 + stA W (pl dir k0 i)) (nI 1)) (by omega) (by omega) (fun c hc => by rw [ag_n _ _ _ _ hc]; exact h1 c hc) (fun a ha => by rw [ag_1, upd_ne (by omega)]; exact h2 a ha) (fun t ht => nx t ht _ rfl) (by omega)
      obtain ⟨z2, e2, r⟩ := this
      refine ⟨z2, ?_, r⟩
      unfold Md_winds_68
      have i3 : nI 1490 + nI (stA W (pl dir k0 i)) = nI (1490 + stA W (pl dir k0 i)) := by rw [nI_add]
      rw [nI_add, ← hv, pj_bI, i3, pj_gIn (n := 1490 + stA W (pl dir k0 i)) (by omega) (by decide), nI_clamp (n := 1490 + stA W (pl dir k0 i)) (by omega), pj_bI, nI_add, pj_bI]
      exact e2
    have e31 : Md_winds_31 (pj_lp4 Md_winds_5 q) (nI k0) (b2i dir) (nI (sm (wf (tch W dir k0 i) wd kd) 48)) (nI i) (nI (pl dir k0 i)) z' = Md_winds_68 (pj_lp4 Md_winds_5 q) (nI k0) (b2i dir) (nI i) (nI (stA W (pl dir k0 i))) (nI (if wd (stA W (pl dir k0 i)) then 0 else lkN (kd (stA W (pl dir k0 i))))) (nI (sm (wf (tch W dir k0 i) wd kd) 48)) z' := by
      unfold Md_winds_31
      have i3 : nI 1490 + nI (stA W (pl dir k0 i)) = nI (1490 + stA W (pl dir k0 i)) := by rw [nI_add]
      have i4 : nI 10 + nI (stA W (pl dir k0 i)) = nI (10 + stA W (pl dir k0 i)) := by rw [nI_add]
      rw [Md_stitchAt_eq (by rw [h2 0 (by decide)]; exact w0) hW _ (by omega), pj_cS, i3, pj_gIn (n := 1490 + stA W (pl dir k0 i)) (by omega) (by decide), nI_clamp (n := 1490 + stA W (pl dir k0 i)) (by omega), h3 _ (by omega), new, Bool.or_false, ib0, i4, pj_gIn (n := 10 + stA W (pl dir k0 i)) (by omega) (by decide), nI_clamp (n := 10 + stA W (pl dir k0 i)) (by omega), h2 _ (by omega), hkk _ (by omega), Md_lengthOf_eq _ (hk4 _), pj_cS]
      cases wd (stA W (pl dir k0 i))
      · rw [if_neg Bool.false_ne_true, if_neg Bool.false_ne_true]
      · rw [if_pos rfl, if_pos rfl]
    have fin := tl _ step (by
      have := lkN_b (kd (stA W (pl dir k0 i)))
      split <;> omega)
    rw [← e31] at fin
    rw [pj_lp4_s]
    generalize pj_lp4 Md_winds_5 q = sM at fin ⊢
    unfold Md_winds_5
    have t1 : ¬ b2i false = nI 1 := by decide
    rw [h1 0 (by decide), h27, if_neg (by rw [nI_leP (by omega) (by omega)]; omega)]
    cases dir
    · rw [if_neg t1, pk_sub (by unfold plJ at hj; rw [if_neg Bool.false_ne_true] at hj; omega)]
      exact fin
    · rw [if_pos b2i_t, nI_add]
      exact fin
end WINDS
