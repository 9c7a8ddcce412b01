/-! what a law may ask of a stitch: the model's row of facts -/
def fc4 (W : Nat) (he : Nat → Bool) (s : Nat) : Nat := (if s % 8 = 0 then 0 else (he (s - 1)).toNat) + (if W ≤ s % 8 + 1 then 0 else (he (s + 1)).toNat)
def fc5 (he : Nat → Bool) (s : Nat) : Nat := if s < 8 then 0 else (he (s - 8)).toNat
def fc7 (H : Nat) (he : Nat → Bool) (s : Nat) : Nat := cnt (fun y => !he (8 * y + s % 8)) H
theorem Md_oddsOf_141_eq {H : Nat} {he : Nat → Bool} {z : pj_S} (hH : H ≤ 6) (w1 : z.1 1 1 = nI H) (h6 : ∀ i, i < 64 → z.1 1 (74 + i) = b2i (he i)) (s : Nat) (h7 : z.1 8 7 = nI 0) :
    ∃ z2, pj_lp2 Md_oddsOf_141 4000 (nI (s % 8)) (nI 0) z = Md_oddsOf_183 z2 ∧ (∀ c, c ≠ 8 → z2.1 c = z.1 c) ∧ (∀ j, j ≠ 7 → z2.1 8 j = z.1 8 j) ∧ z2.1 8 7 = nI (fc7 H he s) := by
  obtain ⟨a, p, z2, ⟨e1, e2, e3⟩, e⟩ := pj_loop2 (F := Md_oddsOf_141)
    (P := fun d a p z' => a = nI (s % 8) ∧ ∃ k, k + d = H ∧ p = nI k ∧ (∀ c, c ≠ 8 → z'.1 c = z.1 c) ∧ (∀ j, j ≠ 7 → z'.1 8 j = z.1 8 j) ∧ z'.1 8 7 = nI (cnt (fun y => !he (8 * y + s % 8)) k))
    (E := fun _ _ z' => (∀ c, c ≠ 8 → z'.1 c = z.1 c) ∧ (∀ j, j ≠ 7 → z'.1 8 j = z.1 8 j) ∧ z'.1 8 7 = nI (fc7 H he s))
    (G := fun _ _ z' => Md_oddsOf_183 z') (by
      rintro self d a p z' ⟨rfl, k, hk, rfl, h1, h2, h3⟩
      unfold Md_oddsOf_141
      have r1 := h1 1 (by decide)
      rw [pj_gIn (n := 1) (by decide) (by decide), nI_clamp (n := 1) (by decide), r1, w1]
      by_cases c : H ≤ k
      · left
        have : k = H := by omega
        subst this
        exact ⟨⟨h1, h2, h3⟩, by rw [if_pos (nI_le c (by omega))]⟩
      · right
        rw [if_neg (by rw [nI_leP (by omega) (by omega)]; exact c), pk_mul, nI_add, nI_add, pj_gIn (n := 7) (by decide) (by decide), pj_gIn (n := 74 + 8 * k + s % 8) (by omega) (by decide), pj_gIn (n := 7) (by decide) (by decide), nI_clamp (n := 7) (by decide), nI_clamp (n := 74 + 8 * k + s % 8) (by omega), h3, show 74 + 8 * k + s % 8 = 74 + (8 * k + s % 8) by omega, h6 _ (by omega), pj_bI, nI_add, pj_bI]
        have ev : nI (cnt (fun y => !he (8 * y + s % 8)) k) + (nI 1 - b2i (he (8 * k + s % 8))) = nI (cnt (fun y => !he (8 * y + s % 8)) (k + 1)) := by
          rw [cnt]
          cases he (8 * k + s % 8)
          · show _ + (nI 1 - nI 0) = _; rw [pk_sub (by decide), nI_add]; rfl
          · show _ + (nI 1 - nI 1) = _; rw [pk_sub (by decide), nI_add]; rfl
        rw [ev]
        refine ⟨d - 1, _, _, _, by omega, ⟨rfl, k + 1, by omega, rfl, fun c hc => ?_, fun j hj => ?_, ?_⟩, rfl⟩
        · rw [ag_n _ _ _ _ hc]; exact h1 c hc
        · rw [ag_1, upd_ne hj]; exact h2 j hj
        · rw [ag_1, upd_s])
    4000 H (nI (s % 8)) (nI 0) z ⟨rfl, 0, by omega, rfl, fun _ _ => rfl, fun _ _ => rfl, h7⟩ (by omega)
  exact ⟨z2, e, e1, e2, e3⟩
