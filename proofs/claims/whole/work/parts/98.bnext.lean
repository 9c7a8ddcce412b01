/-! the model's next token -/
section NX
variable {B : Nat → Nat} {n : Nat} {z : pj_S}
theorem tkP_2 {s : Nat} (ht : tkP B n s = 2) : sg B n s ≠ 999 ∧ isL (sg B n s) = false ∧ isD (sg B n s) = true ∧ enP B n s - s ≤ 4 := by
  unfold tkP at ht
  split at ht
  · cases ht
  · rename_i c9
    split at ht
    · exfalso
      revert ht
      unfold tokW
      repeat' split
      all_goals decide
    · rename_i cl
      split at ht
      · rename_i cd
        split at ht
        · rename_i c4
          exact ⟨c9, by simpa using cl, cd, c4⟩
        · cases ht
      · split at ht
        · omega
        · cases ht
theorem next0_eq (h : mB B n z) (p : Nat) (hp : p ≤ n) (h13 : z.1 0 13 = nI p) : ∃ z2, Md_next0 z = some ((), z2) ∧ nf z z2 ∧ z2.1 0 13 = nI (enP B n (lrun B n isB p)) ∧ z2.1 0 14 = nI (tkP B n (lrun B n isB p)) ∧ z2.1 0 15 = nI (lrun B n isB p) ∧ (tkP B n (lrun B n isB p) = 2 → z2.1 0 16 = nI (vlP B n (lrun B n isB p))) := by
  have n4 := h.1
  have hB := fun i hi => (h.2.2 i hi).1
  obtain ⟨z1, e1, f1, a1⟩ := n0_blanks h (n - p) p 4000 z (by omega) (by omega) (nf.rf z) h13
  have sb : lrun B n isB p ≤ n := (lrun_spec (B := B) (n := n) (f := isB) (by decide) p).2.1 hp
  have a1 : z1.1 0 13 = nI (lrun B n isB p) := a1
  unfold Md_next0
  rw [e1]
  generalize lrun B n isB p = s at *
  unfold Md_next0_39
  have f2 : nf z (pj_sI z1 0 15 (nI s)) := f1.s _ (Or.inr (Or.inr (Or.inl rfl)))
  have a2 : (pj_sI z1 0 15 (nI s)).1 0 13 = nI s := a1
  have bb := sg_256 (B := B) (n := n) hB s
  rw [a1, pj_bI, a2, Md_see_eq (h.f f2) s (by omega), pj_cS]
  by_cases c9 : sg B n s = 999
  · have e9 : sI9 (sg B n s) = -1 := by rw [c9]; rfl
    have tk0 : tkP B n s = 0 := by unfold tkP; rw [if_pos c9]
    have en0 : enP B n s = s := by unfold enP; rw [if_pos c9]
    rw [if_pos e9, pj_bI, tk0, en0]
    exact ⟨_, rfl, f2.s _ (Or.inr (Or.inl rfl)), a2, rfl, rfl, fun q => by cases q⟩
  · have b : sg B n s < 256 := bb.resolve_right c9
    have sn : s < n := by
      by_cases q : s < n
      · exact q
      · exact absurd (sg_ge (by omega)) c9
    have ne : ¬ sI9 (sg B n s) = -1 := fun q => by
      rw [sI9_lt b] at q
      have : (nI (sg B n s)).toInt = (-1 : Int32).toInt := by rw [q]
      rw [nI_toInt (by omega)] at this
      have e1 : (-1 : Int32).toInt = -1 := by decide
      omega
    rw [if_neg ne, Md_isLetter_eq _ bb, pj_cS, ib0]
    cases cl : isL (sg B n s)
    · rw [if_neg Bool.false_ne_true, Md_isDigit_eq _ bb, pj_cS, ib0]
      cases cd : isD (sg B n s)
      · -- a sign
        have en1 : enP B n s = s + 1 := by unfold enP; rw [if_neg c9, if_neg (by rw [cl]; exact Bool.false_ne_true), if_neg (by rw [cd]; exact Bool.false_ne_true)]
        have tk1 : tkP B n s = if isS (sg B n s) then 100 + sg B n s else 1 := by unfold tkP; rw [if_neg c9, if_neg (by rw [cl]; exact Bool.false_ne_true), if_neg (by rw [cd]; exact Bool.false_ne_true)]
        have no2 : tkP B n s ≠ 2 := fun q => by have := (tkP_2 q).2.2.1; rw [cd] at this; cases this
        rw [if_neg Bool.false_ne_true, a2, nI_add, pj_bI, en1, sI9_lt b]
        have f3 : nf z (pj_sI (pj_sI z1 0 15 (nI s)) 0 13 (nI (s + 1))) := f2.s _ (Or.inl rfl)
        have g1 : Md_next0_284 (nI (sg B n s)) (pj_sI (pj_sI z1 0 15 (nI s)) 0 13 (nI (s + 1))) = some ((), pj_sI (pj_sI (pj_sI z1 0 15 (nI s)) 0 13 (nI (s + 1))) 0 14 (nI (100 + sg B n s))) := by
          unfold Md_next0_284 Md_next0_289 Md_next0_303
          rw [if_neg (by decide), nI_add, pj_bI]
        have g2 : Md_next0_289 (nI (sg B n s)) (nI 0) (pj_sI (pj_sI z1 0 15 (nI s)) 0 13 (nI (s + 1))) = some ((), pj_sI (pj_sI (pj_sI z1 0 15 (nI s)) 0 13 (nI (s + 1))) 0 14 (nI 1)) := by
          unfold Md_next0_289 Md_next0_303
          rw [if_pos (by decide), pj_bI]
        have fin : ∀ t : Nat, tkP B n s = t → ∃ z2, some ((), pj_sI (pj_sI (pj_sI z1 0 15 (nI s)) 0 13 (nI (s + 1))) 0 14 (nI t)) = some ((), z2) ∧ nf z z2 ∧ z2.1 0 13 = nI (s + 1) ∧ z2.1 0 14 = nI (tkP B n s) ∧ z2.1 0 15 = nI s ∧ (tkP B n s = 2 → z2.1 0 16 = nI (vlP B n s)) := fun t ht => ⟨_, rfl, f3.s _ (Or.inr (Or.inl rfl)), rfl, by rw [ht]; rfl, rfl, fun q => absurd q no2⟩
        rw [g1, g2]
        have yes : isS (sg B n s) = true → ∃ z2, some ((), pj_sI (pj_sI (pj_sI z1 0 15 (nI s)) 0 13 (nI (s + 1))) 0 14 (nI (100 + sg B n s))) = some ((), z2) ∧ nf z z2 ∧ z2.1 0 13 = nI (s + 1) ∧ z2.1 0 14 = nI (tkP B n s) ∧ z2.1 0 15 = nI s ∧ (tkP B n s = 2 → z2.1 0 16 = nI (vlP B n s)) := fun q => fin _ (by rw [tk1, if_pos q])
        have cq : ∀ k : Nat, k < 256 → ((nI (sg B n s) = nI k) = (sg B n s = k)) := fun k hk => propext (nI_eq (by omega) (by omega))
        have iS : ∀ k : Nat, sg B n s = k → isS k = true → isS (sg B n s) = true := fun k e q => by rw [e]; exact q
        by_cases d1 : sg B n s = 59
        · rw [if_pos ((cq 59 (by decide)).mpr d1)]; exact yes (iS 59 d1 (by decide))
        · rw [if_neg (fun q => d1 ((cq 59 (by decide)).mp q))]
          by_cases d2 : sg B n s = 43
          · rw [if_pos ((cq 43 (by decide)).mpr d2)]; exact yes (iS 43 d2 (by decide))
          · rw [if_neg (fun q => d2 ((cq 43 (by decide)).mp q))]
            by_cases d3 : sg B n s = 45
            · rw [if_pos ((cq 45 (by decide)).mpr d3)]; exact yes (iS 45 d3 (by decide))
            · rw [if_neg (fun q => d3 ((cq 45 (by decide)).mp q))]
              by_cases d4 : sg B n s = 42
              · rw [if_pos ((cq 42 (by decide)).mpr d4)]; exact yes (iS 42 d4 (by decide))
              · rw [if_neg (fun q => d4 ((cq 42 (by decide)).mp q))]
                by_cases d5 : sg B n s = 47
                · rw [if_pos ((cq 47 (by decide)).mpr d5)]; exact yes (iS 47 d5 (by decide))
                · rw [if_neg (fun q => d5 ((cq 47 (by decide)).mp q))]
                  by_cases d6 : sg B n s = 40
                  · rw [if_pos ((cq 40 (by decide)).mpr d6)]; exact yes (iS 40 d6 (by decide))
                  · rw [if_neg (fun q => d6 ((cq 40 (by decide)).mp q))]
                    by_cases d7 : sg B n s = 41
                    · rw [if_pos ((cq 41 (by decide)).mpr d7)]; exact yes (iS 41 d7 (by decide))
                    · rw [if_neg (fun q => d7 ((cq 41 (by decide)).mp q))]
                      by_cases d8 : sg B n s = 60
                      · rw [if_pos ((cq 60 (by decide)).mpr d8)]; exact yes (iS 60 d8 (by decide))
                      · rw [if_neg (fun q => d8 ((cq 60 (by decide)).mp q))]
                        by_cases d9 : sg B n s = 61
                        · rw [if_pos ((cq 61 (by decide)).mpr d9)]; exact yes (iS 61 d9 (by decide))
                        · rw [if_neg (fun q => d9 ((cq 61 (by decide)).mp q))]
                          by_cases d10 : sg B n s = 62
                          · rw [if_pos ((cq 62 (by decide)).mpr d10)]; exact yes (iS 62 d10 (by decide))
                          · rw [if_neg (fun q => d10 ((cq 62 (by decide)).mp q))]
                            refine fin 1 ?_
                            rw [tk1, if_neg (fun q => ?_)]
                            unfold isS at q
                            simp only [Bool.or_eq_true, beq_iff_eq] at q
                            omega
      · -- a number
        have en1 : enP B n s = lrun B n isD s := by unfold enP; rw [if_neg c9, if_neg (by rw [cl]; exact Bool.false_ne_true), if_pos cd]
        have tk1 : tkP B n s = if enP B n s - s ≤ 4 then 2 else 1 := by unfold tkP; rw [if_neg c9, if_neg (by rw [cl]; exact Bool.false_ne_true), if_pos cd]
        rw [if_pos rfl, pj_bI]
        obtain ⟨z5, a5, e5, f5, g1, g2, g3, g4⟩ := n0_digits h (show s ≤ n by omega) (n - s) s 4000 (pj_sI (pj_sI z1 0 15 (nI s)) 0 16 (nI 0)) 0 (by omega) (by omega) (Nat.le_refl _) (f2.s _ (Or.inr (Or.inr (Or.inr rfl)))) a1 rfl rfl
        have g1 : z5.1 0 13 = nI (enP B n s) := by rw [en1]; exact g1
        have g4 : enP B n s ≤ s + 4 → a5 = vlF B (enP B n s - s) s 0 := by rw [en1]; exact g4
        obtain ⟨b1, b2, b3⟩ := enP_b hB (show s ≤ n by omega)
        rw [e5]
        unfold Md_next0_189 Md_next0_208
        rw [g1, g2, pk_sub b1]
        by_cases c4 : enP B n s - s ≤ 4
        · rw [if_neg (by rw [nI_leP (by decide) (by omega)]; omega), pj_bI, tk1, if_pos c4]
          refine ⟨_, rfl, f5.s _ (Or.inr (Or.inl rfl)), g1, rfl, g2, fun _ => ?_⟩
          have t2 : tkP B n s = 2 := by rw [tk1, if_pos c4]
          have v : vlP B n s = a5 := by rw [g4 (by omega)]; unfold vlP; rw [if_pos ⟨t2, c4⟩]
          rw [v]
          exact g3
        · rw [if_pos (nI_le (by omega) (by omega)), pj_bI, tk1, if_neg c4]
          exact ⟨_, rfl, f5.s _ (Or.inr (Or.inl rfl)), g1, rfl, g2, fun q => by cases q⟩
    · -- a word
      have en1 : enP B n s = lrun B n isL s := by unfold enP; rw [if_neg c9, if_pos cl]
      have tk1 : tkP B n s = tokW (lseg B s (enP B n s)) := by unfold tkP; rw [if_neg c9, if_pos cl]
      have no2 : tkP B n s ≠ 2 := fun q => by have := (tkP_2 q).2.1; rw [cl] at this; cases this
      rw [if_pos rfl]
      obtain ⟨z5, e5, f5, g1, g2⟩ := n0_letters h (s := s) (n - s) s 4000 (pj_sI z1 0 15 (nI s)) (by omega) (by omega) f2 a2 rfl
      have g1 : z5.1 0 13 = nI (enP B n s) := by rw [en1]; exact g1
      obtain ⟨b1, b2, b3⟩ := enP_b hB (show s ≤ n by omega)
      rw [e5]
      unfold Md_next0_103
      rw [Md_word_eq (h.f f5) s _ b2 b1 g1 g2, pj_cS, pj_bI, ← tk1]
      exact ⟨_, rfl, f5.s _ (Or.inr (Or.inl rfl)), g1, rfl, g2, fun q => absurd q no2⟩
theorem mTk_ok (h : mB B n z) {J : Nat} (hJ : J ≤ n) (hJ1 : lT B n J = 0 ∨ lT B n J = 1) : mTk (lT B n) (lV B n) (lP B n) (lE B n) J z := by
  have n4 := h.1
  have hB := fun i hi => (h.2.2 i hi).1
  refine ⟨by omega, hJ1, fun j => vT_b _ (tkP_v _), fun j z' hj e6 e12 m => ?_⟩
  have hz : mB B n z' := by
    unfold mB
    rw [e6, e12]
    exact h
  obtain ⟨z2, e2, f2, g1, g2, g3, g4⟩ := next0_eq hz (lE B n j) (enP_b hB (lP_b hB j)).2.1 m.1
  exact ⟨z2, e2, ⟨g1, g2, g3, g4⟩, f2.1, f2.2⟩
end NX
