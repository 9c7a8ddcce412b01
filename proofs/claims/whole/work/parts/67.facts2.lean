/-! the row of facts, whole -/
def pm_fc (W H : Nat) (kd : Nat → Nat) (he : Nat → Bool) (hr : Int32) (s : Nat) (z : pj_S) : Prop :=
  z.1 8 1 = nI (kd s) ∧ z.1 8 2 = nI (s / 8) ∧ z.1 8 3 = nI (s % 8) ∧ z.1 8 4 = nI (fc4 W he s) ∧ z.1 8 5 = nI (fc5 he s) ∧ z.1 8 6 = hr ∧ z.1 8 7 = nI (fc7 H he s)
theorem Md_oddsOf_pre {W H : Nat} {kd : Nat → Nat} {he : Nat → Bool} {z : pj_S} (hW : W ≤ 6 ∧ H ≤ 6) (w0 : z.1 1 0 = nI W) (w1 : z.1 1 1 = nI H) (hk : ∀ s, s < 64 → z.1 1 (10 + s) = nI (kd s)) (h6 : ∀ i, i < 64 → z.1 1 (74 + i) = b2i (he i)) (s : Nat) (hs : s < 48) :
    ∃ z2, Md_oddsOf (nI s) z = Md_oddsOf_183 z2 ∧ (∀ c, c ≠ 8 → z2.1 c = z.1 c) ∧ pm_fc W H kd he (z.1 1 5) s z2 := by
  have last : ∀ (z4 : pj_S) (v4 v5 : Nat), (∀ c, c ≠ 8 → z4.1 c = z.1 c) → z4.1 8 1 = nI (kd s) → z4.1 8 2 = nI (s / 8) → z4.1 8 3 = nI (s % 8) → z4.1 8 4 = nI v4 → v4 = fc4 W he s → v5 = fc5 he s →
      ∃ z2, Md_oddsOf_117 (nI (s % 8)) (nI v5) (nI 5) z4 = Md_oddsOf_183 z2 ∧ (∀ c, c ≠ 8 → z2.1 c = z.1 c) ∧ pm_fc W H kd he (z.1 1 5) s z2 := fun z4 v4 v5 c4 a1 a2 a3 a4 a5 a6 => by
    unfold Md_oddsOf_117
    have r1 := c4 1 (by decide)
    rw [pj_gIn (n := 5) (N := 8) (by decide) (by decide), nI_clamp (n := 5) (by decide), pj_bI, pj_gIn (n := 5) (N := 1554) (by decide) (by decide), pj_gIn (n := 6) (by decide) (by decide), nI_clamp (n := 6) (by decide), pj_bI, pj_gIn (n := 7) (by decide) (by decide), nI_clamp (n := 7) (by decide), pj_bI]
    obtain ⟨z2, e, e1, e2, e3⟩ := Md_oddsOf_141_eq (H := H) (he := he) (z := pj_sI (pj_sI (pj_sI z4 8 5 (nI v5)) 8 6 ((pj_sI z4 8 5 (nI v5)).1 1 5)) 8 7 (nI 0)) hW.2 (by show z4.1 1 1 = _; rw [r1]; exact w1) (fun i hi => by show z4.1 1 (74 + i) = _; rw [r1]; exact h6 i hi) s rfl
    refine ⟨z2, e, fun c hc => ?_, ?_, ?_, ?_, ?_, ?_, ?_, e3⟩
    · rw [e1 c hc, ag_n _ _ _ _ hc, ag_n _ _ _ _ hc, ag_n _ _ _ _ hc]; exact c4 c hc
    · rw [e2 1 (by decide)]; exact a1
    · rw [e2 2 (by decide)]; exact a2
    · rw [e2 3 (by decide)]; exact a3
    · rw [e2 4 (by decide), ← a5]; exact a4
    · rw [e2 5 (by decide), ← a6]; rfl
    · rw [e2 6 (by decide)]; show z4.1 1 5 = _; rw [r1]
  have mid : ∀ (z4 : pj_S) (u v : Nat), (∀ c, c ≠ 8 → z4.1 c = z.1 c) → z4.1 8 1 = nI (kd s) → z4.1 8 2 = nI (s / 8) → z4.1 8 3 = nI (s % 8) → u + v = fc4 W he s →
      ∃ z2, Md_oddsOf_88 (nI s) (nI (s % 8)) (nI v) (nI u) (nI 4) z4 = Md_oddsOf_183 z2 ∧ (∀ c, c ≠ 8 → z2.1 c = z.1 c) ∧ pm_fc W H kd he (z.1 1 5) s z2 := fun z4 u v c4 a1 a2 a3 a4 => by
    unfold Md_oddsOf_88
    have r1 := c4 1 (by decide)
    rw [pj_gIn (n := 4) (by decide) (by decide), nI_clamp (n := 4) (by decide), pj_bI, nI_add]
    by_cases c : s < 8
    · rw [if_pos (nI_lt c (by decide))]
      exact last _ (u + v) 0 (fun c hc => by rw [ag_n _ _ _ _ hc]; exact c4 c hc) a1 a2 a3 rfl a4 (by unfold fc5; rw [if_pos c])
    · rw [if_neg (by rw [nI_ltP (by omega) (by decide)]; exact c), nI_add, pk_sub (by omega), pj_gIn (n := 74 + s - 8) (by omega) (by decide), nI_clamp (n := 74 + s - 8) (by omega), ag_n _ _ _ _ (by decide), r1, show 74 + s - 8 = 74 + (s - 8) by omega, h6 _ (by omega)]
      exact last _ (u + v) (he (s - 8)).toNat (fun c hc => by rw [ag_n _ _ _ _ hc]; exact c4 c hc) a1 a2 a3 rfl a4 (by unfold fc5; rw [if_neg c])
  have fst : ∀ (z4 : pj_S) (u : Nat), (∀ c, c ≠ 8 → z4.1 c = z.1 c) → z4.1 8 1 = nI (kd s) → z4.1 8 2 = nI (s / 8) → z4.1 8 3 = nI (s % 8) → u = (if s % 8 = 0 then 0 else (he (s - 1)).toNat) →
      ∃ z2, Md_oddsOf_61 (nI s) (nI (s % 8)) (nI u) (nI 4) z4 = Md_oddsOf_183 z2 ∧ (∀ c, c ≠ 8 → z2.1 c = z.1 c) ∧ pm_fc W H kd he (z.1 1 5) s z2 := fun z4 u c4 a1 a2 a3 a4 => by
    unfold Md_oddsOf_61
    have r1 := c4 1 (by decide)
    rw [pj_gIn (n := 0) (by decide) (by decide), nI_clamp (n := 0) (by decide), r1, w0, nI_add]
    by_cases c : W ≤ s % 8 + 1
    · rw [if_pos (nI_le c (by omega))]
      exact mid z4 u 0 c4 a1 a2 a3 (by unfold fc4; rw [if_pos c, a4])
    · rw [if_neg (by rw [nI_leP (by omega) (by omega)]; exact c), nI_add, nI_add, pj_gIn (n := 74 + s + 1) (by omega) (by decide), nI_clamp (n := 74 + s + 1) (by omega), show 74 + s + 1 = 74 + (s + 1) by omega, h6 _ (by omega)]
      exact mid z4 u (he (s + 1)).toNat c4 a1 a2 a3 (by unfold fc4; rw [if_neg c, a4])
  unfold Md_oddsOf
  have i10 : nI 10 + nI s = nI (10 + s) := by rw [nI_add]
  have i74 : nI 74 + nI s - nI 1 = nI (74 + s - 1) := by rw [nI_add, pk_sub (by omega)]
  rw [pj_gNz (n := 8) (by decide) (by decide), pj_remN (by omega) (by decide) (by decide), pj_bI, i10, pj_gIn (n := 10 + s) (by omega) (by decide), pj_gIn (n := 1) (by decide) (by decide), nI_clamp (n := 1) (by decide), nI_clamp (n := 10 + s) (by omega), hk s (by omega), pj_bI, pj_gNz (n := 8) (by decide) (by decide), pj_gIn (n := 2) (by decide) (by decide), nI_clamp (n := 2) (by decide), pk_div (by omega) (by decide) (by decide), pj_bI, pj_gIn (n := 3) (by decide) (by decide), nI_clamp (n := 3) (by decide), pj_bI, i74]
  have c4 : ∀ c, c ≠ 8 → (pj_sI (pj_sI (pj_sI z 8 1 (nI (kd s))) 8 2 (nI (s / 8))) 8 3 (nI (s % 8))).1 c = z.1 c := fun c hc => by rw [ag_n _ _ _ _ hc, ag_n _ _ _ _ hc, ag_n _ _ _ _ hc]
  by_cases c : s % 8 = 0
  · have x : nI (s % 8) ≤ 0 := by show nI (s % 8) ≤ nI 0; exact nI_le (by omega) (by decide)
    rw [if_pos x]
    exact fst _ 0 c4 rfl rfl rfl (by rw [if_pos c])
  · have x : ¬ nI (s % 8) ≤ 0 := by show ¬ nI (s % 8) ≤ nI 0; rw [nI_leP (by omega) (by decide)]; omega
    rw [if_neg x, pj_gIn (n := 74 + s - 1) (by omega) (by decide), nI_clamp (n := 74 + s - 1) (by omega), c4 1 (by decide), show 74 + s - 1 = 74 + (s - 1) by omega, h6 _ (by omega)]
    exact fst _ (he (s - 1)).toNat c4 rfl rfl rfl (by rw [if_neg c])
