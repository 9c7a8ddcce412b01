/-! the class scans -/
section SCN
variable {B : Nat → Nat} {n : Nat} {z : pj_S}
theorem cT_sg (c : Nat) (h : isS c = true) : cT (100 + c) = nI c := by
  unfold isS at h
  simp only [Bool.or_eq_true, beq_iff_eq] at h
  rcases h with ((((((((c | c) | c) | c) | c) | c) | c) | c) | c) | c <;> rw [c] <;> decide
theorem Reader_tokenOf_eq (h : cB B n z) (s : Nat) (hs : s ≤ n) (e : Nat) (he : e = if sg B n s = 999 then s + 1 else enP B n s) : Reader_tokenOf (nI s) (nI e) z = some (cT (tkP B n s), z) := by
  have n4 := h.1
  have hB := fun i hi => (h.2.2 i hi).1
  have b := sg_256 (B := B) (n := n) hB s
  obtain ⟨e1, e2, e3⟩ := enP_b hB hs
  unfold Reader_tokenOf tkP
  rw [Tape_signAt_eq h s (by omega), pj_cS]
  by_cases c9 : sg B n s = 999
  · rw [if_pos c9, c9]; rfl
  · have b : sg B n s < 256 := b.resolve_right c9
    rw [if_neg c9] at he
    subst he
    have ne : ¬ nI (sg B n s) = -1 := fun q => by
      have : (nI (sg B n s)).toInt = (-1 : Int32).toInt := by rw [q]
      rw [nI_toInt (by omega)] at this
      have e1 : (-1 : Int32).toInt = -1 := by decide
      omega
    rw [if_neg c9]
    have il := Tape_isLetter_eq (sg B n s) (Or.inl b) z
    have idg := Tape_isDigit_eq (sg B n s) (Or.inl b) z
    rw [sI9_lt b] at il idg ⊢
    rw [if_neg ne, il, pj_cS, ib0]
    cases cl : isL (sg B n s)
    · rw [if_neg Bool.false_ne_true, if_neg Bool.false_ne_true, idg, pj_cS, ib0]
      cases cd : isD (sg B n s)
      · rw [if_neg Bool.false_ne_true, if_neg Bool.false_ne_true]
        generalize sg B n s = c at *
        by_cases cc : 40 ≤ c ∧ c ≤ 62
        · have : c = 40 ∨ c = 41 ∨ c = 42 ∨ c = 43 ∨ c = 44 ∨ c = 45 ∨ c = 46 ∨ c = 47 ∨ c = 48 ∨ c = 49 ∨ c = 50 ∨ c = 51 ∨ c = 52 ∨ c = 53 ∨ c = 54 ∨ c = 55 ∨ c = 56 ∨ c = 57 ∨ c = 58 ∨ c = 59 ∨ c = 60 ∨ c = 61 ∨ c = 62 := by omega
          rcases this with rfl | rfl | rfl | rfl | rfl | rfl | rfl | rfl | rfl | rfl | rfl | rfl | rfl | rfl | rfl | rfl | rfl | rfl | rfl | rfl | rfl | rfl | rfl <;> rfl
        · have nk : ∀ k, 40 ≤ k → k ≤ 62 → ¬ nI c = nI k := fun k k1 k2 => by rw [nI_eq (by omega) (by omega)]; omega
          have ns : ¬ isS c = true := fun q => by
            unfold isS at q
            simp only [Bool.or_eq_true, beq_iff_eq] at q
            omega
          rw [if_neg ns, if_neg (nk 40 (by decide) (by decide)), if_neg (nk 41 (by decide) (by decide)), if_neg (nk 42 (by decide) (by decide)), if_neg (nk 43 (by decide) (by decide)), if_neg (nk 44 (by decide) (by decide)), if_neg (nk 45 (by decide) (by decide)), if_neg (nk 46 (by decide) (by decide)), if_neg (nk 47 (by decide) (by decide)), if_neg (nk 48 (by decide) (by decide)), if_neg (nk 49 (by decide) (by decide)), if_neg (nk 50 (by decide) (by decide)), if_neg (nk 51 (by decide) (by decide)), if_neg (nk 52 (by decide) (by decide)), if_neg (nk 53 (by decide) (by decide)), if_neg (nk 54 (by decide) (by decide)), if_neg (nk 55 (by decide) (by decide)), if_neg (nk 56 (by decide) (by decide)), if_neg (nk 57 (by decide) (by decide)), if_neg (nk 58 (by decide) (by decide)), if_neg (nk 59 (by decide) (by decide)), if_neg (nk 60 (by decide) (by decide)), if_neg (nk 61 (by decide) (by decide)), if_neg (nk 62 (by decide) (by decide))]
          rfl
      · rw [if_pos rfl, if_pos rfl, pk_sub e1]
        by_cases c4 : enP B n s - s ≤ 4
        · rw [if_pos c4, if_neg (by rw [nI_ltP (by decide) (by omega)]; omega)]; rfl
        · rw [if_neg c4, if_pos (nI_lt (by omega) (by omega))]; rfl
    · rw [if_pos rfl, if_pos rfl, Reader_wordOf_eq h s _ e2 e1, pj_cS]
theorem Tape_number_run (h : cB B n z) {e : Nat} (he : e ≤ n) : ∀ d p a q, p + d = e → d < q → (∀ i, p ≤ i → i < e → 48 ≤ B i) → pj_lp3 Tape_numberAt_5 q (nI e) (nI a) (nI p) z = some (nI (vlF B d p a), z)
  | 0, p, a, q, hp, hq, hd => by
    have n4 := h.1
    obtain ⟨q, rfl⟩ : ∃ x, q = x + 1 := ⟨q - 1, by omega⟩
    rw [pj_lp3_s]
    unfold Tape_numberAt_5
    rw [if_pos (nI_le (by omega) (by omega))]; rfl
  | d + 1, p, a, q, hp, hq, hd => by
    have n4 := h.1
    obtain ⟨q, rfl⟩ : ∃ x, q = x + 1 := ⟨q - 1, by omega⟩
    have ih := Tape_number_run h he d (p + 1) (10 * a + B p - 48) q (by omega) (by omega) (fun i a b => hd i (by omega) b)
    have b := (h.2.2 p (by omega)).1
    have b48 := hd p (by omega) (by omega)
    rw [pj_lp3_s]
    generalize pj_lp3 Tape_numberAt_5 q = self at ih ⊢
    unfold Tape_numberAt_5 vlF
    have i1 : nI 10 * nI a + nI (B p) - nI 48 = nI (10 * a + B p - 48) := by rw [pk_mul, nI_add, pk_sub (by omega)]
    rw [if_neg (by rw [nI_leP (by omega) (by omega)]; omega), Tape_signAt_eq h p (by omega), pj_cS, sg_lt (show p < n by omega), sI9_lt b, i1, pj_bI, nI_add, pj_bI]
    exact ih
theorem dig_48 (hB : ∀ i, i < n → B i < 256) {s : Nat} (hd : isD (sg B n s) = true) (hl : isL (sg B n s) = false) (h9 : sg B n s ≠ 999) : ∀ i, s ≤ i → i < enP B n s → 48 ≤ B i ∧ i < n := fun i a b => by
  have e : enP B n s = lrun B n isD s := by unfold enP; rw [if_neg h9, if_neg (by rw [hl]; exact Bool.false_ne_true), if_pos hd]
  rw [e] at b
  have q := (lrun_spec (B := B) (n := n) (f := isD) (by decide) s).2.2.1 i a b
  have hn : i < n := by
    by_cases c : i < n
    · exact c
    · rw [sg_ge (by omega)] at q; exact absurd q (by decide)
  rw [sg_lt hn] at q
  unfold isD at q
  rw [Bool.and_eq_true, decide_eq_true_eq] at q
  exact ⟨q.1, hn⟩
theorem Tape_numberAt_eq (h : cB B n z) (s : Nat) (hs : s ≤ n) (ht : tkP B n s = 2) : Tape_numberAt (nI s) (nI (enP B n s)) z = some (nI (vlP B n s), z) := by
  have n4 := h.1
  have hB := fun i hi => (h.2.2 i hi).1
  obtain ⟨e1, e2, e3⟩ := enP_b hB hs
  have key : sg B n s ≠ 999 ∧ isL (sg B n s) = false ∧ isD (sg B n s) = true ∧ enP B n s - s ≤ 4 := by
    unfold tkP at ht
    split at ht
    · cases ht
    · rename_i c9
      split at ht
      · exfalso
        revert ht
        unfold tokW
        repeat' split
        all_goals decide
      · rename_i cl
        split at ht
        · rename_i cd
          split at ht
          · rename_i c4
            exact ⟨c9, by simpa using cl, cd, c4⟩
          · cases ht
        · split at ht
          · omega
          · cases ht
  have : vlP B n s = vlF B (enP B n s - s) s 0 := by unfold vlP; rw [if_pos ⟨ht, key.2.2.2⟩]
  rw [this]
  unfold Tape_numberAt
  exact Tape_number_run h e2 _ _ _ _ (by omega) (by omega) (fun i a b => (dig_48 hB key.2.2.1 key.2.1 key.1 i a b).1)
/-- where token j begins to be looked for -/
def lF (B : Nat → Nat) (n : Nat) : Nat → Nat
  | 0 => 0
  | j + 1 => lE B n j
theorem lP_F (j : Nat) : lP B n j = lrun B n isB (lF B n j) := by cases j <;> rfl
theorem lF_b (hB : ∀ i, i < n → B i < 256) (j : Nat) : lF B n j ≤ n := by
  cases j with
  | zero => exact Nat.zero_le _
  | succ j => exact (enP_b hB (lP_b hB j)).2.1
def scS (B : Nat → Nat) (n : Nat) (z : pj_S) (j : Nat) (z' : pj_S) : Prop := (∀ c, c ≠ 5 → c ≠ 24 → c ≠ 25 → c ≠ 26 → z'.1 c = z.1 c) ∧ z'.2 = z.2 ∧ (∀ k, k ≠ 4 → z'.1 5 k = z.1 5 k) ∧ z'.1 5 4 = nI j ∧ ∀ i, i < j → z'.1 24 i = cT (lT B n i) ∧ z'.1 25 i = nI (lP B n i) ∧ (lT B n i = 2 → z'.1 26 i = nI (lV B n i))
theorem cB.c {z2 : pj_S} (h : cB B n z) (e4 : z2.1 4 = z.1 4) (e23 : z2.1 23 = z.1 23) : cB B n z2 := by
  unfold cB
  rw [e4, e23]
  exact h
theorem scan_step (h : cB B n z) {j : Nat} (hj : j ≤ n) (q : Nat) (v3 : Int32) (z' : pj_S) (c0 : ¬ v3 = 0) (c2 : ¬ v3 = nI 2) (hs : scS B n z j z') :
    ∃ z2, pj_lp3 Reader_scan_12 (q + 1) (nI (lF B n j)) v3 (nI j) z' = pj_lp3 Reader_scan_12 q (nI (if sg B n (lP B n j) = 999 then lP B n j + 1 else lE B n j)) (cT (lT B n j)) (nI (j + 1)) z2 ∧ scS B n z (j + 1) z2 := by
  have n4 := h.1
  have hB := fun i hi => (h.2.2 i hi).1
  obtain ⟨s1, s2, s3, s4, s5⟩ := hs
  have hz : cB B n z' := h.c (s1 4 (by decide) (by decide) (by decide) (by decide)) (s1 23 (by decide) (by decide) (by decide) (by decide))
  have hp := lP_b hB j
  have tv : lT B n j ∈ vT := tkP_v _
  have t1 : (cT (lT B n j) = nI 1) ↔ lT B n j = 2 := (show ∀ t ∈ vT, cT t = nI 1 ↔ t = 2 by decide) _ tv
  -- what is written
  have fin : ∀ (v : Int32), (lT B n j = 2 → v = nI (lV B n j)) → scS B n z (j + 1) (pj_sI (pj_sI (pj_sI (pj_sI z' 24 j (cT (lT B n j))) 25 j (nI (lP B n j))) 26 j v) 5 4 (nI (j + 1))) := fun v hv => by
    refine ⟨fun c a1 a2 a3 a4 => ?_, s2, fun k hk => ?_, rfl, fun i hi => ?_⟩
    · rw [ag_n _ _ _ _ a1, ag_n _ _ _ _ a4, ag_n _ _ _ _ a3, ag_n _ _ _ _ a2]; exact s1 c a1 a2 a3 a4
    · rw [ag_1, upd_ne hk, ag_n _ _ _ _ (by decide), ag_n _ _ _ _ (by decide), ag_n _ _ _ _ (by decide)]; exact s3 k hk
    · have r24 : (pj_sI (pj_sI (pj_sI (pj_sI z' 24 j (cT (lT B n j))) 25 j (nI (lP B n j))) 26 j v) 5 4 (nI (j + 1))).1 24 = upd (z'.1 24) j (cT (lT B n j)) := by rw [ag_n _ _ _ _ (by decide), ag_n _ _ _ _ (by decide), ag_n _ _ _ _ (by decide), ag_1]
      have r25 : (pj_sI (pj_sI (pj_sI (pj_sI z' 24 j (cT (lT B n j))) 25 j (nI (lP B n j))) 26 j v) 5 4 (nI (j + 1))).1 25 = upd (z'.1 25) j (nI (lP B n j)) := by rw [ag_n _ _ _ _ (by decide), ag_n _ _ _ _ (by decide), ag_1, ag_n _ _ _ _ (by decide)]
      have r26 : (pj_sI (pj_sI (pj_sI (pj_sI z' 24 j (cT (lT B n j))) 25 j (nI (lP B n j))) 26 j v) 5 4 (nI (j + 1))).1 26 = upd (z'.1 26) j v := by rw [ag_n _ _ _ _ (by decide), ag_1, ag_n _ _ _ _ (by decide), ag_n _ _ _ _ (by decide)]
      rw [r24, r25, r26]
      by_cases c : i = j
      · subst c
        rw [upd_s, upd_s, upd_s]
        exact ⟨rfl, rfl, hv⟩
      · rw [upd_ne c, upd_ne c, upd_ne c]
        exact s5 i (by omega)
  rw [pj_lp3_s]
  generalize pj_lp3 Reader_scan_12 q = self
  unfold Reader_scan_12
  rw [if_neg (by rw [nI_ltP (by decide) (by omega)]; omega), if_neg c0, if_neg c2, Tape_behindBlanks_eq hz _ (lF_b hB j), pj_cS, ← lP_F, Tape_behindToken_eq hz _ hp, pj_cS, Reader_tokenOf_eq hz _ hp _ rfl, pj_cS, s4, if_neg (by rw [nI_leP (by decide) (by omega)]; omega), pj_gIn (n := j) (by omega) (by decide), nI_clamp (n := j) (by omega), pj_bI]
  have a1 : (pj_sI z' 24 j (cT (tkP B n (lP B n j)))).1 5 4 = nI j := by rw [ag_n _ _ _ _ (by decide)]; exact s4
  rw [a1, pj_gIn (n := j) (by omega) (by decide), nI_clamp (n := j) (by omega), pj_bI]
  have a2 : (pj_sI (pj_sI z' 24 j (cT (tkP B n (lP B n j)))) 25 j (nI (lP B n j))).1 5 4 = nI j := by rw [ag_n _ _ _ _ (by decide)]; exact a1
  rw [a2]
  have hz2 : cB B n (pj_sI (pj_sI z' 24 j (cT (tkP B n (lP B n j)))) 25 j (nI (lP B n j))) := hz.c (by rw [ag_n _ _ _ _ (by decide), ag_n _ _ _ _ (by decide)]) (by rw [ag_n _ _ _ _ (by decide), ag_n _ _ _ _ (by decide)])
  have tl : ∀ (v : Int32), Reader_scan_106 self (cT (tkP B n (lP B n j))) (nI j) (nI (if sg B n (lP B n j) = 999 then lP B n j + 1 else enP B n (lP B n j))) v (nI j) (pj_sI (pj_sI z' 24 j (cT (tkP B n (lP B n j)))) 25 j (nI (lP B n j))) = self (nI (if sg B n (lP B n j) = 999 then lP B n j + 1 else lE B n j)) (cT (lT B n j)) (nI (j + 1)) (pj_sI (pj_sI (pj_sI (pj_sI z' 24 j (cT (lT B n j))) 25 j (nI (lP B n j))) 26 j v) 5 4 (nI (j + 1))) := fun v => by
    unfold Reader_scan_106 Reader_scan_117
    have a3 : (pj_sI (pj_sI (pj_sI z' 24 j (cT (tkP B n (lP B n j)))) 25 j (nI (lP B n j))) 26 j v).1 5 4 = nI j := by rw [ag_n _ _ _ _ (by decide)]; exact a2
    rw [pj_gIn (n := j) (by omega) (by decide), nI_clamp (n := j) (by omega), pj_bI, a3, nI_add, pj_bI, pj_bI]
    rfl
  have t1p : (cT (tkP B n (lP B n j)) = nI 1) ↔ lT B n j = 2 := t1
  by_cases c : lT B n j = 2
  · have c9 : ¬ sg B n (lP B n j) = 999 := fun q => by
      unfold lT tkP at c
      rw [if_pos q] at c
      cases c
    have nm := Tape_numberAt_eq hz2 (lP B n j) hp c
    have en : (if sg B n (lP B n j) = 999 then lP B n j + 1 else enP B n (lP B n j)) = enP B n (lP B n j) := if_neg c9
    rw [if_pos (t1p.mpr c)]
    refine ⟨_, ?_, fin (nI (lV B n j)) (fun _ => rfl)⟩
    rw [← tl (nI (lV B n j)), en, nm, pj_cS]
    rfl
  · rw [if_neg (fun q => c (t1p.mp q))]
    exact ⟨_, tl (nI 0), fin (nI 0) (fun q => absurd q c)⟩
theorem scan_run (h : cB B n z) {J : Nat} (hJ : J ≤ n) (hJ1 : lT B n J = 0 ∨ lT B n J = 1) (hJ2 : ∀ j, j < J → lT B n j ≠ 0 ∧ lT B n j ≠ 1) : ∀ d j q v3 z', j + d = J → d + 1 < q → ¬ v3 = 0 → ¬ v3 = nI 2 → scS B n z j z' →
    ∃ z2, pj_lp3 Reader_scan_12 q (nI (lF B n j)) v3 (nI j) z' = some ((), z2) ∧ scS B n z (J + 1) z2 := by
  have n4 := h.1
  intro d
  induction d with
  | zero =>
    intro j q v3 z' hj hq c0 c2 hs
    have : j = J := by omega
    subst this
    obtain ⟨q, rfl⟩ : ∃ x, q = x + 1 := ⟨q - 1, by omega⟩
    obtain ⟨z2, e2, s2⟩ := scan_step h hJ q v3 z' c0 c2 hs
    obtain ⟨q, rfl⟩ : ∃ x, q = x + 1 := ⟨q - 1, by omega⟩
    refine ⟨z2, ?_, s2⟩
    rw [e2, pj_lp3_s]
    unfold Reader_scan_12
    by_cases c4 : nI 400 < nI (j + 1)
    · rw [if_pos c4]
    · rw [if_neg c4]
      rcases hJ1 with q | q
      · rw [q, if_pos (by decide)]
      · rw [q, if_neg (by decide), if_pos (by decide)]
  | succ d ih =>
    intro j q v3 z' hj hq c0 c2 hs
    obtain ⟨q, rfl⟩ : ∃ x, q = x + 1 := ⟨q - 1, by omega⟩
    obtain ⟨z2, e2, s2⟩ := scan_step h (show j ≤ n by omega) q v3 z' c0 c2 hs
    have tj := hJ2 j (by omega)
    have tv : lT B n j ∈ vT := tkP_v _
    have c9 : ¬ sg B n (lP B n j) = 999 := fun q => tj.1 (by unfold lT tkP; rw [if_pos q])
    have n0 : ¬ cT (lT B n j) = 0 := fun e => tj.1 (((show ∀ t ∈ vT, cT t = 0 ↔ t = 0 by decide) _ tv).mp e)
    have n2 : ¬ cT (lT B n j) = nI 2 := fun e => tj.2 (((show ∀ t ∈ vT, cT t = nI 2 ↔ t = 1 by decide) _ tv).mp e)
    rw [if_neg c9] at e2
    rw [e2]
    exact ih (j + 1) q (cT (lT B n j)) z2 (by omega) (by omega) n0 n2 s2
theorem Reader_scan_eq (h : cB B n z) {J : Nat} (hJ : J ≤ n) (hJ1 : lT B n J = 0 ∨ lT B n J = 1) (hJ2 : ∀ j, j < J → lT B n j ≠ 0 ∧ lT B n j ≠ 1) : ∃ z2, Reader_scan z = some ((), z2) ∧ scS B n z (J + 1) z2 := by
  have n4 := h.1
  unfold Reader_scan
  rw [pj_bI]
  obtain ⟨z2, e2, s1, s2, s3, s4, s5⟩ := scan_run (z := pj_sI z 5 4 (nI 0)) (h.c (by rw [ag_n _ _ _ _ (by decide)]) (by rw [ag_n _ _ _ _ (by decide)])) hJ hJ1 hJ2 J 0 4000 (nI 1) (pj_sI z 5 4 (nI 0)) (by omega) (by omega) (by decide) (by decide) ⟨fun _ _ _ _ _ => rfl, rfl, fun _ _ => rfl, rfl, fun i hi => by omega⟩
  refine ⟨z2, e2, fun c a1 a2 a3 a4 => (s1 c a1 a2 a3 a4).trans (ag_n _ _ _ _ a1), s2, fun k hk => ?_, s4, s5⟩
  rw [s3 k hk, ag_1, upd_ne hk]
end SCN
