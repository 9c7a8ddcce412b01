/-! the model's tokens -/
def mB (B : Nat → Nat) (n : Nat) (z : pj_S) : Prop := n ≤ 400 ∧ z.1 0 12 = nI n ∧ ∀ i, i < n → B i < 256 ∧ z.1 6 i = nI (B i)
def nf (z z' : pj_S) : Prop := (∀ c, c ≠ 0 → z'.1 c = z.1 c) ∧ ∀ k, k ≠ 13 → k ≠ 14 → k ≠ 15 → k ≠ 16 → z'.1 0 k = z.1 0 k
theorem nf.rf (z : pj_S) : nf z z := ⟨fun _ _ => rfl, fun _ _ _ _ _ => rfl⟩
theorem nf.s {z z' : pj_S} (h : nf z z') {k : Nat} (v : Int32) (hk : k = 13 ∨ k = 14 ∨ k = 15 ∨ k = 16) : nf z (pj_sI z' 0 k v) := ⟨fun c hc => by rw [ag_n _ _ _ _ hc]; exact h.1 c hc, fun j a b c d => by rw [ag_1, upd_ne (by omega)]; exact h.2 j a b c d⟩
section LM
variable {B : Nat → Nat} {n : Nat} {z : pj_S}
theorem mB.f {z' : pj_S} (h : mB B n z) (f : nf z z') : mB B n z' := by
  unfold mB
  rw [f.1 6 (by decide), f.2 12 (by decide) (by decide) (by decide) (by decide)]
  exact h
theorem Md_see_eq (h : mB B n z) (p : Nat) (hp : p < 1000) : Md_see (nI p) z = some (sI9 (sg B n p), z) := by
  obtain ⟨h1, h2, h3⟩ := h
  unfold Md_see
  rw [h2]
  by_cases c : n ≤ p
  · rw [if_pos (nI_le c (by omega)), sg_ge c]; rfl
  · have cp : p < n := by omega
    rw [if_neg (by rw [nI_leP (by omega) (by omega)]; exact c), pj_gIn (n := p) (by omega) (by decide), nI_clamp (n := p) (by omega), (h3 p cp).2, sg_lt cp, sI9_lt (h3 p cp).1]
theorem isin_c (c a b : Nat) (hc : c < 256 ∨ c = 999) (hb : b < 256) : isin (sI9 c) (a : Int) (b : Int) = (decide (a ≤ c) && decide (c ≤ b)) := by
  rcases hc with hc | rfl
  · rw [sI9_lt hc]
    unfold isin
    rw [nI_toInt (by omega), Bool.eq_iff_iff]
    simp <;> omega
  · unfold isin
    have : (sI9 999).toInt = -1 := by decide
    rw [this, Bool.eq_iff_iff]
    simp <;> omega
theorem Md_isLetter_eq (c : Nat) (hc : c < 256 ∨ c = 999) (z : pj_S) : Md_isLetterM (sI9 c) z = some (b2i (isL c), z) := by
  unfold Md_isLetterM Md_isLetterM_22 isL
  rw [Md_isIn_eq, pj_cS, nI_toInt (n := 97) (by decide), nI_toInt (n := 122) (by decide), isin_c c 97 122 hc (by decide), ib0, Md_isIn_eq, pj_cS, nI_toInt (n := 65) (by decide), nI_toInt (n := 90) (by decide), isin_c c 65 90 hc (by decide), ib0]
  cases (decide (97 ≤ c) && decide (c ≤ 122)) <;> cases (decide (65 ≤ c) && decide (c ≤ 90)) <;> rfl
theorem Md_isDigit_eq (c : Nat) (hc : c < 256 ∨ c = 999) (z : pj_S) : Md_isDigitM (sI9 c) z = some (b2i (isD c), z) := by
  unfold Md_isDigitM isD
  rw [Md_isIn_eq, pj_cS, nI_toInt (n := 48) (by decide), nI_toInt (n := 57) (by decide), isin_c c 48 57 hc (by decide), pj_gBb]
theorem Md_is_eq (h : mB B n z) (k : Nat) (hk : k < 12) (s e : Nat) (he : e ≤ n) (hse : s ≤ e) (h13 : z.1 0 13 = nI e) (h15 : z.1 0 15 = nI s) : Md_is k z = some (b2i (decide (lseg B s e = wd k)), z) := by
  have n4 := h.1
  obtain ⟨-, w6⟩ := wd_len k hk
  unfold Md_is Md_is_21
  rw [JStr_length_eq k hk, pj_cS, h13, h15, pk_sub hse]
  have no : ∀ i q, 0 < q → i < 100 → ¬ lseg B s e = wd k → pj_lp3 Md_is_24 q k (nI 0) (nI i) z = some (b2i (decide (lseg B s e = wd k)), z) := fun i q hq hi ne => by
    obtain ⟨q, rfl⟩ : ∃ x, q = x + 1 := ⟨q - 1, by omega⟩
    rw [pj_lp3_s, decide_eq_false ne]
    unfold Md_is_24
    rw [JStr_length_eq k hk, pj_cS]
    by_cases c : nI (wd k).length ≤ nI i
    · rw [if_pos c]; rfl
    · rw [if_neg c, if_pos (by decide)]; rfl
  by_cases c : e - s = (wd k).length
  · rw [if_pos (by rw [c])]
    have run : ∀ d i q, i + d = (wd k).length → d + 1 < q → (∀ i' c, i' < i → (wd k)[i']? = some c → B (s + i') = c) → pj_lp3 Md_is_24 q k (nI 1) (nI i) z = some (b2i (decide (lseg B s e = wd k)), z) := fun d => by
      induction d with
      | zero =>
        intro i q hi hq hm
        obtain ⟨q, rfl⟩ : ∃ x, q = x + 1 := ⟨q - 1, by omega⟩
        have : lseg B s e = wd k := lseg_eq.mpr ⟨c, fun i' c' hc => hm i' c' (by have := (List.getElem?_eq_some_iff.mp hc).1; omega) hc⟩
        rw [pj_lp3_s]
        unfold Md_is_24
        rw [JStr_length_eq k hk, pj_cS, if_pos (nI_le (by omega) (by omega)), decide_eq_true this]; rfl
      | succ d ih =>
        intro i q hi hq hm
        obtain ⟨q, rfl⟩ : ∃ x, q = x + 1 := ⟨q - 1, by omega⟩
        obtain ⟨x, ex, ech, x256⟩ := wd_ch k hk i (by omega)
        have b := h.2.2 (s + i) (by omega)
        have i1 : nI s + nI i = nI (s + i) := by rw [nI_add]
        have ih2 := ih (i + 1) q (by omega) (by omega)
        have no2 := no (i + 1) q (by omega) (by omega)
        have n10 : ¬ nI 1 = 0 := by decide
        rw [pj_lp3_s]
        generalize pj_lp3 Md_is_24 q = self at ih2 no2 ⊢
        unfold Md_is_24 Md_is_60
        rw [JStr_length_eq k hk, pj_cS, if_neg (by rw [nI_leP (by omega) (by omega)]; omega), if_neg n10, h15, i1, pj_gIn (n := s + i) (by omega) (by decide), nI_clamp (n := s + i) (by omega), JStr_charAt_eq k hk i (by omega), pj_cS, ech, b.2, nI_add, pj_bI]
        by_cases cx : B (s + i) = x
        · rw [if_pos (by rw [cx])]
          refine ih2 (fun i' c' hi' hc => ?_)
          by_cases ci : i' = i
          · subst ci
            rw [ex] at hc
            cases hc
            exact cx
          · exact hm i' c' (by omega) hc
        · rw [if_neg (by rw [nI_eq (by omega) (by omega)]; exact cx), pj_bI]
          exact no2 (fun q => cx ((lseg_eq.mp q).2 i x ex))
    exact run (wd k).length 0 4000 (by omega) (by omega) (fun i' c hi' => by omega)
  · rw [if_neg (by rw [nI_eq (by omega) (by omega)]; exact c)]
    exact no 0 4000 (by decide) (by decide) (fun q => c (lseg_eq.mp q).1)
theorem Md_word_eq (h : mB B n z) (s e : Nat) (he : e ≤ n) (hse : s ≤ e) (h13 : z.1 0 13 = nI e) (h15 : z.1 0 15 = nI s) : Md_word z = some (nI (tokW (lseg B s e)), z) := by
  have sp := fun k hk => Md_is_eq h k hk s e he hse h13 h15
  unfold Md_word Md_nameWord
  rw [sp 1 (by decide), pj_cS, sp 2 (by decide), pj_cS, sp 3 (by decide), pj_cS, sp 4 (by decide), pj_cS, sp 0 (by decide), pj_cS, sp 5 (by decide), pj_cS, sp 6 (by decide), pj_cS, sp 7 (by decide), pj_cS, sp 8 (by decide), pj_cS, sp 9 (by decide), pj_cS, sp 10 (by decide), pj_cS, sp 11 (by decide), pj_cS]
  generalize lseg B s e = l
  unfold tokW
  simp only [ib0, decide_eq_true_eq]
  by_cases c1 : l = wd 1
  · rw [if_pos c1, if_pos c1]
  · rw [if_neg c1, if_neg c1]
    by_cases c2 : l = wd 2
    · rw [if_pos c2, if_pos c2]
    · rw [if_neg c2, if_neg c2]
      by_cases c3 : l = wd 3
      · rw [if_pos c3, if_pos c3]
      · rw [if_neg c3, if_neg c3]
        by_cases c4 : l = wd 4
        · rw [if_pos c4, if_pos c4]
        · rw [if_neg c4, if_neg c4]
          by_cases c0 : l = wd 0
          · rw [if_pos c0, if_pos c0]
          · rw [if_neg c0, if_neg c0]
            by_cases c5 : l = wd 5
            · rw [if_pos c5, if_pos c5]; rfl
            · rw [if_neg c5, if_neg c5]
              by_cases c6 : l = wd 6
              · rw [if_pos c6, if_pos c6]; rfl
              · rw [if_neg c6, if_neg c6]
                by_cases c7 : l = wd 7
                · rw [if_pos c7, if_pos c7]; rfl
                · rw [if_neg c7, if_neg c7]
                  by_cases c8 : l = wd 8
                  · rw [if_pos c8, if_pos c8]; rfl
                  · rw [if_neg c8, if_neg c8]
                    by_cases c9 : l = wd 9
                    · rw [if_pos c9, if_pos c9]; rfl
                    · rw [if_neg c9, if_neg c9]
                      by_cases c10 : l = wd 10
                      · rw [if_pos c10, if_pos c10]; rfl
                      · rw [if_neg c10, if_neg c10]
                        by_cases c11 : l = wd 11
                        · rw [if_pos c11, if_pos c11]; rfl
                        · rw [if_neg c11, if_neg c11]; rfl
theorem n0_blanks (h : mB B n z) : ∀ d p q z', p + d = n → d < q → nf z z' → z'.1 0 13 = nI p → ∃ z2, pj_lp0 Md_next0_0 q z' = Md_next0_39 z2 ∧ nf z z2 ∧ z2.1 0 13 = nI (skp (fun i => isB (sg B n i)) d p)
  | 0, p, q, z', hp, hq, f, h13 => by
    have n4 := h.1
    obtain ⟨q, rfl⟩ : ∃ x, q = x + 1 := ⟨q - 1, by omega⟩
    refine ⟨z', ?_, f, h13⟩
    rw [pj_lp0_s]
    unfold Md_next0_0
    rw [h13, Md_see_eq (h.f f) p (by omega), pj_cS, sg_ge (by omega), if_neg (by decide), h13, Md_see_eq (h.f f) p (by omega), pj_cS, sg_ge (by omega), if_neg (by decide)]
  | d + 1, p, q, z', hp, hq, f, h13 => by
    have n4 := h.1
    obtain ⟨q, rfl⟩ : ∃ x, q = x + 1 := ⟨q - 1, by omega⟩
    have ih := n0_blanks h d (p + 1) q (pj_sI z' 0 13 (nI (p + 1))) (by omega) (by omega) (f.s _ (Or.inl rfl)) rfl
    have b := (h.2.2 p (by omega)).1
    rw [pj_lp0_s]
    generalize pj_lp0 Md_next0_0 q = self at ih ⊢
    unfold Md_next0_0 Md_next0_26 skp
    rw [h13, Md_see_eq (h.f f) p (by omega), pj_cS, h13, Md_see_eq (h.f f) p (by omega), pj_cS, h13, sg_lt (show p < n by omega), sI9_lt b, nI_add, pj_bI]
    unfold isB at ih ⊢
    by_cases c1 : B p = 32
    · have e1 : nI (B p) = nI 32 := by rw [c1]
      rw [if_pos e1, decide_eq_true c1, Bool.true_or, if_pos rfl]
      exact ih
    · have n1 : ¬ nI (B p) = nI 32 := by rw [nI_eq (by omega) (by decide)]; exact c1
      rw [if_neg n1, decide_eq_false c1, Bool.false_or]
      by_cases c2 : B p = 10
      · have e1 : nI (B p) = nI 10 := by rw [c2]
        rw [if_pos e1, decide_eq_true c2, if_pos rfl]
        exact ih
      · have n2 : ¬ nI (B p) = nI 10 := by rw [nI_eq (by omega) (by decide)]; exact c2
        rw [if_neg n2, decide_eq_false c2, if_neg Bool.false_ne_true]
        exact ⟨z', rfl, f, h13⟩
theorem n0_letters (h : mB B n z) {s : Nat} : ∀ d p q z', p + d = n → d < q → nf z z' → z'.1 0 13 = nI p → z'.1 0 15 = nI s → ∃ z2, pj_lp0 Md_next0_76 q z' = Md_next0_103 z2 ∧ nf z z2 ∧ z2.1 0 13 = nI (skp (fun i => isL (sg B n i)) d p) ∧ z2.1 0 15 = nI s
  | 0, p, q, z', hp, hq, f, h13, h15 => by
    have n4 := h.1
    obtain ⟨q, rfl⟩ : ∃ x, q = x + 1 := ⟨q - 1, by omega⟩
    refine ⟨z', ?_, f, h13, h15⟩
    rw [pj_lp0_s]
    unfold Md_next0_76
    rw [h13, Md_see_eq (h.f f) p (by omega), pj_cS, sg_ge (by omega), Md_isLetter_eq _ (Or.inr rfl), pj_cS, if_pos (by decide)]
  | d + 1, p, q, z', hp, hq, f, h13, h15 => by
    have n4 := h.1
    have hB := fun i hi => (h.2.2 i hi).1
    obtain ⟨q, rfl⟩ : ∃ x, q = x + 1 := ⟨q - 1, by omega⟩
    have ih := n0_letters h d (p + 1) q (pj_sI z' 0 13 (nI (p + 1))) (by omega) (by omega) (f.s _ (Or.inl rfl)) rfl h15
    rw [pj_lp0_s]
    generalize pj_lp0 Md_next0_76 q = self at ih ⊢
    unfold Md_next0_76 skp
    rw [h13, Md_see_eq (h.f f) p (by omega), pj_cS, Md_isLetter_eq _ (sg_256 hB p), pj_cS, ib0, h13, nI_add, pj_bI]
    cases isL (sg B n p)
    · rw [if_neg Bool.false_ne_true, if_neg Bool.false_ne_true]
      exact ⟨z', rfl, f, h13, h15⟩
    · rw [if_pos rfl, if_pos rfl]
      exact ih
theorem n0_digits (h : mB B n z) {s : Nat} (hs : s ≤ n) : ∀ d p q z' a, p + d = n → d < q → s ≤ p → nf z z' → z'.1 0 13 = nI p → z'.1 0 15 = nI s → z'.1 0 16 = nI a → ∃ z2 a2, pj_lp0 Md_next0_126 q z' = Md_next0_189 z2 ∧ nf z z2 ∧ z2.1 0 13 = nI (skp (fun i => isD (sg B n i)) d p) ∧ z2.1 0 15 = nI s ∧ z2.1 0 16 = nI a2 ∧ (skp (fun i => isD (sg B n i)) d p ≤ s + 4 → a2 = vlF B (skp (fun i => isD (sg B n i)) d p - p) p a)
  | 0, p, q, z', a, hp, hq, hsp, f, h13, h15, h16 => by
    have n4 := h.1
    obtain ⟨q, rfl⟩ : ∃ x, q = x + 1 := ⟨q - 1, by omega⟩
    refine ⟨z', a, ?_, f, h13, h15, h16, fun _ => ?_⟩
    · rw [pj_lp0_s]
      unfold Md_next0_126
      rw [h13, Md_see_eq (h.f f) p (by omega), pj_cS, sg_ge (by omega), Md_isDigit_eq _ (Or.inr rfl), pj_cS, if_pos (by decide)]
    · show a = vlF B (p - p) p a
      rw [Nat.sub_self]; rfl
  | d + 1, p, q, z', a, hp, hq, hsp, f, h13, h15, h16 => by
    have n4 := h.1
    have hB := fun i hi => (h.2.2 i hi).1
    obtain ⟨q, rfl⟩ : ∃ x, q = x + 1 := ⟨q - 1, by omega⟩
    have rc := fun z' a => n0_digits h hs d (p + 1) q z' a (by omega) (by omega) (by omega)
    have sk := skp_spec (f := fun i => isD (sg B n i)) d (p + 1)
    rw [pj_lp0_s]
    generalize pj_lp0 Md_next0_126 q = self at rc ⊢
    have bb := sg_256 (B := B) (n := n) hB p
    unfold Md_next0_126 Md_next0_176 skp
    rw [h13, Md_see_eq (h.f f) p (by omega), pj_cS, Md_isDigit_eq _ bb, pj_cS, ib0]
    cases cd : isD (sg B n p)
    · rw [if_neg Bool.false_ne_true, if_neg Bool.false_ne_true]
      refine ⟨z', a, rfl, f, h13, h15, h16, fun _ => ?_⟩
      rw [Nat.sub_self]; rfl
    · have b := (h.2.2 p (by omega)).1
      have d48 : 48 ≤ B p := by
        rw [sg_lt (by omega)] at cd
        unfold isD at cd
        rw [Bool.and_eq_true, decide_eq_true_eq] at cd
        exact cd.1
      have i4 : nI s + nI 4 = nI (s + 4) := by rw [nI_add]
      rw [if_pos rfl, if_pos rfl, h15, h13, i4]
      by_cases c4 : s + 4 ≤ p
      · rw [if_pos (nI_le c4 (by omega)), nI_add, pj_bI]
        obtain ⟨z2, a2, e2, f2, g1, g2, g3, g4⟩ := rc (pj_sI z' 0 13 (nI (p + 1))) a (f.s _ (Or.inl rfl)) rfl h15 h16
        exact ⟨z2, a2, e2, f2, g1, g2, g3, fun q => absurd q (by omega)⟩
      · have i1 : nI 10 * nI a + nI (B p) - nI 48 = nI (10 * a + B p - 48) := by rw [pk_mul, nI_add, pk_sub (by omega)]
        have h13b : (pj_sI z' 0 16 (nI (10 * a + B p - 48))).1 0 13 = nI p := h13
        rw [if_neg (by rw [nI_leP (by omega) (by omega)]; exact c4), Md_see_eq (h.f f) p (by omega), pj_cS, sg_lt (show p < n by omega), sI9_lt b, h16, i1, pj_bI, h13b, nI_add, pj_bI]
        obtain ⟨z2, a2, e2, f2, g1, g2, g3, g4⟩ := rc (pj_sI (pj_sI z' 0 16 (nI (10 * a + B p - 48))) 0 13 (nI (p + 1))) (10 * a + B p - 48) ((f.s _ (Or.inr (Or.inr (Or.inr rfl)))).s _ (Or.inl rfl)) rfl h15 rfl
        refine ⟨z2, a2, e2, f2, g1, g2, g3, fun q => ?_⟩
        rw [g4 q]
        have : skp (fun i => isD (sg B n i)) d (p + 1) - p = (skp (fun i => isD (sg B n i)) d (p + 1) - (p + 1)) + 1 := by omega
        rw [this]; rfl
end LM
