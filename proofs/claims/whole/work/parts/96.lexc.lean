/-! the class's tokens -/
def sI9 (c : Nat) : Int32 := if c = 999 then -1 else nI c
def cB (B : Nat → Nat) (n : Nat) (z : pj_S) : Prop := n ≤ 400 ∧ z.1 4 1 = nI n ∧ ∀ i, i < n → B i < 256 ∧ z.1 23 i &&& nI 255 = nI (B i)
section LC
variable {B : Nat → Nat} {n : Nat} {z : pj_S}
theorem sg_256 (h : ∀ i, i < n → B i < 256) (p : Nat) : sg B n p < 256 ∨ sg B n p = 999 := by
  by_cases c : p < n
  · rw [sg_lt c]; exact Or.inl (h p c)
  · exact Or.inr (sg_ge (by omega))
theorem sI9_lt {c : Nat} (h : c < 256) : sI9 c = nI c := by unfold sI9; rw [if_neg (by omega)]
theorem Tape_signAt_eq (h : cB B n z) (p : Nat) (hp : p < 1000) : Tape_signAt (nI p) z = some (sI9 (sg B n p), z) := by
  obtain ⟨h1, h2, h3⟩ := h
  unfold Tape_signAt
  rw [h2, if_neg (nI_pos (by omega))]
  by_cases c : n ≤ p
  · rw [if_pos (nI_le c (by omega)), sg_ge c]; rfl
  · have cp : p < n := by omega
    rw [if_neg (by rw [nI_leP (by omega) (by omega)]; exact c), if_neg (by rw [nI_leP (by omega) (by omega)]; omega), pj_gIn (n := p) (by omega) (by decide), nI_clamp (n := p) (by omega), (h3 p cp).2, sg_lt cp, sI9_lt (h3 p cp).1]
theorem Tape_isLetter_eq (c : Nat) (hc : c < 256 ∨ c = 999) (z : pj_S) : Tape_isLetter (sI9 c) z = some (b2i (isL c), z) := by
  rcases hc with hc | rfl
  · rw [sI9_lt hc]
    unfold Tape_isLetter Tape_isLetter_12 Tape_isLetter_24 isL
    have n65 : ¬ c < 65 → ¬ nI c < nI 65 := fun q => by rw [nI_ltP (by omega) (by decide)]; exact q
    by_cases c1 : c < 97
    · rw [if_pos (nI_lt c1 (by decide)), decide_eq_false (show ¬ 97 ≤ c by omega), Bool.false_and, Bool.false_or]
      by_cases c2 : c < 65
      · rw [if_pos (nI_lt c2 (by decide)), decide_eq_false (show ¬ 65 ≤ c by omega)]; rfl
      · rw [if_neg (n65 c2), decide_eq_true (show 65 ≤ c by omega), Bool.true_and]
        by_cases c3 : 90 < c
        · rw [if_pos (nI_lt c3 (by omega)), decide_eq_false (show ¬ c ≤ 90 by omega)]; rfl
        · rw [if_neg (by rw [nI_ltP (by decide) (by omega)]; exact c3), decide_eq_true (show c ≤ 90 by omega)]; rfl
    · rw [if_neg (by rw [nI_ltP (by omega) (by decide)]; exact c1), decide_eq_true (show 97 ≤ c by omega), Bool.true_and]
      by_cases c4 : c ≤ 122
      · rw [if_pos (nI_le c4 (by decide)), decide_eq_true c4]; rfl
      · rw [if_neg (by rw [nI_leP (by omega) (by decide)]; exact c4), decide_eq_false c4, if_neg (n65 (by omega)), if_pos (nI_lt (show 90 < c by omega) (by omega)), decide_eq_false (show ¬ c ≤ 90 by omega), Bool.and_false]; rfl
  · rfl
theorem Tape_isDigit_eq (c : Nat) (hc : c < 256 ∨ c = 999) (z : pj_S) : Tape_isDigit (sI9 c) z = some (b2i (isD c), z) := by
  rcases hc with hc | rfl
  · rw [sI9_lt hc]
    unfold Tape_isDigit isD
    by_cases c1 : c < 48
    · rw [if_pos (nI_lt c1 (by decide)), decide_eq_false (show ¬ 48 ≤ c by omega)]; rfl
    · rw [if_neg (by rw [nI_ltP (by omega) (by decide)]; exact c1), decide_eq_true (show 48 ≤ c by omega), Bool.true_and]
      by_cases c3 : 57 < c
      · rw [if_pos (nI_lt c3 (by omega)), decide_eq_false (show ¬ c ≤ 57 by omega)]; rfl
      · rw [if_neg (by rw [nI_ltP (by decide) (by omega)]; exact c3), decide_eq_true (show c ≤ 57 by omega)]; rfl
  · rfl
theorem Tape_blanks_run (h : cB B n z) : ∀ d p q, p + d = n → d < q → pj_lp1 Tape_behindBlanks_2 q (nI p) z = some (nI (skp (fun i => isB (sg B n i)) d p), z)
  | 0, p, q, hp, hq => by
    obtain ⟨h1, h2, h3⟩ := h
    obtain ⟨q, rfl⟩ : ∃ x, q = x + 1 := ⟨q - 1, by omega⟩
    rw [pj_lp1_s]
    unfold Tape_behindBlanks_2
    rw [h2, if_pos (nI_le (by omega) (by omega))]; rfl
  | d + 1, p, q, hp, hq => by
    have n4 := h.1
    obtain ⟨q, rfl⟩ : ∃ x, q = x + 1 := ⟨q - 1, by omega⟩
    have ih := Tape_blanks_run h d (p + 1) q (by omega) (by omega)
    rw [pj_lp1_s]
    generalize pj_lp1 Tape_behindBlanks_2 q = self at ih ⊢
    unfold Tape_behindBlanks_2 Tape_behindBlanks_30 skp
    have b := (h.2.2 p (by omega)).1
    rw [h.2.1, if_neg (by rw [nI_leP (by omega) (by omega)]; omega), Tape_signAt_eq h p (by omega), pj_cS, Tape_signAt_eq h p (by omega), pj_cS, sg_lt (show p < n by omega), sI9_lt b, nI_add, pj_bI, ih]
    unfold isB
    by_cases c1 : B p = 32
    · have e1 : nI (B p) = nI 32 := by rw [c1]
      rw [if_pos e1, decide_eq_true c1, Bool.true_or, if_pos rfl]
    · have n1 : ¬ nI (B p) = nI 32 := by rw [nI_eq (by omega) (by decide)]; exact c1
      rw [if_neg n1, decide_eq_false c1, Bool.false_or]
      by_cases c2 : B p = 10
      · have e1 : nI (B p) = nI 10 := by rw [c2]
        rw [if_pos e1, decide_eq_true c2, if_pos rfl]
      · have n2 : ¬ nI (B p) = nI 10 := by rw [nI_eq (by omega) (by decide)]; exact c2
        rw [if_neg n2, decide_eq_false c2, if_neg Bool.false_ne_true]
theorem Tape_behindBlanks_eq (h : cB B n z) (p : Nat) (hp : p ≤ n) : Tape_behindBlanks (nI p) z = some (nI (lrun B n isB p), z) := by
  have n4 := h.1
  exact Tape_blanks_run h (n - p) p 4000 (by omega) (by omega)
theorem Tape_token_run (h : cB B n z) (w : Bool) : ∀ d p q, p + d = n → d < q → pj_lp2 Tape_behindToken_30 q (b2i w) (nI p) z = some (nI (skp (fun i => (if w then isL else isD) (sg B n i)) d p), z)
  | 0, p, q, hp, hq => by
    obtain ⟨h1, h2, h3⟩ := h
    obtain ⟨q, rfl⟩ : ∃ x, q = x + 1 := ⟨q - 1, by omega⟩
    rw [pj_lp2_s]
    unfold Tape_behindToken_30
    rw [h2, if_pos (nI_le (by omega) (by omega))]; rfl
  | d + 1, p, q, hp, hq => by
    have n4 := h.1
    obtain ⟨q, rfl⟩ : ∃ x, q = x + 1 := ⟨q - 1, by omega⟩
    have ih := Tape_token_run h w d (p + 1) q (by omega) (by omega)
    rw [pj_lp2_s]
    generalize pj_lp2 Tape_behindToken_30 q = self at ih ⊢
    unfold Tape_behindToken_30 Tape_behindToken_67 skp
    have b := sg_256 (B := B) (n := n) (fun i hi => (h.2.2 i hi).1) p
    rw [h.2.1, if_neg (by rw [nI_leP (by omega) (by omega)]; omega), Tape_signAt_eq h p (by omega), pj_cS, pj_cS, Tape_isDigit_eq _ b, Tape_isLetter_eq _ b, pj_cS, pj_cS, nI_add, pj_bI, ih, ib0, ib0, ib0]
    cases w
    · rw [if_neg Bool.false_ne_true, if_neg Bool.false_ne_true]
      cases isD (sg B n p)
      · rw [if_neg Bool.false_ne_true, if_neg Bool.false_ne_true]
      · rw [if_pos rfl, if_pos rfl]
    · rw [if_pos rfl, if_pos rfl]
      cases isL (sg B n p)
      · rw [if_neg Bool.false_ne_true, if_neg Bool.false_ne_true]
      · rw [if_pos rfl, if_pos rfl]
theorem Tape_behindToken_eq (h : cB B n z) (s : Nat) (hs : s ≤ n) : Tape_behindToken (nI s) z = some (nI (if sg B n s = 999 then s + 1 else enP B n s), z) := by
  have n4 := h.1
  have b := sg_256 (B := B) (n := n) (fun i hi => (h.2.2 i hi).1) s
  have r1 := Tape_token_run h true (n - s) s 4000 (by omega) (by omega)
  have r2 := Tape_token_run h false (n - s) s 4000 (by omega) (by omega)
  unfold Tape_behindToken Tape_behindToken_28 enP lrun
  rw [Tape_signAt_eq h s (by omega), pj_cS, Tape_isLetter_eq _ b, pj_cS, Tape_signAt_eq h s (by omega), pj_cS, Tape_isDigit_eq _ b, pj_cS, ib0, ib0, nI_add]
  by_cases c9 : sg B n s = 999
  · rw [if_pos c9, c9]
    rfl
  · rw [if_neg c9, if_neg c9]
    cases cl : isL (sg B n s)
    · rw [if_neg Bool.false_ne_true, if_neg Bool.false_ne_true]
      cases cd : isD (sg B n s)
      · rw [if_neg Bool.false_ne_true, if_neg Bool.false_ne_true]
      · rw [if_pos rfl, if_pos rfl]; exact r2
    · rw [if_pos rfl, if_pos rfl]; exact r1
theorem Tape_spells_eq (h : cB B n z) (k : Nat) (hk : k < 12) (s e : Nat) (he : e ≤ n) (hse : s ≤ e) : Tape_spells k (nI s) (nI e) z = some (b2i (decide (lseg B s e = wd k)), z) := by
  have n4 := h.1
  obtain ⟨-, w6⟩ := wd_len k hk
  unfold Tape_spells
  rw [JStr_length_eq k hk, pj_cS, pk_sub hse]
  by_cases c : e - s = (wd k).length
  · rw [if_pos (by rw [c])]
    have run : ∀ d i q, i + d = (wd k).length → d < q → (∀ i' c, i' < i → (wd k)[i']? = some c → B (s + i') = c) → pj_lp3 Tape_spells_15 q k (nI s) (nI i) z = some (b2i (decide (lseg B s e = wd k)), z) := fun d => by
      induction d with
      | zero =>
        intro i q hi hq hm
        obtain ⟨q, rfl⟩ : ∃ x, q = x + 1 := ⟨q - 1, by omega⟩
        have : lseg B s e = wd k := lseg_eq.mpr ⟨c, fun i' c' hc => hm i' c' (by have := (List.getElem?_eq_some_iff.mp hc).1; omega) hc⟩
        rw [pj_lp3_s]
        unfold Tape_spells_15
        rw [JStr_length_eq k hk, pj_cS, if_pos (nI_le (by omega) (by omega)), decide_eq_true this]; rfl
      | succ d ih =>
        intro i q hi hq hm
        obtain ⟨q, rfl⟩ : ∃ x, q = x + 1 := ⟨q - 1, by omega⟩
        obtain ⟨x, ex, ech, x256⟩ := wd_ch k hk i (by omega)
        have b := (h.2.2 (s + i) (by omega)).1
        have i1 : nI s + nI i = nI (s + i) := by rw [nI_add]
        have ih2 := ih (i + 1) q (by omega) (by omega)
        rw [pj_lp3_s]
        generalize pj_lp3 Tape_spells_15 q = self at ih2 ⊢
        unfold Tape_spells_15
        rw [JStr_length_eq k hk, pj_cS, if_neg (by rw [nI_leP (by omega) (by omega)]; omega), i1, Tape_signAt_eq h _ (by omega), pj_cS, JStr_charAt_eq k hk i (by omega), pj_cS, ech, sg_lt (show s + i < n by omega), sI9_lt b]
        by_cases cx : B (s + i) = x
        · rw [if_pos (by rw [cx]), nI_add, pj_bI]
          refine ih2 (fun i' c' hi' hc => ?_)
          by_cases ci : i' = i
          · subst ci
            rw [ex] at hc
            cases hc
            exact cx
          · exact hm i' c' (by omega) hc
        · have ne : ¬ lseg B s e = wd k := fun q => cx ((lseg_eq.mp q).2 i x ex)
          rw [if_neg (by rw [nI_eq (by omega) (by omega)]; exact cx), decide_eq_false ne]; rfl
    exact run (wd k).length 0 4000 (by omega) (by omega) (fun i' c hi' => by omega)
  · have ne : ¬ lseg B s e = wd k := fun q => c (lseg_eq.mp q).1
    rw [if_neg (by rw [nI_eq (by omega) (by omega)]; exact c), decide_eq_false ne]; rfl
theorem Reader_wordOf_eq (h : cB B n z) (s e : Nat) (he : e ≤ n) (hse : s ≤ e) : Reader_wordOf (nI s) (nI e) z = some (cT (tokW (lseg B s e)), z) := by
  have sp := fun k hk => Tape_spells_eq h k hk s e he hse
  unfold Reader_wordOf Reader_traitWordOf
  rw [sp 0 (by decide), pj_cS, sp 1 (by decide), pj_cS, sp 2 (by decide), pj_cS, sp 3 (by decide), pj_cS, sp 4 (by decide), pj_cS, sp 5 (by decide), pj_cS, sp 6 (by decide), pj_cS, sp 7 (by decide), pj_cS, sp 8 (by decide), pj_cS, sp 9 (by decide), pj_cS, sp 10 (by decide), pj_cS, sp 11 (by decide), pj_cS]
  generalize lseg B s e = l
  unfold tokW
  simp only [ib0, decide_eq_true_eq]
  by_cases c0 : l = wd 0
  · subst c0; rfl
  · rw [if_neg c0, if_neg c0]
    by_cases c1 : l = wd 1
    · rw [if_pos c1, if_pos c1]; rfl
    · rw [if_neg c1, if_neg c1]
      by_cases c2 : l = wd 2
      · rw [if_pos c2, if_pos c2]; rfl
      · rw [if_neg c2, if_neg c2]
        by_cases c3 : l = wd 3
        · rw [if_pos c3, if_pos c3]; rfl
        · rw [if_neg c3, if_neg c3]
          by_cases c4 : l = wd 4
          · rw [if_pos c4, if_pos c4]; rfl
          · rw [if_neg c4, if_neg c4]
            by_cases c5 : l = wd 5
            · rw [if_pos c5, if_pos c5]; rfl
            · rw [if_neg c5, if_neg c5]
              by_cases c6 : l = wd 6
              · rw [if_pos c6, if_pos c6]; rfl
              · rw [if_neg c6, if_neg c6]
                by_cases c7 : l = wd 7
                · rw [if_pos c7, if_pos c7]; rfl
                · rw [if_neg c7, if_neg c7]
                  by_cases c8 : l = wd 8
                  · rw [if_pos c8, if_pos c8]; rfl
                  · rw [if_neg c8, if_neg c8]
                    by_cases c9 : l = wd 9
                    · rw [if_pos c9, if_pos c9]; rfl
                    · rw [if_neg c9, if_neg c9]
                      by_cases c10 : l = wd 10
                      · rw [if_pos c10, if_pos c10]; rfl
                      · rw [if_neg c10, if_neg c10]
                        by_cases c11 : l = wd 11
                        · rw [if_pos c11, if_pos c11]; rfl
                        · rw [if_neg c11, if_neg c11]; rfl
end LC
