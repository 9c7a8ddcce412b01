/-! the model's steps -/
def pm_stk (l : List Int32) (z z2 : pj_S) : Prop := (∀ c, c ≠ 7 → z2.1 c = z.1 c) ∧ stk l (z2.1 7)
theorem Md_st_push {l : List Int32} {z z2 : pj_S} (h : pm_stk l z z2) (hl : l.length < 420) (v : Int32) (s5 : Int32 → Int32 → Int32 → pj_S → Option (Int32 × pj_S)) (J : Int32) (j : Nat) :
    ∃ z3, Md_comesTo_72 s5 J (nI l.length) (nI j) v (nI l.length) z2 = s5 J (nI (v :: l).length) (nI (j + 1)) z3 ∧ pm_stk (v :: l) z z3 := by
  unfold Md_comesTo_72 Md_comesTo_160
  rw [pj_gIn (n := l.length) hl (by decide), nI_clamp (n := l.length) (by omega), pj_bI, nI_add, pj_bI, nI_add, pj_bI]
  refine ⟨_, rfl, fun c hc => ?_, ?_⟩
  · rw [ag_n _ _ _ _ hc]; exact h.1 c hc
  · rw [ag_1]; exact ⟨upd_s _ _ _, stk_upd l (Nat.le_refl _) h.2⟩
theorem Md_comes_op {l : List Int32} {z z2 : pj_S} (h : pm_stk l z z2) {J j o : Nat} (hj : j < J) (hJ : J ≤ 400) (h1 : z.1 1 (670 + 2 * j) = nI o) (s5 : Int32 → Int32 → Int32 → pj_S → Option (Int32 × pj_S)) (h2 : Nat) :
    Md_comesTo_5 s5 (nI J) (nI h2) (nI j) z2 = (
    if (nI 13) ≤ (nI o) then (
      if (nI o) = (nI 16) then (
        pj_g (pj_in ((nI h2) - (nI 1)) 420) <|
        pj_g (pj_nz (z.1 1 (671 + 2 * j))) <|
        pj_g (pj_in ((nI h2) - (nI 1)) 420) <|
        pj_b (pj_sI z2 7 (Int32.toNatClampNeg ((nI h2) - (nI 1))) ((z2.1 7 (Int32.toNatClampNeg ((nI h2) - (nI 1)))) / (z.1 1 (671 + 2 * j)))) fun z9 =>
        Md_comesTo_160 s5 (nI J) (nI h2) (nI j) z9
      ) else (
        if (nI o) = (nI 20) then (
          pj_g (pj_in ((nI h2) - (nI 1)) 420) <|
          pj_g (pj_in ((nI h2) - (nI 1)) 420) <|
          pj_b (pj_sI z2 7 (Int32.toNatClampNeg ((nI h2) - (nI 1))) ((nI 1) - (z2.1 7 (Int32.toNatClampNeg ((nI h2) - (nI 1)))))) fun z8 =>
          Md_comesTo_160 s5 (nI J) (nI h2) (nI j) z8
        ) else (
          pj_b ((nI h2) + (-1 : Int32)) fun x3 =>
          pj_g (pj_in (x3 - (nI 1)) 420) <|
          pj_g (pj_in x3 420) <|
          pj_c (Md_bothM (nI o) (z2.1 7 (Int32.toNatClampNeg (x3 - (nI 1)))) (z2.1 7 (Int32.toNatClampNeg x3)) z2) fun r6 z5 =>
          pj_g (pj_in (x3 - (nI 1)) 420) <|
          pj_b (pj_sI z5 7 (Int32.toNatClampNeg (x3 - (nI 1))) r6) fun z7 =>
          Md_comesTo_160 s5 (nI J) x3 (nI j) z7
        )
      )
    ) else (
      if (nI o) = (0) then (
        Md_comesTo_72 s5 (nI J) (nI h2) (nI j) (z.1 1 (671 + 2 * j)) (nI h2) z2
      ) else (
        pj_g (pj_in (nI o) 8) <|
        Md_comesTo_72 s5 (nI J) (nI h2) (nI j) (z2.1 8 (Int32.toNatClampNeg (nI o))) (nI h2) z2
      )
    )) := by
  have r1 := h.1 1 (by decide)
  unfold Md_comesTo_5
  have i : (nI 670) + ((nI 2) * (nI j)) = nI (670 + 2 * j) := by rw [pk_mul, nI_add]
  have i2 : nI (670 + 2 * j) + nI 1 = nI (671 + 2 * j) := by rw [nI_add]; congr 1; omega
  rw [if_neg (by rw [nI_leP (by omega) (by omega)]; omega), i, i2, pj_gIn (n := 670 + 2 * j) (by omega) (by decide), nI_clamp (n := 670 + 2 * j) (by omega), r1, h1, pj_bI, pj_gIn (n := 671 + 2 * j) (by omega) (by decide), nI_clamp (n := 671 + 2 * j) (by omega), pj_bI]
theorem Md_st_num {l : List Int32} {z z2 : pj_S} (h : pm_stk l z z2) (hl : l.length < 420) {J j n : Nat} (hj : j < J) (hJ : J ≤ 400) (h1 : z.1 1 (670 + 2 * j) = nI 0) :
    ∃ z3, pj_lp3 Md_comesTo_5 (n + 1) (nI J) (nI l.length) (nI j) z2 = pj_lp3 Md_comesTo_5 n (nI J) (nI (z.1 1 (671 + 2 * j) :: l).length) (nI (j + 1)) z3 ∧ pm_stk (z.1 1 (671 + 2 * j) :: l) z z3 := by
  rw [pj_lp3_s, Md_comes_op h hj hJ h1, if_neg (by decide), if_pos (by decide)]
  exact Md_st_push h hl _ _ _ _
theorem Md_st_trait {l : List Int32} {z z2 : pj_S} (h : pm_stk l z z2) (hl : l.length < 420) {J j n k : Nat} (k1 : 1 ≤ k) (k7 : k ≤ 7) (hj : j < J) (hJ : J ≤ 400) (h1 : z.1 1 (670 + 2 * j) = nI k) :
    ∃ z3, pj_lp3 Md_comesTo_5 (n + 1) (nI J) (nI l.length) (nI j) z2 = pj_lp3 Md_comesTo_5 n (nI J) (nI (z.1 8 k :: l).length) (nI (j + 1)) z3 ∧ pm_stk (z.1 8 k :: l) z z3 := by
  have x0 : ¬ nI k = 0 := nI_ne0 (by omega) (by omega)
  rw [pj_lp3_s, Md_comes_op h hj hJ h1, if_neg (by rw [nI_leP (by omega) (by omega)]; omega), if_neg x0, pj_gIn (n := k) (by omega) (by decide), nI_clamp (n := k) (by omega), h.1 8 (by decide)]
  exact Md_st_push h hl _ _ _ _
theorem Md_st_two {l : List Int32} {x y : Int32} {z z2 : pj_S} (h : pm_stk (y :: x :: l) z z2) (hl : l.length < 418) {J j n o : Nat} (ho : isTwo o) (hj : j < J) (hJ : J ≤ 400) (h1 : z.1 1 (670 + 2 * j) = nI o) :
    ∃ z3, pj_lp3 Md_comesTo_5 (n + 1) (nI J) (nI (y :: x :: l).length) (nI j) z2 = pj_lp3 Md_comesTo_5 n (nI J) (nI (bth o x y :: l).length) (nI (j + 1)) z3 ∧ pm_stk (bth o x y :: l) z z3 := by
  have c : nI 13 ≤ nI o ∧ ¬ nI o = nI 16 ∧ ¬ nI o = nI 20 := by rcases ho with rfl | rfl | rfl | rfl | rfl | rfl | rfl | rfl <;> decide
  obtain ⟨a, b1, b2, b3⟩ := h
  have b1 : z2.1 7 (l.length + 1) = y := b1
  have i1 : nI (y :: x :: l).length + (-1 : Int32) = nI (l.length + 1) := by
    have : nI (y :: x :: l).length = nI (l.length + 1 + 1) := rfl
    rw [this, show (-1 : Int32) = -(nI 1) by decide, ← Int32.sub_eq_add_neg, pk_sub (by omega), Nat.add_sub_cancel]
  have i2 : nI (l.length + 1) - nI 1 = nI l.length := by rw [pk_sub (by omega)]; rfl
  rw [pj_lp3_s, Md_comes_op (l := y :: x :: l) ⟨a, b1, b2, b3⟩ hj hJ h1, if_pos c.1, if_neg c.2.1, if_neg c.2.2, i1, pj_bI, i2, pj_gIn (n := l.length) (by omega) (by decide), pj_gIn (n := l.length + 1) (by omega) (by decide), nI_clamp (n := l.length) (by omega), nI_clamp (n := l.length + 1) (by omega), b1, b2, Md_both_eq ho, pj_cS, pj_gIn (n := l.length) (by omega) (by decide), pj_bI]
  unfold Md_comesTo_160
  rw [nI_add, pj_bI]
  refine ⟨_, rfl, fun c hc => ?_, ?_⟩
  · rw [ag_n _ _ _ _ hc]; exact a c hc
  · rw [ag_1]; exact ⟨upd_s _ _ _, stk_upd l (Nat.le_refl _) b3⟩
theorem Md_st_div {l : List Int32} {x : Int32} {z z2 : pj_S} (h : pm_stk (x :: l) z z2) (hl : l.length < 419) {J j n : Nat} (hj : j < J) (hJ : J ≤ 400) (h1 : z.1 1 (670 + 2 * j) = nI 16) (hy : 1 ≤ (z.1 1 (671 + 2 * j)).toInt) :
    ∃ z3, pj_lp3 Md_comesTo_5 (n + 1) (nI J) (nI (x :: l).length) (nI j) z2 = pj_lp3 Md_comesTo_5 n (nI J) (nI (x / z.1 1 (671 + 2 * j) :: l).length) (nI (j + 1)) z3 ∧ pm_stk (x / z.1 1 (671 + 2 * j) :: l) z z3 := by
  obtain ⟨a, b1, b2⟩ := h
  have i2 : nI (x :: l).length - nI 1 = nI l.length := by show nI (l.length + 1) - nI 1 = _; rw [pk_sub (by omega)]; rfl
  have y0 : ¬ z.1 1 (671 + 2 * j) = 0 := fun e => by rw [e] at hy; exact absurd hy (by decide)
  rw [pj_lp3_s, Md_comes_op (l := x :: l) ⟨a, b1, b2⟩ hj hJ h1, if_pos (by decide), if_pos rfl, i2, pj_gIn (n := l.length) (by omega) (by decide), nI_clamp (n := l.length) (by omega), b1, pj_gNz' y0, pj_gIn (n := l.length) (by omega) (by decide), pj_bI]
  unfold Md_comesTo_160
  rw [nI_add, pj_bI]
  refine ⟨_, rfl, fun c hc => ?_, ?_⟩
  · rw [ag_n _ _ _ _ hc]; exact a c hc
  · rw [ag_1]; exact ⟨upd_s _ _ _, stk_upd l (Nat.le_refl _) b2⟩
theorem Md_st_not {l : List Int32} {x : Int32} {z z2 : pj_S} (h : pm_stk (x :: l) z z2) (hl : l.length < 419) {J j n : Nat} (hj : j < J) (hJ : J ≤ 400) (h1 : z.1 1 (670 + 2 * j) = nI 20) :
    ∃ z3, pj_lp3 Md_comesTo_5 (n + 1) (nI J) (nI (x :: l).length) (nI j) z2 = pj_lp3 Md_comesTo_5 n (nI J) (nI ((nI 1 - x) :: l).length) (nI (j + 1)) z3 ∧ pm_stk ((nI 1 - x) :: l) z z3 := by
  obtain ⟨a, b1, b2⟩ := h
  have i2 : nI (x :: l).length - nI 1 = nI l.length := by show nI (l.length + 1) - nI 1 = _; rw [pk_sub (by omega)]; rfl
  rw [pj_lp3_s, Md_comes_op (l := x :: l) ⟨a, b1, b2⟩ hj hJ h1, if_pos (by decide), if_neg (by decide), if_pos rfl, i2, pj_gIn (n := l.length) (by omega) (by decide), pj_gIn (n := l.length) (by omega) (by decide), nI_clamp (n := l.length) (by omega), b1, pj_bI]
  unfold Md_comesTo_160
  rw [nI_add, pj_bI]
  refine ⟨_, rfl, fun c hc => ?_, ?_⟩
  · rw [ag_n _ _ _ _ hc]; exact a c hc
  · rw [ag_1]; exact ⟨upd_s _ _ _, stk_upd l (Nat.le_refl _) b2⟩
/-! both together -/
def cRun (h1 s : Int32) (zc : pj_S) (m j : Nat) (l l' : List Int32) : Prop := ∀ n z2, pc_stk l zc z2 → ∃ z3, pj_lp3 Law_oddsOf_8 (n + m) h1 s (nI j) z2 = pj_lp3 Law_oddsOf_8 n h1 s (nI (j + m)) z3 ∧ pc_stk l' zc z3
def mRun (J : Nat) (zm : pj_S) (m j : Nat) (l l' : List Int32) : Prop := ∀ n z2, pm_stk l zm z2 → ∃ z3, pj_lp3 Md_comesTo_5 (n + m) (nI J) (nI l.length) (nI j) z2 = pj_lp3 Md_comesTo_5 n (nI J) (nI l'.length) (nI (j + m)) z3 ∧ pm_stk l' zm z3
theorem cRun.tr {h1 s : Int32} {zc : pj_S} {m m2 j : Nat} {l l' l2 : List Int32} (a : cRun h1 s zc m j l l') (b : cRun h1 s zc m2 (j + m) l' l2) : cRun h1 s zc (m + m2) j l l2 := fun n z2 h => by
  obtain ⟨z3, e3, s3⟩ := a (n + m2) z2 h
  obtain ⟨z4, e4, s4⟩ := b n z3 s3
  refine ⟨z4, ?_, s4⟩
  rw [show n + (m + m2) = n + m2 + m by omega, e3, e4, Nat.add_assoc]
theorem mRun.tr {J : Nat} {zm : pj_S} {m m2 j : Nat} {l l' l2 : List Int32} (a : mRun J zm m j l l') (b : mRun J zm m2 (j + m) l' l2) : mRun J zm (m + m2) j l l2 := fun n z2 h => by
  obtain ⟨z3, e3, s3⟩ := a (n + m2) z2 h
  obtain ⟨z4, e4, s4⟩ := b n z3 s3
  refine ⟨z4, ?_, s4⟩
  rw [show n + (m + m2) = n + m2 + m by omega, e3, e4, Nat.add_assoc]
section OPS
variable {h1 s : Int32} {fa : Nat → Int32} {zc zm : pj_S} {L J : Nat}
theorem cRun_1 (hl : zc.1 9 2 = nI L) (hL : L ≤ 400) {j : Nat} (hj : j < L) {x : Int32} (hx : zc.1 29 j = x) (x1 : x ≠ -18) (x2 : x ≠ -19) {l l' : List Int32} (h : ∀ z2, pc_stk l zc z2 → ∃ z3, Law_reckon x h1 s z2 = some ((), z3) ∧ pc_stk l' zc z3) : cRun h1 s zc 1 j l l' := fun n z2 hs => by
  obtain ⟨z3, e, s3⟩ := h z2 hs
  exact ⟨z3, Law_odds_step (L := L) (by rw [hs.2.2.1 2 (by decide)]; exact hl) hj hL (by rw [hs.1 29 (by decide) (by decide)]; exact hx) x1 x2 e, s3⟩
theorem op_two (hl : zc.1 9 2 = nI L) (hL : L ≤ 400) (hJ : J ≤ 400) {o : Nat} {v : Int32} (ot : isTwo o) {x y : Int32} {l base : List Int32} (h63 : (l ++ base).length < 63) (h418 : l.length < 418) {j k : Nat}
    (hc : ∀ i u, (pa_enc (o, v))[i]? = some u → zc.1 29 (j + i) = u) (hj : j + (pa_enc (o, v)).length ≤ L) (hk : k < J) (w1 : zm.1 1 (670 + 2 * k) = nI o) :
    cRun h1 s zc (pa_enc (o, v)).length j (y :: x :: l ++ base) (bth o x y :: l ++ base) ∧ mRun J zm 1 k (y :: x :: l) (bth o x y :: l) := by
  rw [pa_enc_two ot] at hc hj ⊢
  obtain ⟨-, -, -, c1, c2⟩ := cTwo_c ot
  exact ⟨cRun_1 hl hL (by have : j + 1 ≤ L := hj
                          omega) (hc 0 _ rfl) c1 c2 (fun z2 hs => Law_reckon_two hs h63 ot h1 s), fun n z2 hs => Md_st_two (n := n) hs h418 ot hk hJ w1⟩
theorem op_step (hT : ∀ k, 1 ≤ k → k ≤ 7 → ∀ z2, (∀ c, c ≠ 9 → c ≠ 30 → z2.1 c = zc.1 c) → z2.2 = zc.2 → Law_traitOf (-10 - nI k) h1 s z2 = some (fa k, z2)) (hM : ∀ k, 1 ≤ k → k ≤ 7 → zm.1 8 k = fa k)
    (hl : zc.1 9 2 = nI L) (hL : L ≤ 400) (hJ : J ≤ 400) {o : pa_Op} {st st' : List Bool} (h : pa_so o st = some st') {a base : List Int32} (ha : srt st a) (hb : base.length ≤ 1) (h40 : st.length < 40) {j k : Nat}
    (hc : ∀ i v, (pa_enc o)[i]? = some v → zc.1 29 (j + i) = v) (hj : j + (pa_enc o).length ≤ L) (hk : k < J) (w1 : zm.1 1 (670 + 2 * k) = nI o.1) (w2 : (o.1 = 0 ∨ o.1 = 16) → zm.1 1 (671 + 2 * k) = o.2) :
    ∃ a', srt st' a' ∧ cRun h1 s zc (pa_enc o).length j (a ++ base) (a' ++ base) ∧ mRun J zm 1 k a a' := by
  have al := srt_len ha
  have abl : (a ++ base).length ≤ 40 := by rw [List.length_append]; omega
  obtain ⟨o, v⟩ := o
  rcases pa_so_cases h with ⟨c, cv, rfl⟩ | ⟨c1, c7, rfl⟩ | ⟨c, cv, r, rfl, rfl⟩ | ⟨c, r, rfl, rfl⟩ | ⟨c, r, rfl, rfl⟩ | ⟨c, r, rfl, rfl⟩ | ⟨c, r, rfl, rfl⟩
  · have c : o = 0 := c
    subst c
    have cv : 0 ≤ v.toInt := cv
    refine ⟨v :: a, ⟨fun x => by simp at x, ha⟩, ?_, fun n z2 hs => ?_⟩
    · have x1 : v ≠ -18 := fun e => by subst e; exact absurd cv (by decide)
      have x2 : v ≠ -19 := fun e => by subst e; exact absurd cv (by decide)
      exact cRun_1 hl hL (by have : j + 1 ≤ L := hj
                             omega) (hc 0 v rfl) x1 x2 (fun z2 hs => Law_reckon_num hs (by omega) v h1 s cv)
    · have := Md_st_num (n := n) hs (by omega) hk hJ w1
      rw [w2 (Or.inl rfl)] at this
      exact this
  · have c1 : 1 ≤ o := c1
    have c7 : o ≤ 7 := c7
    have en : pa_enc (o, v) = [-10 - nI o] := by
      unfold pa_enc
      rw [if_neg (by show ¬ o = 0; omega), if_pos c7]
    rw [en] at hc hj ⊢
    refine ⟨fa o :: a, ⟨fun x => by simp at x, ha⟩, ?_, fun n z2 hs => ?_⟩
    · have x : (-10 - nI o) ≠ -18 ∧ (-10 - nI o) ≠ -19 := by
        have : o = 1 ∨ o = 2 ∨ o = 3 ∨ o = 4 ∨ o = 5 ∨ o = 6 ∨ o = 7 := by omega
        rcases this with rfl | rfl | rfl | rfl | rfl | rfl | rfl <;> decide
      exact cRun_1 hl hL (by have : j + 1 ≤ L := hj
                             omega) (hc 0 _ rfl) x.1 x.2 (fun z2 hs => Law_reckon_trait hs (by omega) c1 c7 h1 s (hT o c1 c7 z2 hs.1 hs.2.1))
    · have := Md_st_trait (n := n) hs (by omega) c1 c7 hk hJ w1
      rw [hM o c1 c7] at this
      exact this
  · have c : o = 16 := c
    subst c
    have cv : 1 ≤ v.toInt := cv
    obtain ⟨x, l, rfl, -, hl2⟩ := srt_c ha
    have al : l.length + 1 = r.length + 1 := al
    have h40 : r.length + 1 < 40 := h40
    have hbl : (l ++ base).length ≤ 40 := by rw [List.length_append]; omega
    refine ⟨x / v :: l, ⟨fun x => by simp at x, hl2⟩, ?_, fun n z2 hs => ?_⟩
    · have x1 : v ≠ -18 := fun e => by subst e; exact absurd cv (by decide)
      have x2 : v ≠ -19 := fun e => by subst e; exact absurd cv (by decide)
      have hj : j + 2 ≤ L := hj
      exact (cRun_1 (l := x :: (l ++ base)) hl hL (by omega) (hc 0 v rfl) x1 x2 (fun z2 hs => Law_reckon_num hs (by show (l ++ base).length + 1 < 64; omega) v h1 s (by omega))).tr
        (cRun_1 hl hL (by omega) (hc 1 (-4) rfl) (by decide) (by decide) (fun z2 hs => Law_reckon_div (l := l ++ base) hs (by omega) cv h1 s))
    · have e2 : zm.1 1 (671 + 2 * k) = v := w2 (Or.inr rfl)
      have := Md_st_div (n := n) hs (by omega) hk hJ w1 (by rw [e2]; exact cv)
      rw [e2] at this
      exact this
  · have c : o = 20 := c
    subst c
    obtain ⟨x, l, rfl, hx, hl2⟩ := srt_c ha
    have al : l.length + 1 = r.length + 1 := al
    have h40 : r.length + 1 < 40 := h40
    have hbl : (l ++ base).length ≤ 40 := by rw [List.length_append]; omega
    have hx := hx rfl
    refine ⟨(nI 1 - x) :: l, ⟨fun _ => by rcases hx with rfl | rfl <;> decide, hl2⟩, ?_, fun n z2 hs => ?_⟩
    · exact cRun_1 hl hL (by have : j + 1 ≤ L := hj
                             omega) (hc 0 (-10) rfl) (by decide) (by decide) (fun z2 hs => Law_reckon_not (l := l ++ base) hs (by omega) hx h1 s)
    · exact Md_st_not (n := n) hs (by omega) hk hJ w1
  · have ot : isTwo o := by
      unfold isTwo
      rcases c with c | c | c
      · exact Or.inl c
      · exact Or.inr (Or.inl c)
      · exact Or.inr (Or.inr (Or.inl c))
    obtain ⟨y, l1, rfl, -, hl1⟩ := srt_c ha
    obtain ⟨x, l, rfl, -, hl2⟩ := srt_c hl1
    have := op_two (h1 := h1) (s := s) (v := v) (base := base) hl hL hJ ot (x := x) (y := y) (l := l) (by simp only [List.length_cons, List.length_append] at abl ⊢; omega) (by simp only [List.length_cons] at al; simp only [List.length_cons] at h40; omega) hc hj hk w1
    exact ⟨bth o x y :: l, ⟨fun x => by simp at x, hl2⟩, this⟩
  · have ot : isTwo o := by
      unfold isTwo
      rcases c with c | c | c
      · exact Or.inr (Or.inr (Or.inr (Or.inl c)))
      · exact Or.inr (Or.inr (Or.inr (Or.inr (Or.inl c))))
      · exact Or.inr (Or.inr (Or.inr (Or.inr (Or.inr (Or.inl c)))))
    obtain ⟨y, l1, rfl, -, hl1⟩ := srt_c ha
    obtain ⟨x, l, rfl, -, hl2⟩ := srt_c hl1
    have := op_two (h1 := h1) (s := s) (v := v) (base := base) hl hL hJ ot (x := x) (y := y) (l := l) (by simp only [List.length_cons, List.length_append] at abl ⊢; omega) (by simp only [List.length_cons] at al; simp only [List.length_cons] at h40; omega) hc hj hk w1
    exact ⟨bth o x y :: l, ⟨fun _ => bth_t c, hl2⟩, this⟩
  · have ot : isTwo o := by
      unfold isTwo
      rcases c with c | c
      · exact Or.inr (Or.inr (Or.inr (Or.inr (Or.inr (Or.inr (Or.inl c))))))
      · exact Or.inr (Or.inr (Or.inr (Or.inr (Or.inr (Or.inr (Or.inr c))))))
    obtain ⟨y, l1, rfl, hy, hl1⟩ := srt_c ha
    obtain ⟨x, l, rfl, hx, hl2⟩ := srt_c hl1
    have := op_two (h1 := h1) (s := s) (v := v) (base := base) hl hL hJ ot (x := x) (y := y) (l := l) (by simp only [List.length_cons, List.length_append] at abl ⊢; omega) (by simp only [List.length_cons] at al; simp only [List.length_cons] at h40; omega) hc hj hk w1
    exact ⟨bth o x y :: l, ⟨fun _ => bth_l c (hx rfl) (hy rfl), hl2⟩, this⟩
/-- ops in a row -/
theorem ops_run (hT : ∀ k, 1 ≤ k → k ≤ 7 → ∀ z2, (∀ c, c ≠ 9 → c ≠ 30 → z2.1 c = zc.1 c) → z2.2 = zc.2 → Law_traitOf (-10 - nI k) h1 s z2 = some (fa k, z2)) (hM : ∀ k, 1 ≤ k → k ≤ 7 → zm.1 8 k = fa k)
    (hl : zc.1 9 2 = nI L) (hL : L ≤ 400) (hJ : J ≤ 400) {base : List Int32} (hb : base.length ≤ 1) : ∀ (l : List pa_Op) (st st' : List Bool) (a : List Int32) (j k : Nat), pa_sos l st = some st' → srt st a →
    (∀ i v, (l.flatMap pa_enc)[i]? = some v → zc.1 29 (j + i) = v) → j + (l.flatMap pa_enc).length ≤ L → (∀ i o, l[i]? = some o → zm.1 1 (670 + 2 * (k + i)) = nI o.1 ∧ ((o.1 = 0 ∨ o.1 = 16) → zm.1 1 (671 + 2 * (k + i)) = o.2)) → k + l.length ≤ J →
    ∃ a', srt st' a' ∧ cRun h1 s zc (l.flatMap pa_enc).length j (a ++ base) (a' ++ base) ∧ mRun J zm l.length k a a'
  | [], st, st', a, j, k, h, ha, _, _, _, _ => by
    have h : some st = some st' := h
    cases h
    exact ⟨a, ha, fun n z2 hs => ⟨z2, rfl, hs⟩, fun n z2 hs => ⟨z2, rfl, hs⟩⟩
  | o :: l, st, st', a, j, k, h, ha, hc, hj, hw, hk => by
    unfold pa_sos at h
    split at h
    · rename_i h40
      cases e1 : pa_so o st with
      | none => rw [e1] at h; cases h
      | some st2 =>
        rw [e1] at h
        have h : pa_sos l st2 = some st' := h
        rw [List.flatMap_cons] at hc hj ⊢
        rw [List.length_append] at hj ⊢
        rw [List.length_cons] at hk ⊢
        obtain ⟨w1, w2⟩ := hw 0 o rfl
        obtain ⟨a2, s2, c2, m2⟩ := op_step (base := base) hT hM hl hL hJ e1 ha hb h40 (j := j) (k := k) (fun i v hi => hc i v (by rw [List.getElem?_append_left (List.getElem?_eq_some_iff.mp hi).1]; exact hi)) (by omega) (by omega) w1 w2
        obtain ⟨a3, s3, c3, m3⟩ := ops_run hT hM hl hL hJ hb l st2 st' a2 (j + (pa_enc o).length) (k + 1) h s2 (fun i v hi => by
          rw [Nat.add_assoc]
          exact hc _ v (by rw [List.getElem?_append_right (by omega), Nat.add_sub_cancel_left]; exact hi)) (by omega) (fun i p hi => by
          have := hw (i + 1) p hi
          rw [show k + (i + 1) = k + 1 + i by omega] at this
          exact this) (by omega)
        refine ⟨a3, s3, c2.tr c3, ?_⟩
        rw [Nat.add_comm l.length 1]
        exact m2.tr m3
    · cases h
end OPS
