/-! the model reads -/
def MT (T V P en : Nat → Nat) (j : Nat) (z : pj_S) : Prop := z.1 0 13 = nI (en j) ∧ z.1 0 14 = nI (T j) ∧ z.1 0 15 = nI (P j) ∧ (T j = 2 → z.1 0 16 = nI (V j))
/-- the tokens as the model has them -/
def mTk (T V P en : Nat → Nat) (J : Nat) (z0 : pj_S) : Prop := J ≤ 400 ∧ (T J = 0 ∨ T J = 1) ∧ (∀ j, T j < 1000) ∧ ∀ j z, j < J → z.1 6 = z0.1 6 → z.1 0 12 = z0.1 0 12 → MT T V P en j z → ∃ z2, Md_next0 z = some ((), z2) ∧ MT T V P en (j + 1) z2 ∧ (∀ c, c ≠ 0 → z2.1 c = z.1 c) ∧ ∀ k, k ≠ 13 → k ≠ 14 → k ≠ 15 → k ≠ 16 → z2.1 0 k = z.1 0 k
def lok (ops : List pa_Op) (f : Nat → Int32) : Prop := ∀ i o, ops[i]? = some o → f (2 * i) = nI o.1 ∧ ((o.1 = 0 ∨ o.1 = 16) → f (2 * i + 1) = o.2)
def frM (z0 z : pj_S) : Prop := (∀ c, c ≠ 0 → c ≠ 4 → c ≠ 5 → z.1 c = z0.1 c) ∧ ∀ k, k ≠ 10 → k ≠ 11 → k ≠ 13 → k ≠ 14 → k ≠ 15 → k ≠ 16 → k ≠ 17 → k ≠ 18 → k ≠ 20 → z.1 0 k = z0.1 0 k
def MS (T V P en : Nat → Nat) (z0 : pj_S) (ln : Nat) (fl : Nat → Int32) (dp j : Nat) (ops : List pa_Op) (z : pj_S) : Prop := frM z0 z ∧ MT T V P en j z ∧ (z.1 0 17 = z0.1 0 17 ∧ z.1 0 18 = z0.1 0 18) ∧ z.1 0 10 = nI ln ∧ z.1 4 = fl ∧ z.1 0 20 = nI dp ∧ z.1 0 11 = nI ops.length ∧ lok ops (z.1 5)
def MF (P : Nat → Nat) (z0 : pj_S) (k jf : Nat) (z : pj_S) : Prop := frM z0 z ∧ z.1 0 17 = nI k ∧ z.1 0 18 = nI (P jf)
def mRes (T V P en : Nat → Nat) (J : Nat) (z0 : pj_S) (ln : Nat) (fl : Nat → Int32) (dp : Nat) (ops : List pa_Op) (r : tRes) (x : Option (Int32 × pj_S)) : Prop := match r with
  | .ok (j2, u) => ∃ z2, x = some (nI 1, z2) ∧ MS T V P en z0 ln fl dp j2 (ops ++ u) z2 ∧ j2 ≤ J
  | .error (k, jf) => ∃ z2, x = some (nI 0, z2) ∧ MF P z0 k jf z2
section RM
variable {T V P en : Nat → Nat} {J : Nat} {z0 : pj_S} {ln : Nat} {fl : Nat → Int32} {dp j : Nat} {ops : List pa_Op} {z : pj_S}
theorem rm_nxt (hk : mTk T V P en J z0) (h : MS T V P en z0 ln fl dp j ops z) (hj : j < J) : ∃ z2, Md_next0 z = some ((), z2) ∧ MS T V P en z0 ln fl dp (j + 1) ops z2 := by
  obtain ⟨f1, f2, f3, f4, f5, f6, f7, f8⟩ := h
  obtain ⟨z2, e2, m2, c2, k2⟩ := hk.2.2.2 j z hj (f1.1 6 (by decide) (by decide) (by decide)) (f1.2 12 (by decide) (by decide) (by decide) (by decide) (by decide) (by decide) (by decide) (by decide) (by decide)) f2
  refine ⟨z2, e2, ⟨fun c a b d => (c2 c a).trans (f1.1 c a b d), fun k a1 a2 a3 a4 a5 a6 a7 a8 a9 => (k2 k a3 a4 a5 a6).trans (f1.2 k a1 a2 a3 a4 a5 a6 a7 a8 a9)⟩, m2, ⟨?_, ?_⟩, ?_, ?_, ?_, ?_, ?_⟩
  · rw [k2 17 (by decide) (by decide) (by decide) (by decide)]; exact f3.1
  · rw [k2 18 (by decide) (by decide) (by decide) (by decide)]; exact f3.2
  · rw [k2 10 (by decide) (by decide) (by decide) (by decide)]; exact f4
  · rw [c2 4 (by decide)]; exact f5
  · rw [k2 20 (by decide) (by decide) (by decide) (by decide)]; exact f6
  · rw [k2 11 (by decide) (by decide) (by decide) (by decide)]; exact f7
  · rw [c2 5 (by decide)]; exact f8
theorem rm_bad (h : MS T V P en z0 ln fl dp j ops z) (k : Nat) : ∃ z2, Md_bad (nI k) z = some (nI 0, z2) ∧ MF P z0 k j z2 := by
  obtain ⟨f1, f2, f3, f4, f5, f6, f7, f8⟩ := h
  unfold Md_bad
  rw [pj_bI, pj_bI]
  refine ⟨_, rfl, ⟨fun c a b d => ?_, fun k a1 a2 a3 a4 a5 a6 a7 a8 a9 => ?_⟩, rfl, ?_⟩
  · rw [ag_n _ _ _ _ a, ag_n _ _ _ _ a]; exact f1.1 c a b d
  · rw [ag_1, upd_ne a8, ag_1, upd_ne a7]; exact f1.2 k a1 a2 a3 a4 a5 a6 a7 a8 a9
  · rw [ag_1, upd_s, ag_1, upd_ne (by decide)]; exact f2.2.2.1
theorem rm_lay (h : MS T V P en z0 ln fl dp j ops z) (hl : ops.length < 400) (k : Nat) (v : Int32) (o : pa_Op) (h1 : o.1 = k) (h2 : (o.1 = 0 ∨ o.1 = 16) → v = o.2) : ∃ z2, Md_lay (nI k) v z = some ((), z2) ∧ MS T V P en z0 ln fl dp j (ops ++ [o]) z2 := by
  obtain ⟨f1, f2, f3, f4, f5, f6, f7, f8⟩ := h
  unfold Md_lay
  have e1 : ∀ (x : Nat) (y : Int32), (pj_sI z 5 x y).1 0 11 = nI ops.length := fun x y => by rw [ag_n _ _ _ _ (by decide)]; exact f7
  have e2 : ∀ (x x2 : Nat) (y y2 : Int32), (pj_sI (pj_sI z 5 x y) 5 x2 y2).1 0 11 = nI ops.length := fun x x2 y y2 => by rw [ag_n _ _ _ _ (by decide)]; exact e1 x y
  have i1 : nI 2 * nI ops.length = nI (2 * ops.length) := by rw [pk_mul]
  have i2 : nI (2 * ops.length) + nI 1 = nI (2 * ops.length + 1) := by rw [nI_add]
  rw [f7, i1, pj_gIn (n := 2 * ops.length) (by omega) (by decide), nI_clamp (n := 2 * ops.length) (by omega), pj_bI, e1, i1, i2, pj_gIn (n := 2 * ops.length + 1) (by omega) (by decide), nI_clamp (n := 2 * ops.length + 1) (by omega), pj_bI, e2, nI_add, pj_bI]
  refine ⟨_, rfl, ⟨fun c a b d => ?_, fun k a1 a2 a3 a4 a5 a6 a7 a8 a9 => ?_⟩, f2, f3, f4, f5, f6, ?_, fun i p hi => ?_⟩
  · rw [ag_n _ _ _ _ a, ag_n _ _ _ _ d, ag_n _ _ _ _ d]; exact f1.1 c a b d
  · rw [ag_1, upd_ne a2, ag_n _ _ _ _ (by decide), ag_n _ _ _ _ (by decide)]; exact f1.2 k a1 a2 a3 a4 a5 a6 a7 a8 a9
  · rw [List.length_append]; rfl
  · rw [ag_n _ _ _ _ (by decide), ag_1, ag_1]
    by_cases c : i < ops.length
    · rw [List.getElem?_append_left c] at hi
      rw [upd_ne (by omega), upd_ne (by omega), upd_ne (by omega), upd_ne (by omega)]; exact f8 i p hi
    · have : i = ops.length := by
        have := (List.getElem?_eq_some_iff.mp hi).1
        rw [List.length_append] at this
        have : i < ops.length + 1 := this
        omega
      subst this
      rw [List.getElem?_append_right (Nat.le_refl _), Nat.sub_self] at hi
      have hi : some o = some p := hi
      cases hi
      rw [upd_ne (by omega), upd_s, upd_s, h1]
      exact ⟨rfl, fun q => h2 (by rw [h1]; exact q)⟩
theorem lt_Jm (hk : mTk T V P en J z0) (hj : j ≤ J) {t : Nat} (h : T j = t) (ht : 2 ≤ t) : j < J := by
  by_cases c : j = J
  · subst c
    have := hk.2.1
    omega
  · omega
theorem rm_tok (hk : mTk T V P en J z0) (h : MS T V P en z0 ln fl dp j ops z) (t : Nat) (ht : t < 1000) : (z.1 0 14 = nI t) = (T j = t) := by
  rw [h.2.1.2.1]
  have := hk.2.2.1 j
  exact propext (nI_eq (by omega) (by omega))
theorem rm_unit (hk : mTk T V P en J z0) (h : MS T V P en z0 ln fl dp j ops z) (hj : j ≤ J) (hl : ops.length ≤ j) : mRes T V P en J z0 ln fl dp ops (unitP T V j) (Md_unit z) := by
  have J4 := hk.1
  have T1 := hk.2.2.1 j
  have e14 := h.2.1.2.1
  unfold unitP Md_unit
  rw [Md_isIn_eq, pj_cS, nI_toInt (n := 41) (by decide), nI_toInt (n := 47) (by decide), e14]
  have isx : isin (nI (T j)) ((41 : Nat) : Int) ((47 : Nat) : Int) = decide (41 ≤ T j ∧ T j ≤ 47) := by
    unfold isin
    rw [nI_toInt (by omega), Bool.eq_iff_iff]
    simp
    omega
  rw [isx]
  by_cases c2 : T j = 2
  · have hj1 := lt_Jm hk hj c2 (by decide)
    have b0 : decide (41 ≤ T j ∧ T j ≤ 47) = false := decide_eq_false (by omega)
    rw [if_pos c2, if_pos (by rw [c2]), b0]
    unfold Md_unit_30 Md_unit_46
    rw [if_pos (by decide), h.2.1.2.2.2 c2]
    obtain ⟨z2, e2, s2⟩ := rm_lay h (by omega) 0 (nI (V j)) (0, nI (V j)) rfl (fun _ => rfl)
    obtain ⟨z3, e3, s3⟩ := rm_nxt hk s2 hj1
    rw [e2, pj_cS, e3, pj_cS]
    exact ⟨z3, rfl, s3, hj1⟩
  · have n2 : ¬ nI (T j) = nI 2 := by rw [nI_eq (by omega) (by decide)]; exact c2
    rw [if_neg c2, if_neg n2, ib0]
    by_cases c4 : 41 ≤ T j ∧ T j ≤ 47
    · have hj1 := lt_Jm hk hj rfl (show 2 ≤ T j by omega)
      rw [if_pos c4, if_pos (decide_eq_true c4), decide_eq_true c4]
      unfold Md_unit_30 Md_unit_46
      rw [if_neg (by decide), e14, pk_sub (by omega)]
      obtain ⟨z2, e2, s2⟩ := rm_lay h (by omega) (T j - 40) (z.1 0 16) (T j - 40, 0) rfl (fun q => absurd q (by show ¬ (T j - 40 = 0 ∨ T j - 40 = 16); omega))
      obtain ⟨z3, e3, s3⟩ := rm_nxt hk s2 hj1
      rw [e2, pj_cS, e3, pj_cS]
      exact ⟨z3, rfl, s3, hj1⟩
    · rw [if_neg c4, if_neg (by rw [decide_eq_false c4]; exact Bool.false_ne_true)]
      obtain ⟨z2, e2, s2⟩ := rm_bad h 1
      rw [e2, pj_cS]
      exact ⟨z2, rfl, s2⟩
/-! a sum -/
def KS (w : Option Nat) (q : Nat) (r : Int32) (z : pj_S) : Option (Int32 × pj_S) :=
  if r = (0) then pj_g (pj_bo (nI 0)) (some ((nI 0), z)) else (match w with
    | none => pj_lp0 Md_sumUp_9 q z
    | some o => pj_c (Md_lay (nI o) (nI 0) z) fun _ z8 => pj_lp0 Md_sumUp_9 q z8)
theorem rm_wait {w : Option Nat} (hw : ∀ o, w = some o → o = 13 ∨ o = 14) (h : MS T V P en z0 ln fl dp j ops z) (hl : ops.length + wn w ≤ 400) (q : Nat) : ∃ z2, KS w q (nI 1) z = pj_lp0 Md_sumUp_9 q z2 ∧ MS T V P en z0 ln fl dp j (ops ++ wl w) z2 := by
  unfold KS
  rw [if_neg (by decide)]
  cases w with
  | none => exact ⟨z, rfl, by rw [show wl none = [] from rfl, List.append_nil]; exact h⟩
  | some o =>
    have hl : ops.length + 1 ≤ 400 := hl
    obtain ⟨z2, e2, s2⟩ := rm_lay h (by omega) o (nI 0) (o, 0) rfl (fun q => by
      have q : o = 0 ∨ o = 16 := q
      have := hw o rfl
      omega)
    exact ⟨z2, by dsimp only; rw [e2, pj_cS], s2⟩
theorem rm_sumL (hk : mTk T V P en J z0) (hV : ∀ j, V j < 2 ^ 31) : ∀ n j acc w p q z, (∀ o, w = some o → o = 13 ∨ o = 14) → MS T V P en z0 ln fl dp j (ops ++ acc) z → j ≤ J → J < n + j → n < p → n < q → p ≤ 4000 → q ≤ 4000 → (ops ++ acc).length + wn w ≤ j →
    mRes T V P en J z0 ln fl dp ops (sumL T V n j acc w) (pj_c (pj_lp0 Md_product_9 p z) (KS w q))
  | 0, j, acc, w, p, q, z, hw, h, hj, hn, hp, hq, hp4, hq4, hl => by omega
  | n + 1, j, acc, w, p, q, z, hw, h, hj, hn, hp, hq, hp4, hq4, hl => by
    have J4 := hk.1
    obtain ⟨p, rfl⟩ : ∃ x, p = x + 1 := ⟨p - 1, by omega⟩
    have rc := fun j acc w p q z => rm_sumL hk hV n j acc w p q z
    have tk := rm_tok hk h
    have fail : ∀ z3, KS w q (nI 0) z3 = some (nI 0, z3) := fun z3 => by unfold KS; rw [if_pos (by decide)]; rfl
    -- the product ends; + or -
    have ex : T j ≠ 142 → T j ≠ 147 → pj_lp0 Md_product_9 (p + 1) z = some (nI 1, z) := fun a1 a2 => by
      rw [pj_lp0_s]
      unfold Md_product_9
      rw [if_neg (by rw [tk 142 (by decide)]; exact a1), if_neg (by rw [tk 147 (by decide)]; exact a2)]; rfl
    have plus : ∀ o, (o = 13 ∨ o = 14) → T j = 130 + o + (o - 13) → mRes T V P en J z0 ln fl dp ops (match unitP T V (j + 1) with
          | .error e => .error e
          | .ok (j2, u) => sumL T V n j2 (acc ++ wl w ++ u) (some o)) (pj_c (pj_lp0 Md_product_9 (p + 1) z) (KS w q)) := fun o ho hT => by
      have hj1 := lt_Jm hk hj hT (by omega)
      obtain ⟨q, rfl⟩ : ∃ x, q = x + 1 := ⟨q - 1, by omega⟩
      obtain ⟨z2, e2, s2⟩ := rm_wait hw h (by omega) (q + 1)
      obtain ⟨z3, e3, s3⟩ := rm_nxt hk s2 hj1
      have l2 : (ops ++ acc ++ wl w).length = (ops ++ acc).length + wn w := by rw [List.length_append]; cases w <;> rfl
      have un := rm_unit hk s3 (by omega) (by omega)
      rw [ex (by omega) (by omega), pj_cS, e2, pj_lp0_s]
      have tk2 := rm_tok hk s2
      have go : Md_sumUp_9 (pj_lp0 Md_sumUp_9 q) z2 = Md_sumUp_46 (pj_lp0 Md_sumUp_9 q) (nI o) z2 := by
        unfold Md_sumUp_9 Md_sumUp_29
        rcases ho with rfl | rfl
        · rw [if_pos (by rw [tk2 143 (by decide)]; exact hT), if_pos (by rw [tk2 143 (by decide)]; exact hT)]
        · rw [if_neg (by rw [tk2 143 (by decide), hT]; decide), if_pos (by rw [tk2 145 (by decide)]; exact hT), if_neg (by rw [tk2 143 (by decide), hT]; decide)]
      rw [go]
      unfold Md_sumUp_46 Md_product
      rw [e3, pj_cS]
      cases eu : unitP T V (j + 1) with
      | error e =>
        rw [eu] at un
        obtain ⟨k, jf⟩ := e
        obtain ⟨z4, e4, s4⟩ := un
        rw [e4, pj_cS, if_pos (by decide)]
        exact ⟨z4, rfl, s4⟩
      | ok pp =>
        obtain ⟨j2, u⟩ := pp
        rw [eu] at un
        obtain ⟨z4, e4, s4, j4⟩ := un
        obtain ⟨rfl, -, q3⟩ := unitP_len eu
        rw [e4, pj_cS, if_neg (by decide)]
        have lst : ops ++ acc ++ wl w ++ u = ops ++ (acc ++ wl w ++ u) := by simp only [List.append_assoc]
        have l5 : (ops ++ acc ++ wl w ++ u).length = (ops ++ acc).length + wn w + 1 := by rw [List.length_append, l2, q3]
        rw [lst] at s4 l5
        exact rc _ _ (some o) 4000 q z4 (fun o' ho' => by cases ho'; exact ho) s4 j4 (by omega) (by omega) (by omega) (by omega) (by omega) (by rw [l5]; show _ + 1 ≤ _; omega)
    unfold sumL
    by_cases c1 : T j = 143
    · rw [if_pos c1]; exact plus 13 (Or.inl rfl) c1
    · rw [if_neg c1]
      by_cases c2 : T j = 145
      · rw [if_pos c2]; exact plus 14 (Or.inr rfl) c2
      · rw [if_neg c2]
        by_cases c3 : T j = 142
        · have hj1 := lt_Jm hk hj c3 (by decide)
          obtain ⟨z3, e3, s3⟩ := rm_nxt hk h hj1
          have un := rm_unit hk s3 (by omega) (by omega)
          have go : pj_lp0 Md_product_9 (p + 1) z = Md_product_44 (pj_lp0 Md_product_9 p) (nI 0) z := by
            rw [pj_lp0_s]
            unfold Md_product_9 Md_product_29
            rw [if_pos (by rw [tk 142 (by decide)]; exact c3), if_neg (by rw [tk 147 (by decide), c3]; decide)]
          rw [if_pos c3, go]
          unfold Md_product_44
          rw [e3, pj_cS, if_pos (by decide)]
          cases eu : unitP T V (j + 1) with
          | error e =>
            rw [eu] at un
            obtain ⟨k, jf⟩ := e
            obtain ⟨z4, e4, s4⟩ := un
            rw [e4, pj_cS, if_pos (by decide)]
            exact ⟨z4, fail z4, s4⟩
          | ok pp =>
            obtain ⟨j2, u⟩ := pp
            rw [eu] at un
            obtain ⟨z4, e4, s4, j4⟩ := un
            obtain ⟨rfl, -, q3⟩ := unitP_len eu
            have l4 : (ops ++ acc ++ u).length = (ops ++ acc).length + 1 := by rw [List.length_append, q3]
            obtain ⟨z5, e5, s5⟩ := rm_lay s4 (by omega) 15 (nI 0) (15, 0) rfl (fun q => absurd q (by show ¬ ((15 : Nat) = 0 ∨ (15 : Nat) = 16); omega))
            rw [e4, pj_cS, if_neg (by decide), e5, pj_cS]
            unfold Md_product_112
            have lst : ops ++ acc ++ u ++ [((15, 0) : pa_Op)] = ops ++ (acc ++ u ++ [(15, 0)]) := by simp only [List.append_assoc]
            have l5 : (ops ++ acc ++ u ++ [((15, 0) : pa_Op)]).length = (ops ++ acc).length + 2 := by rw [List.length_append, l4]; rfl
            rw [lst] at s5 l5
            exact rc _ _ w p q z5 hw s5 j4 (by omega) (by omega) (by omega) (by omega) (by omega) (by rw [l5]; omega)
        · rw [if_neg c3]
          by_cases c4 : T j = 147
          · have hj1 := lt_Jm hk hj c4 (by decide)
            obtain ⟨z3, e3, s3⟩ := rm_nxt hk h hj1
            have go : pj_lp0 Md_product_9 (p + 1) z = Md_product_44 (pj_lp0 Md_product_9 p) (nI 1) z := by
              rw [pj_lp0_s]
              unfold Md_product_9 Md_product_29
              rw [if_neg (by rw [tk 142 (by decide)]; exact c3), if_pos (by rw [tk 147 (by decide)]; exact c4), if_pos (by rw [tk 147 (by decide)]; exact c4)]
            rw [if_pos c4, go]
            unfold Md_product_44 divP
            have n10 : ¬ nI 1 = 0 := by decide
            rw [e3, pj_cS, if_neg n10, pj_bI]
            have tk3 := rm_tok hk s3 2 (by decide)
            by_cases d2 : T (j + 1) = 2
            · have hj2 := lt_Jm hk (show j + 1 ≤ J by omega) d2 (by decide)
              have e16 := s3.2.1.2.2.2 d2
              rw [if_pos d2, if_pos (tk3.mpr d2), e16]
              by_cases v0 : V (j + 1) = 0
              · have v1 : nI (V (j + 1)) = 0 := by rw [v0]; rfl
                rw [if_pos v0, if_pos v1]
                obtain ⟨z4, e4, s4⟩ := rm_bad s3 2
                unfold Md_product_76
                rw [e4, pj_cS]
                exact ⟨z4, fail z4, s4⟩
              · have v1 : ¬ nI (V (j + 1)) = 0 := nI_ne0 (by omega) (hV _)
                rw [if_neg v0, if_neg v1]
                obtain ⟨z4, e4, s4⟩ := rm_nxt hk s3 hj2
                obtain ⟨z5, e5, s5⟩ := rm_lay s4 (by omega) 16 (nI (V (j + 1))) (16, nI (V (j + 1))) rfl (fun _ => rfl)
                rw [e4, pj_cS, e5, pj_cS]
                unfold Md_product_112
                have l5 : (ops ++ acc ++ [((16, nI (V (j + 1))) : pa_Op)]).length = (ops ++ acc).length + 1 := by rw [List.length_append]; rfl
                rw [List.append_assoc] at s5 l5
                exact rc _ _ w p q z5 hw s5 (by omega) (by omega) (by omega) (by omega) (by omega) (by omega) (by rw [l5]; omega)
            · rw [if_neg d2, if_neg (fun e => d2 (tk3.mp e))]
              obtain ⟨z4, e4, s4⟩ := rm_bad s3 1
              unfold Md_product_66
              rw [e4, pj_cS]
              exact ⟨z4, fail z4, s4⟩
          · rw [if_neg c4, ex c3 c4, pj_cS]
            obtain ⟨q, rfl⟩ : ∃ x, q = x + 1 := ⟨q - 1, by omega⟩
            obtain ⟨z2, e2, s2⟩ := rm_wait hw h (by omega) (q + 1)
            have tk2 := rm_tok hk s2
            rw [e2, pj_lp0_s]
            unfold Md_sumUp_9
            rw [if_neg (by rw [tk2 143 (by decide)]; exact c1), if_neg (by rw [tk2 145 (by decide)]; exact c2)]
            rw [List.append_assoc] at s2
            exact ⟨z2, rfl, s2, hj⟩
theorem rm_sum (hk : mTk T V P en J z0) (hV : ∀ j, V j < 2 ^ 31) (h : MS T V P en z0 ln fl dp j ops z) (hj : j ≤ J) (hl : ops.length ≤ j) : mRes T V P en J z0 ln fl dp ops (sumP T V j) (Md_sumUp z) := by
  have J4 := hk.1
  have un := rm_unit hk h hj hl
  unfold sumP Md_sumUp Md_product
  cases eu : unitP T V j with
  | error e =>
    rw [eu] at un
    obtain ⟨k, jf⟩ := e
    obtain ⟨z3, e3, s3⟩ := un
    rw [e3, pj_cS, if_pos (by decide)]
    exact ⟨z3, rfl, s3⟩
  | ok p =>
    obtain ⟨j2, u⟩ := p
    rw [eu] at un
    obtain ⟨z3, e3, s3, j3⟩ := un
    obtain ⟨rfl, -, q3⟩ := unitP_len eu
    rw [e3, pj_cS, if_neg (by decide)]
    exact rm_sumL hk hV 401 (j + 1) u none 4000 4000 z3 (fun o ho => by cases ho) s3 j3 (by omega) (by decide) (by decide) (by decide) (by decide) (by rw [List.length_append, q3]; show _ + 1 + 0 ≤ j + 1; omega)
end RM
