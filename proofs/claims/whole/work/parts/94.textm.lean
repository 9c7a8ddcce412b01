/-! the model reads a line, a text -/
def flok (pr : List pa_Ln) (fl : Nat → Int32) : Prop := ∀ i, i < pr.length → fl (3 * i) = nI ((pr.take i).flatMap pa_ops).length ∧ fl (3 * i + 1) = nI (((pr.take i).flatMap pa_ops).length + ((pr[i]?.map (·.1)).getD []).length) ∧ fl (3 * i + 2) = nI ((pr.take (i + 1)).flatMap pa_ops).length
section TM
variable {T V P en : Nat → Nat} {J : Nat} {z0 : pj_S} {ln : Nat} {fl : Nat → Int32} {dp : Nat} {ops : List pa_Op}
theorem rm_fl {j : Nat} {z : pj_S} (h : MS T V P en z0 ln fl dp j ops z) (k : Nat) (v : Int32) : MS T V P en z0 ln (upd fl k v) dp j ops (pj_sI z 4 k v) := by
  obtain ⟨f1, f2, f3, f4, f5, f6, f7, f8⟩ := h
  exact ⟨⟨fun c a b d => by rw [ag_n _ _ _ _ b]; exact f1.1 c a b d, fun k a1 a2 a3 a4 a5 a6 a7 a8 a9 => f1.2 k a1 a2 a3 a4 a5 a6 a7 a8 a9⟩, f2, f3, f4, by rw [ag_1, f5], f6, f7, f8⟩
theorem rm_ln {j : Nat} {z : pj_S} (h : MS T V P en z0 ln fl dp j ops z) (k : Nat) : MS T V P en z0 k fl dp j ops (pj_sI z 0 10 (nI k)) := by
  obtain ⟨f1, f2, f3, f4, f5, f6, f7, f8⟩ := h
  exact ⟨⟨fun c a b d => by rw [ag_n _ _ _ _ a]; exact f1.1 c a b d, fun k a1 a2 a3 a4 a5 a6 a7 a8 a9 => by rw [ag_1, upd_ne a1]; exact f1.2 k a1 a2 a3 a4 a5 a6 a7 a8 a9⟩, f2, f3, rfl, f5, f6, f7, f8⟩
def fl3 (fl : Nat → Int32) (ln a b c : Nat) : Nat → Int32 := upd (upd (upd fl (3 * ln) (nI a)) (3 * ln + 1) (nI b)) (3 * ln + 2) (nI c)
theorem rm_line (hk : mTk T V P en J z0) (hV : ∀ j, V j < 2 ^ 31) {j : Nat} {z : pj_S} (h : MS T V P en z0 ln fl dp j ops z) (hj : j ≤ J) (hl : ops.length ≤ j) (hn : ln ≤ 16) :
    if T j = 20 then (if ln = 16 then ∃ z2, Md_aLine z = some (nI 0, z2) ∧ MF P z0 3 j z2 else (match lineP T V j with
      | .error (k, jf) => ∃ z2, Md_aLine z = some (nI 0, z2) ∧ MF P z0 k jf z2
      | .ok (j2, x) => ∃ z2, Md_aLine z = some (nI 1, z2) ∧ MS T V P en z0 ln (fl3 fl ln ops.length (ops.length + x.1.length) (ops ++ pa_ops x).length) 0 j2 (ops ++ pa_ops x) z2 ∧ j2 ≤ J ∧ (ops ++ pa_ops x).length ≤ j2 ∧ j < j2))
    else ∃ z2, Md_aLine z = some (nI 0, z2) ∧ MF P z0 1 j z2 := by
  have J4 := hk.1
  have tk := rm_tok hk h
  unfold Md_aLine
  by_cases c1 : T j = 20
  · have hj1 := lt_Jm hk hj c1 (by decide)
    rw [if_pos c1, if_pos ((tk 20 (by decide)).mpr c1), h.2.2.2.1]
    by_cases c16 : ln = 16
    · rw [if_pos c16, if_pos (by rw [c16])]
      obtain ⟨z4, e4, s4⟩ := rm_bad h 3
      rw [e4, pj_cS]
      exact ⟨z4, rfl, s4⟩
    · rw [if_neg c16, if_neg (by rw [nI_eq (by omega) (by decide)]; exact c16), pj_bI]
      obtain ⟨z2, e2, s2⟩ := rm_nxt hk (rm_dp h 0) hj1
      have i3 : nI 3 * nI ln = nI (3 * ln) := by rw [pk_mul]
      rw [e2, pj_cS, s2.2.2.2.1, i3, pj_gIn (n := 3 * ln) (by omega) (by decide), nI_clamp (n := 3 * ln) (by omega), s2.2.2.2.2.2.2.1, pj_bI]
      have s3 := rm_fl s2 (3 * ln) (nI ops.length)
      have un := rm_sum hk hV s3 (by omega) (by omega)
      unfold lineP
      cases eu : sumP T V (j + 1) with
      | error e =>
        rw [eu] at un
        obtain ⟨k, jf⟩ := e
        obtain ⟨z4, e4, s4⟩ := un
        rw [e4, pj_cS, if_pos (by decide)]
        exact ⟨z4, rfl, s4⟩
      | ok p =>
        obtain ⟨j2, u⟩ := p
        rw [eu] at un
        obtain ⟨z4, e4, s4, j4⟩ := un
        have q2 := sumP_len eu
        have lu := len_enc u
        have l4 : (ops ++ u).length = ops.length + u.length := List.length_append
        have i31 : nI (3 * ln) + nI 1 = nI (3 * ln + 1) := by rw [nI_add]
        rw [e4, pj_cS, if_neg (by decide), s4.2.2.2.1, i3, i31, pj_gIn (n := 3 * ln + 1) (by omega) (by decide), nI_clamp (n := 3 * ln + 1) (by omega), s4.2.2.2.2.2.2.1, pj_bI]
        have s5 := rm_fl s4 (3 * ln + 1) (nI (ops ++ u).length)
        have tk5 := rm_tok hk s5
        -- the end of a line
        have tail : ∀ (z6 : pj_S) (j6 : Nat) (t : Option (List pa_Op)), MS T V P en z0 ln (upd (upd fl (3 * ln) (nI ops.length)) (3 * ln + 1) (nI (ops ++ u).length)) 0 j6 (ops ++ u ++ t.getD []) z6 → j6 ≤ J → j < j6 → (ops ++ u ++ t.getD []).length ≤ j6 →
            (T j6 = 159 → ∃ z2, Md_aLine_101 z6 = some (nI 1, z2) ∧ MS T V P en z0 ln (fl3 fl ln ops.length (ops.length + u.length) (ops ++ pa_ops (u, t)).length) 0 (j6 + 1) (ops ++ pa_ops (u, t)) z2 ∧ j6 + 1 ≤ J ∧ (ops ++ pa_ops (u, t)).length ≤ j6 + 1 ∧ j < j6 + 1) ∧
            (T j6 ≠ 159 → ∃ z2, Md_aLine_101 z6 = some (nI 0, z2) ∧ MF P z0 1 j6 z2) := fun z6 j6 t s6 hj6 hjj hl6 => by
          have lst : ops ++ u ++ t.getD [] = ops ++ pa_ops (u, t) := by unfold pa_ops; simp only [List.append_assoc]
          have i32 : nI (3 * ln) + nI 2 = nI (3 * ln + 2) := by rw [nI_add]
          have s7 := rm_fl s6 (3 * ln + 2) (nI (ops ++ u ++ t.getD []).length)
          obtain ⟨g1, g2⟩ := rm_need hk s7 hj6 159 (by decide)
          unfold Md_aLine_101
          rw [s6.2.2.2.1, i3, i32, pj_gIn (n := 3 * ln + 2) (by omega) (by decide), nI_clamp (n := 3 * ln + 2) (by omega), s6.2.2.2.2.2.2.1, pj_bI]
          refine ⟨fun c => ?_, fun c => ?_⟩
          · obtain ⟨j7, z7, e7, s8⟩ := g1 c
            rw [e7, pj_cS]
            rw [lst, l4] at s8
            rw [lst] at hl6
            exact ⟨z7, rfl, s8, j7, by omega, by omega⟩
          · obtain ⟨z7, e7, s8⟩ := g2 c
            rw [e7, pj_cS]
            exact ⟨z7, rfl, s8⟩
        dsimp only
        by_cases c3 : T j2 = 3
        · have hj2 := lt_Jm hk j4 c3 (by decide)
          obtain ⟨z6, e6, s6⟩ := rm_nxt hk s5 hj2
          rw [if_pos c3, if_pos ((tk5 3 (by decide)).mpr c3), e6, pj_cS]
          have un2 := rm_cond (dp := 0) (cl := clauseP T V 8) (sR := pj_lp0 Md_oneTest_B 12) hk (rm_clause (ln := ln) (fl := upd (upd fl (3 * ln) (nI ops.length)) (3 * ln + 1) (nI (ops ++ u).length)) hk hV 8 12 (by decide) (by decide)) (fun j j2 u q => clauseP_len 8 j j2 u q) s6 (by omega) (by omega)
          unfold Md_any_o
          cases eu2 : condP T (clauseP T V 8) (j2 + 1) with
          | error e =>
            rw [eu2] at un2
            obtain ⟨k, jf⟩ := e
            obtain ⟨z7, e7, s7⟩ := un2
            rw [e7, pj_cS, if_pos (by decide)]
            exact ⟨z7, rfl, s7⟩
          | ok p =>
            obtain ⟨j5, t⟩ := p
            rw [eu2] at un2
            obtain ⟨z7, e7, s7, j7⟩ := un2
            have q4 := condP_len (fun j j2 u q => clauseP_len 8 j j2 u q) eu2
            have lt2 := len_enc t
            have l8 : (ops ++ u ++ t).length = ops.length + u.length + t.length := by rw [List.length_append, l4]
            rw [e7, pj_cS, if_neg (by decide)]
            obtain ⟨g1, g2⟩ := tail z7 j5 (some t) s7 j7 (by omega) (by show (ops ++ u ++ t).length ≤ j5; omega)
            dsimp only
            by_cases c4 : T j5 = 159
            · rw [if_pos c4]; exact g1 c4
            · rw [if_neg c4]; exact g2 c4
        · rw [if_neg c3, if_neg (fun e => c3 ((tk5 3 (by decide)).mp e))]
          have s5' : MS T V P en z0 ln (upd (upd fl (3 * ln) (nI ops.length)) (3 * ln + 1) (nI (ops ++ u).length)) 0 j2 (ops ++ u ++ (none : Option (List pa_Op)).getD []) (pj_sI z4 4 (3 * ln + 1) (nI (ops ++ u).length)) := by
            show MS _ _ _ _ _ _ _ _ _ (ops ++ u ++ []) _
            rw [List.append_nil]; exact s5
          obtain ⟨g1, g2⟩ := tail _ j2 none s5' j4 (by omega) (by show (ops ++ u ++ []).length ≤ j2; rw [List.append_nil]; omega)
          by_cases c4 : T j2 = 159
          · rw [if_pos c4]; exact g1 c4
          · rw [if_neg c4]; exact g2 c4
  · rw [if_neg c1, if_neg (fun e => c1 ((tk 20 (by decide)).mp e))]
    obtain ⟨z4, e4, s4⟩ := rm_bad h 1
    rw [e4, pj_cS]
    exact ⟨z4, rfl, s4⟩
theorem flok_add {pr : List pa_Ln} {x : pa_Ln} (h : flok pr fl) : flok (pr ++ [x]) (fl3 fl pr.length (pr.flatMap pa_ops).length ((pr.flatMap pa_ops).length + x.1.length) (pr.flatMap pa_ops ++ pa_ops x).length) := fun i hi => by
  rw [List.length_append] at hi
  have hi : i < pr.length + 1 := hi
  unfold fl3
  by_cases c : i = pr.length
  · subst c
    have t1 : (pr ++ [x]).take pr.length = pr := by simp
    have t2 : (pr ++ [x])[pr.length]? = some x := by simp
    have t3 : (pr ++ [x]).take (pr.length + 1) = pr ++ [x] := List.take_of_length_le (by rw [List.length_append]; show _ + 1 ≤ _; omega)
    rw [t1, t2, t3, upd_ne (by omega), upd_ne (by omega), upd_s, upd_ne (by omega), upd_s, upd_s]
    refine ⟨rfl, rfl, ?_⟩
    simp
  · have t1 : (pr ++ [x]).take i = pr.take i := List.take_append_of_le_length (by omega)
    have t2 : (pr ++ [x])[i]? = pr[i]? := List.getElem?_append_left (by omega)
    have t3 : (pr ++ [x]).take (i + 1) = pr.take (i + 1) := List.take_append_of_le_length (by omega)
    rw [t1, t2, t3, upd_ne (by omega), upd_ne (by omega), upd_ne (by omega), upd_ne (by omega), upd_ne (by omega), upd_ne (by omega), upd_ne (by omega), upd_ne (by omega), upd_ne (by omega)]
    exact h i (by omega)
theorem rm_text (hk : mTk T V P en J z0) (hV : ∀ j, V j < 2 ^ 31) : ∀ n j pr q z fl dp, MS T V P en z0 pr.length fl dp j (pr.flatMap pa_ops) z → flok pr fl → j ≤ J → J < n + j → pr.length ≤ 16 → n + 1 < q → (pr.flatMap pa_ops).length ≤ j →
    match textL T V n j pr with
    | .error (k, jf) => ∃ z2, pj_lp1 Md_text_26 q (nI 1) z = Md_text_63 (nI 0) z2 ∧ MF P z0 k jf z2
    | .ok r => ∃ z2 j2 fl2 dp2, pj_lp1 Md_text_26 q (nI 1) z = Md_text_63 (nI 1) z2 ∧ MS T V P en z0 r.length fl2 dp2 j2 (r.flatMap pa_ops) z2 ∧ flok r fl2 ∧ (r.flatMap pa_ops).length ≤ 400
  | 0, j, pr, q, z, fl, dp, h, hf, hj, hn, h16, hq, hl => by omega
  | n + 1, j, pr, q, z, fl, dp, h, hf, hj, hn, h16, hq, hl => by
    have J4 := hk.1
    obtain ⟨q, rfl⟩ : ∃ p, q = p + 1 := ⟨q - 1, by omega⟩
    have rc := fun j pr z fl dp => rm_text hk hV n j pr q z fl dp
    have n10 : ¬ nI 1 = 0 := by decide
    have tk0 : (z.1 0 14 = 0) = (T j = 0) := by rw [← nI_0]; exact rm_tok hk h 0 (by decide)
    have stop : ∀ z2 k jf, MF P z0 k jf z2 → ∃ z3, Md_text_56 (pj_lp1 Md_text_26 q) (nI 0) (nI 0) (z2.1 0 10) z2 = Md_text_63 (nI 0) z3 ∧ MF P z0 k jf z3 := fun z2 k jf m => by
      obtain ⟨q, rfl⟩ : ∃ p, q = p + 1 := ⟨q - 1, by omega⟩
      unfold Md_text_56
      rw [pj_bI, pj_lp1_s]
      refine ⟨pj_sI z2 0 10 (z2.1 0 10 + nI 0), ?_, ⟨fun c a b d => ?_, fun k a1 a2 a3 a4 a5 a6 a7 a8 a9 => ?_⟩, m.2.1, m.2.2⟩
      · unfold Md_text_26
        rw [if_pos (by decide)]
      · rw [ag_n _ _ _ _ a]; exact m.1.1 c a b d
      · rw [ag_1, upd_ne a1]; exact m.1.2 k a1 a2 a3 a4 a5 a6 a7 a8 a9
    have ll := rm_line hk hV h hj hl h16
    rw [pj_lp1_s]
    generalize pj_lp1 Md_text_26 q = self at rc stop ⊢
    unfold Md_text_26 textL
    rw [if_neg n10]
    by_cases c0 : T j = 0
    · rw [if_pos c0, if_pos (tk0.mpr c0)]
      exact ⟨z, j, fl, dp, rfl, h, hf, by omega⟩
    · rw [if_neg c0, if_neg (fun e => c0 (tk0.mp e))]
      by_cases c1 : T j = 20
      · rw [if_pos c1] at ll ⊢
        by_cases c16 : pr.length = 16
        · rw [if_pos c16] at ll ⊢
          obtain ⟨z2, e2, s2⟩ := ll
          rw [e2, pj_cS, if_pos (by decide)]
          exact stop z2 _ _ s2
        · rw [if_neg c16] at ll ⊢
          cases eu : lineP T V j with
          | error e =>
            obtain ⟨k, jf⟩ := e
            rw [eu] at ll
            obtain ⟨z2, e2, s2⟩ := ll
            rw [e2, pj_cS, if_pos (by decide)]
            exact stop z2 _ _ s2
          | ok p =>
            obtain ⟨j2, x⟩ := p
            rw [eu] at ll
            obtain ⟨z2, e2, s2, j3, l3, l4⟩ := ll
            rw [e2, pj_cS, if_neg (by decide)]
            unfold Md_text_56
            rw [s2.2.2.2.1, nI_add, pj_bI]
            have s3 := rm_ln s2 (pr.length + 1)
            have ef : pr.flatMap pa_ops ++ pa_ops x = (pr ++ [x]).flatMap pa_ops := by simp
            have el : pr.length + 1 = (pr ++ [x]).length := by simp
            have f3 := flok_add (x := x) hf
            rw [ef] at s3 l3 f3
            rw [el] at s3 ⊢
            exact rc j2 (pr ++ [x]) _ _ 0 s3 f3 j3 (by omega) (by rw [← el]; omega) (by omega) l3
      · rw [if_neg c1] at ll ⊢
        obtain ⟨z2, e2, s2⟩ := ll
        rw [e2, pj_cS, if_pos (by decide)]
        exact stop z2 _ _ s2
end TM
