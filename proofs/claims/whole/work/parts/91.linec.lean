/-! the class reads a clause, a line -/
section LINC
variable {T V P : Nat → Nat} {J : Nat} {z0 : pj_S} {ln : Nat} {cd : List Int32}
theorem rc_rel (hk : cTk T V P J z0) (hV : ∀ j, V j < 2 ^ 31) (sR : Int32 → pj_S → Option (Int32 × pj_S)) {j : Nat} {z : pj_S} (h : CS z0 ln j cd z) (hj : j ≤ J) (hl : cd.length ≤ j) : cRes P J z0 ln cd (relP T V j) (pj_c (Reader_readSum z) fun r6 z5 =>
      if r6 = (0) then (
        pj_g (pj_bo (nI 0)) (some ((nI 0), z5))
      ) else (
        pj_c (Reader_token z5) fun r9 z8 =>
        if r9 = (nI 60) then (
          Reader_readClause_128 sR r9 z8
        ) else (
          if r9 = (nI 61) then (
            Reader_readClause_128 sR r9 z8
          ) else (
            if r9 = (nI 62) then (
              Reader_readClause_128 sR r9 z8
            ) else (
              pj_c (Reader_fails (nI 1) z8) fun r12 z11 =>
              pj_g (pj_bo r12) (some (r12, z11))
            )
          )
        )
      )) := by
  have J4 := hk.1
  have un := rc_sum hk hV h hj hl
  unfold relP
  cases eu : sumP T V j with
  | error e =>
    rw [eu] at un
    obtain ⟨k, jf⟩ := e
    obtain ⟨z3, e3, s3⟩ := un
    rw [e3, pj_cS, if_pos (by decide)]
    exact ⟨z3, rfl, s3⟩
  | ok p =>
    obtain ⟨j2, u⟩ := p
    rw [eu] at un
    obtain ⟨z3, e3, s3, j3, l3⟩ := un
    have q2 := sumP_len eu
    rw [e3, pj_cS, if_neg (by decide), rc_tok hk s3 j3, pj_cS]
    have tail : ∀ (s : Nat) (o : Nat), T j2 = 100 + s → o = T j2 - 143 → (∀ z, (if (nI s) = (nI 60) then (
          Reader_readClause_172 sR (-5 : Int32) z
        ) else (
          if (nI s) = (nI 61) then (
            Reader_readClause_172 sR (-6 : Int32) z
          ) else (
            Reader_readClause_172 sR (-7 : Int32) z
          )
        )) = Reader_readClause_172 sR (cTwo o) z) → isTwo o → cRes P J z0 ln cd (match sumP T V (j2 + 1) with
      | .error e => .error e
      | .ok (j3, u2) => .ok (j3, u ++ u2 ++ [(T j2 - 143, 0)])) (Reader_readClause_128 sR (nI s) z3) := fun s o hT ho hw ot => by
      have hj1 := lt_J hk j3 hT (by omega)
      unfold Reader_readClause_128
      rw [pj_bI]
      have un2 := rc_sum hk hV (rc_nxt s3) hj1 (by omega)
      cases eu2 : sumP T V (j2 + 1) with
      | error e =>
        rw [eu2] at un2
        obtain ⟨k, jf⟩ := e
        obtain ⟨z4, e4, s4⟩ := un2
        rw [e4, pj_cS, if_pos (by decide)]
        exact ⟨z4, rfl, s4⟩
      | ok p =>
        obtain ⟨j4, u2⟩ := p
        rw [eu2] at un2
        obtain ⟨z4, e4, s4, j5, l5⟩ := un2
        have q3 := sumP_len eu2
        rw [e4, pj_cS, if_neg (by decide), hw]
        have l6 : (cd ++ u.flatMap pa_enc ++ u2.flatMap pa_enc).length = cd.length + (u.flatMap pa_enc).length + (u2.flatMap pa_enc).length := by rw [List.length_append, List.length_append]
        obtain ⟨z6, e6, s6⟩ := rc_emit s4 (by omega) (cTwo o)
        unfold Reader_readClause_172
        rw [e6, pj_cS]
        have lst : cd ++ u.flatMap pa_enc ++ u2.flatMap pa_enc ++ [cTwo o] = cd ++ (u ++ u2 ++ [((T j2 - 143, 0) : pa_Op)]).flatMap pa_enc := by
          rw [fm_app, fm_app, ← ho, List.flatMap_cons, pa_enc_two ot]; simp only [List.append_assoc]; rfl
        have ll : (cd ++ u.flatMap pa_enc ++ u2.flatMap pa_enc ++ [cTwo o]).length = cd.length + (u.flatMap pa_enc).length + (u2.flatMap pa_enc).length + 1 := by rw [List.length_append, l6]; rfl
        rw [lst] at s6 ll
        exact ⟨z6, rfl, s6, j5, by rw [ll]; omega⟩
    have bad : ¬ (T j2 = 160 ∨ T j2 = 161 ∨ T j2 = 162) → cRes P J z0 ln cd (.error (1, j2)) (pj_c (Reader_fails (nI 1) z3) fun r12 z11 => pj_g (pj_bo r12) (some (r12, z11))) := fun _ => by
      obtain ⟨z4, e4, s4⟩ := rc_fail hk s3 j3 1
      rw [e4, pj_cS]
      exact ⟨z4, rfl, s4⟩
    dsimp only
    by_cases c1 : T j2 = 160
    · have e1 : cT (T j2) = nI 60 := by rw [c1]; rfl
      rw [if_pos (Or.inl c1), if_pos e1, e1]
      exact tail 60 17 c1 (by rw [c1]) (fun z => by rw [if_pos rfl]; rfl) (by unfold isTwo; omega)
    · have n1 : ¬ cT (T j2) = nI 60 := fun e => c1 ((cT_iff (nI 60) 160 (by decide) hk j3).mp e)
      rw [if_neg n1]
      by_cases c2 : T j2 = 161
      · have e1 : cT (T j2) = nI 61 := by rw [c2]; rfl
        rw [if_pos (Or.inr (Or.inl c2)), if_pos e1, e1]
        exact tail 61 18 c2 (by rw [c2]) (fun z => by rw [if_neg (nn 61 60), if_pos rfl]; rfl) (by unfold isTwo; omega)
      · have n2 : ¬ cT (T j2) = nI 61 := fun e => c2 ((cT_iff (nI 61) 161 (by decide) hk j3).mp e)
        rw [if_neg n2]
        by_cases c3 : T j2 = 162
        · have e1 : cT (T j2) = nI 62 := by rw [c3]; rfl
          rw [if_pos (Or.inr (Or.inr c3)), if_pos e1, e1]
          exact tail 62 19 c3 (by rw [c3]) (fun z => by rw [if_neg (nn 62 60), if_neg (nn 62 61)]; rfl) (by unfold isTwo; omega)
        · have n3 : ¬ cT (T j2) = nI 62 := fun e => c3 ((cT_iff (nI 62) 162 (by decide) hk j3).mp e)
          have no : ¬ (T j2 = 160 ∨ T j2 = 161 ∨ T j2 = 162) := by omega
          rw [if_neg no, if_neg n3]
          exact bad no
theorem rc_clause (hk : cTk T V P J z0) (hV : ∀ j, V j < 2 ^ 31) : ∀ b q, b < q → b ≤ 8 → ∀ j z cd, CS z0 ln j cd z → j ≤ J → cd.length ≤ j → cRes P J z0 ln cd (clauseP T V b j) (pj_lp1 Reader_readClause_B q (nI (8 - b)) z)
  | 0, q, hq, hb, j, z, cd, h, hj, hl => by
    obtain ⟨q, rfl⟩ : ∃ p, q = p + 1 := ⟨q - 1, by omega⟩
    rw [pj_lp1_s]
    generalize pj_lp1 Reader_readClause_B q = sR
    have n8 : ¬ nI (8 - 0) < nI 8 := by decide
    have fl : cRes P J z0 ln cd (.error (3, j)) (pj_c (Reader_fails (nI 3) z) fun r16 z15 => pj_g (pj_bo r16) (some (r16, z15))) := by
      obtain ⟨z4, e4, s4⟩ := rc_fail hk h hj 3
      rw [e4, pj_cS]
      exact ⟨z4, rfl, s4⟩
    unfold Reader_readClause_B Reader_readClause_17 clauseP
    rw [rc_tok hk h hj, pj_cS]
    by_cases c1 : T j = 140
    · have e1 : cT (T j) = nI 40 := by rw [c1]; rfl
      rw [if_pos (Or.inl c1), if_pos e1, if_neg n8]
      exact fl
    · have n1 : ¬ cT (T j) = nI 40 := fun e => c1 ((cT_iff (nI 40) 140 (by decide) hk hj).mp e)
      rw [if_neg n1]
      by_cases c2 : T j = 6
      · have e1 : cT (T j) = -10 := by rw [c2]; rfl
        rw [if_pos (Or.inr c2), if_pos e1, if_neg n8]
        exact fl
      · have n2 : ¬ cT (T j) = -10 := fun e => c2 ((cT_iff (-10) 6 (by decide) hk hj).mp e)
        have no : ¬ (T j = 140 ∨ T j = 6) := by omega
        rw [if_neg no, if_neg n2]
        exact rc_rel hk hV sR h hj hl
  | b + 1, q, hq, hb, j, z, cd, h, hj, hl => by
    obtain ⟨q, rfl⟩ : ∃ p, q = p + 1 := ⟨q - 1, by omega⟩
    have J4 := hk.1
    have rc := rc_clause hk hV b q (by omega) (by omega)
    rw [pj_lp1_s]
    generalize pj_lp1 Reader_readClause_B q = sR at rc ⊢
    have n8 : nI (8 - (b + 1)) < nI 8 := nI_lt (by omega) (by decide)
    have ib : nI (8 - (b + 1)) + nI 1 = nI (8 - b) := by rw [nI_add]; congr 1; omega
    unfold Reader_readClause_B Reader_readClause_17 clauseP
    rw [rc_tok hk h hj, pj_cS]
    by_cases c1 : T j = 140
    · have e1 : cT (T j) = nI 40 := by rw [c1]; rfl
      have hj1 := lt_J hk hj c1 (by decide)
      rw [if_pos c1, if_pos e1, if_pos n8, pj_bI, e1, if_pos rfl, ib]
      have un := rc_cond hk rc (fun j j2 u q => clauseP_len b j j2 u q) (rc_nxt h) hj1 (by omega)
      cases eu : condP T (clauseP T V b) (j + 1) with
      | error e =>
        rw [eu] at un
        obtain ⟨k, jf⟩ := e
        obtain ⟨z3, e3, s3⟩ := un
        rw [e3, pj_cS, if_pos (by decide)]
        exact ⟨z3, rfl, s3⟩
      | ok p =>
        obtain ⟨j2, u⟩ := p
        rw [eu] at un
        obtain ⟨z3, e3, s3, j3, l3⟩ := un
        rw [e3, pj_cS, if_neg (by decide)]
        obtain ⟨g1, g2⟩ := rc_sign hk s3 j3 41 (by decide)
        dsimp only
        by_cases c3 : T j2 = 141
        · obtain ⟨j4, z4, e4, s4⟩ := g1 c3
          rw [if_pos c3, e4, pj_cS, if_neg (by decide)]
          exact ⟨z4, rfl, s4, j4, by omega⟩
        · obtain ⟨z4, e4, s4⟩ := g2 c3
          rw [if_neg c3, e4, pj_cS, if_pos (by decide)]
          exact ⟨z4, rfl, s4⟩
    · have n1 : ¬ cT (T j) = nI 40 := fun e => c1 ((cT_iff (nI 40) 140 (by decide) hk hj).mp e)
      rw [if_neg c1, if_neg n1]
      by_cases c2 : T j = 6
      · have e1 : cT (T j) = -10 := by rw [c2]; rfl
        have hj1 := lt_J hk hj c2 (by decide)
        rw [if_pos c2, if_pos e1, if_pos n8, pj_bI, e1, if_neg (by decide), ib]
        have un := rc (j + 1) _ cd (rc_nxt h) hj1 (by omega)
        cases eu : clauseP T V b (j + 1) with
        | error e =>
          rw [eu] at un
          obtain ⟨k, jf⟩ := e
          obtain ⟨z3, e3, s3⟩ := un
          rw [e3, pj_cS, if_pos (by decide)]
          exact ⟨z3, rfl, s3⟩
        | ok p =>
          obtain ⟨j2, u⟩ := p
          rw [eu] at un
          obtain ⟨z3, e3, s3, j3, l3⟩ := un
          have q2 := clauseP_len b _ _ _ eu
          have l4 : (cd ++ u.flatMap pa_enc).length = cd.length + (u.flatMap pa_enc).length := List.length_append
          obtain ⟨z4, e4, s4⟩ := rc_emit s3 (by omega) (-10)
          rw [e3, pj_cS, if_neg (by decide), e4, pj_cS]
          have lst : cd ++ u.flatMap pa_enc ++ [-10] = cd ++ (u ++ [((20, 0) : pa_Op)]).flatMap pa_enc := by rw [fm_app]; simp only [List.append_assoc]; rfl
          have ll : (cd ++ u.flatMap pa_enc ++ [-10]).length = cd.length + (u.flatMap pa_enc).length + 1 := by rw [List.length_append, l4]; rfl
          rw [lst] at s4 ll
          exact ⟨z4, rfl, s4, j3, by rw [ll]; omega⟩
      · have n2 : ¬ cT (T j) = -10 := fun e => c2 ((cT_iff (-10) 6 (by decide) hk hj).mp e)
        rw [if_neg c2, if_neg n2]
        exact rc_rel hk hV sR h hj hl
/-- a line: cd is what the lines before it are -/
theorem rc_line (hk : cTk T V P J z0) (hV : ∀ j, V j < 2 ^ 31) {j : Nat} {z : pj_S} (h : CS z0 ln j cd z) (hj : j ≤ J) (hl : cd.length ≤ j) (hn : ln ≤ 16) :
    if T j = 20 then (if ln = 16 then ∃ z2, Reader_readLine z = some (nI 0, z2) ∧ CF P z0 3 j z2 else (match lineP T V j with
      | .error (k, jf) => ∃ z2, Reader_readLine z = some (nI 0, z2) ∧ CF P z0 k jf z2
      | .ok (j2, x) => ∃ z2, Reader_readLine z = some (nI 1, z2) ∧ CS z0 (ln + 1) j2 (cd ++ pa_encL x) z2 ∧ j2 ≤ J ∧ (cd ++ pa_encL x).length ≤ j2 ∧ j < j2))
    else ∃ z2, Reader_readLine z = some (nI 0, z2) ∧ CF P z0 1 j z2 := by
  have J4 := hk.1
  unfold Reader_readLine
  rw [rc_tok hk h hj, pj_cS]
  have h57 : z.1 5 7 = nI ln := h.2.2.2.1
  by_cases c1 : T j = 20
  · have e1 : cT (T j) = -18 := by rw [c1]; rfl
    have hj1 := lt_J hk hj c1 (by decide)
    rw [if_pos c1, if_pos e1, h57]
    by_cases c16 : ln = 16
    · have n8 : ¬ nI ln < nI 16 := by rw [c16]; decide
      rw [if_pos c16, if_neg n8]
      obtain ⟨z4, e4, s4⟩ := rc_fail hk h hj 3
      rw [e4, pj_cS]
      exact ⟨z4, rfl, s4⟩
    · have n8 : nI ln < nI 16 := nI_lt (by omega) (by decide)
      rw [if_neg c16, if_pos n8, pj_bI]
      have h1 := rc_nxt h
      have h2 : CS z0 (ln + 1) (j + 1) cd (pj_sI (pj_sI z 5 5 (z.1 5 5 + nI 1)) 5 7 ((pj_sI z 5 5 (z.1 5 5 + nI 1)).1 5 7 + nI 1)) := by
        obtain ⟨d1, d2, d3, d4, d5, d6, d7, d8, d9⟩ := h1
        rw [d4, nI_add]
        exact ⟨fun c q1 q2 => by rw [ag_n _ _ _ _ q1]; exact d1 c q1 q2, d2, d3, rfl, d5, d6, d7, d8, d9⟩
      rw [pj_bI]
      have un := rc_sum hk hV h2 hj1 (by omega)
      unfold lineP
      cases eu : sumP T V (j + 1) with
      | error e =>
        rw [eu] at un
        obtain ⟨k, jf⟩ := e
        obtain ⟨z3, e3, s3⟩ := un
        rw [e3, pj_cS, if_pos (by decide)]
        exact ⟨z3, rfl, s3⟩
      | ok p =>
        obtain ⟨j2, u⟩ := p
        rw [eu] at un
        obtain ⟨z3, e3, s3, j3, l3⟩ := un
        have q2 := sumP_len eu
        have l4 : (cd ++ u.flatMap pa_enc).length = cd.length + (u.flatMap pa_enc).length := List.length_append
        rw [e3, pj_cS, if_neg (by decide), rc_tok hk s3 j3, pj_cS]
        dsimp only
        by_cases c3 : T j2 = 3
        · have e5 : cT (T j2) = -19 := by rw [c3]; rfl
          have hj2 := lt_J hk j3 c3 (by decide)
          rw [if_pos c3, if_pos e5, pj_bI]
          have un2 := rc_cond hk (rc_clause (ln := ln + 1) hk hV 8 12 (by decide) (by decide)) (fun j j2 u q => clauseP_len 8 j j2 u q) (rc_nxt s3) hj2 (by omega)
          unfold Reader_readCondition_o
          have un2 : cRes P J z0 (ln + 1) (cd ++ u.flatMap pa_enc) (condP T (clauseP T V 8) (j2 + 1)) (Reader_readCondition (pj_lp1 Reader_readClause_B 12) (nI 0) (pj_sI z3 5 5 (z3.1 5 5 + nI 1))) := un2
          cases eu2 : condP T (clauseP T V 8) (j2 + 1) with
          | error e =>
            rw [eu2] at un2
            obtain ⟨k, jf⟩ := e
            obtain ⟨z5, e5, s5⟩ := un2
            rw [e5, pj_cS, if_pos (by decide)]
            exact ⟨z5, rfl, s5⟩
          | ok p =>
            obtain ⟨j4, t⟩ := p
            rw [eu2] at un2
            obtain ⟨z5, e5, s5, j5, l5⟩ := un2
            have q4 := condP_len (fun j j2 u q => clauseP_len 8 j j2 u q) eu2
            have l6 : (cd ++ u.flatMap pa_enc ++ t.flatMap pa_enc).length = cd.length + (u.flatMap pa_enc).length + (t.flatMap pa_enc).length := by rw [List.length_append, l4]
            obtain ⟨z6, e6, s6⟩ := rc_emit s5 (by omega) (-19)
            rw [e5, pj_cS, if_neg (by decide)]
            unfold Reader_readLine_94
            rw [e6, pj_cS]
            obtain ⟨g1, g2⟩ := rc_sign hk s6 j5 59 (by decide)
            have lst : cd ++ u.flatMap pa_enc ++ t.flatMap pa_enc ++ [-19] = cd ++ pa_encL (u, some t) := by rw [pa_encL_tl]; unfold pa_tl; simp only [List.append_assoc]
            have ll : (cd ++ u.flatMap pa_enc ++ t.flatMap pa_enc ++ [-19]).length = cd.length + (u.flatMap pa_enc).length + (t.flatMap pa_enc).length + 1 := by rw [List.length_append, l6]; rfl
            dsimp only
            by_cases c4 : T j4 = 159
            · obtain ⟨j6, z7, e7, s7⟩ := g1 c4
              rw [if_pos c4, e7, pj_cS]
              rw [lst] at s7 ll
              exact ⟨z7, rfl, s7, j6, by rw [ll]; omega, by omega⟩
            · obtain ⟨z7, e7, s7⟩ := g2 c4
              rw [if_neg c4, e7, pj_cS]
              exact ⟨z7, rfl, s7⟩
        · have n3 : ¬ cT (T j2) = -19 := fun e => c3 ((cT_iff (-19) 3 (by decide) hk j3).mp e)
          rw [if_neg c3, if_neg n3]
          obtain ⟨z6, e6, s6⟩ := rc_emit s3 (by omega) (-18)
          unfold Reader_readLine_94
          rw [e6, pj_cS]
          obtain ⟨g1, g2⟩ := rc_sign hk s6 j3 59 (by decide)
          have lst : cd ++ u.flatMap pa_enc ++ [-18] = cd ++ pa_encL (u, none) := by rw [pa_encL_tl]; unfold pa_tl; simp only [List.append_assoc]
          have ll : (cd ++ u.flatMap pa_enc ++ [-18]).length = cd.length + (u.flatMap pa_enc).length + 1 := by rw [List.length_append, l4]; rfl
          by_cases c4 : T j2 = 159
          · obtain ⟨j6, z7, e7, s7⟩ := g1 c4
            rw [if_pos c4, e7, pj_cS]
            rw [lst] at s7 ll
            exact ⟨z7, rfl, s7, j6, by rw [ll]; omega, by omega⟩
          · obtain ⟨z7, e7, s7⟩ := g2 c4
            rw [if_neg c4, e7, pj_cS]
            exact ⟨z7, rfl, s7⟩
  · have n1 : ¬ cT (T j) = -18 := fun e => c1 ((cT_iff (-18) 20 (by decide) hk hj).mp e)
    rw [if_neg c1, if_neg n1]
    obtain ⟨z4, e4, s4⟩ := rc_fail hk h hj 1
    rw [e4, pj_cS]
    exact ⟨z4, rfl, s4⟩
theorem rc_text (hk : cTk T V P J z0) (hV : ∀ j, V j < 2 ^ 31) : ∀ n j pr q z, CS z0 pr.length j (pr.flatMap pa_encL) z → j ≤ J → J < n + j → pr.length ≤ 16 → n < q → (pr.flatMap pa_encL).length ≤ j →
    match textL T V n j pr with
    | .error (k, jf) => ∃ z2, pj_lp1 Reader_read_32 q (nI pr.length) z = some (nI 0, z2) ∧ CF P z0 k jf z2
    | .ok r => ∃ z2 j2, pj_lp1 Reader_read_32 q (nI pr.length) z = Reader_read_60 z2 ∧ CS z0 r.length j2 (r.flatMap pa_encL) z2 ∧ (r.flatMap pa_encL).length ≤ 400 ∧ r.length ≤ 16
  | 0, j, pr, q, z, h, hj, hn, h16, hq, hl => by omega
  | n + 1, j, pr, q, z, h, hj, hn, h16, hq, hl => by
    have J4 := hk.1
    obtain ⟨q, rfl⟩ : ∃ p, q = p + 1 := ⟨q - 1, by omega⟩
    have rc := fun j pr z => rc_text hk hV n j pr q z
    rw [pj_lp1_s]
    generalize pj_lp1 Reader_read_32 q = self at rc ⊢
    have n16 : ¬ nI 16 < nI pr.length := by rw [nI_ltP (by decide) (by omega)]; omega
    unfold Reader_read_32 textL
    rw [if_neg n16, rc_tok hk h hj, pj_cS]
    by_cases c0 : T j = 0
    · have e1 : cT (T j) = 0 := by rw [c0]; rfl
      rw [if_pos c0, if_pos e1]
      exact ⟨z, j, rfl, h, by omega, h16⟩
    · have n0 : ¬ cT (T j) = 0 := fun e => c0 ((cT_iff 0 0 (by decide) hk hj).mp e)
      rw [if_neg c0, if_neg n0]
      have ll := rc_line hk hV h hj hl h16
      by_cases c1 : T j = 20
      · rw [if_pos c1] at ll ⊢
        by_cases c16 : pr.length = 16
        · rw [if_pos c16] at ll ⊢
          obtain ⟨z2, e2, s2⟩ := ll
          rw [e2, pj_cS, if_pos (by decide)]
          exact ⟨z2, rfl, s2⟩
        · rw [if_neg c16] at ll ⊢
          cases eu : lineP T V j with
          | error e =>
            obtain ⟨k, jf⟩ := e
            rw [eu] at ll
            obtain ⟨z2, e2, s2⟩ := ll
            rw [e2, pj_cS, if_pos (by decide)]
            exact ⟨z2, rfl, s2⟩
          | ok p =>
            obtain ⟨j2, x⟩ := p
            rw [eu] at ll
            obtain ⟨z2, e2, s2, j3, l3, l4⟩ := ll
            rw [e2, pj_cS, if_neg (by decide), nI_add, pj_bI]
            have ef : pr.flatMap pa_encL ++ pa_encL x = (pr ++ [x]).flatMap pa_encL := by simp
            have el : pr.length + 1 = (pr ++ [x]).length := by simp
            rw [ef] at s2 l3
            rw [el] at s2 ⊢
            exact rc j2 (pr ++ [x]) z2 s2 j3 (by omega) (by rw [← el]; omega) (by omega) l3
      · rw [if_neg c1] at ll ⊢
        obtain ⟨z2, e2, s2⟩ := ll
        rw [e2, pj_cS, if_pos (by decide)]
        exact ⟨z2, rfl, s2⟩
end LINC
