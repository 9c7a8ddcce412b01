/-! the class reads a sum -/
section SUMC
variable {T V P : Nat → Nat} {J : Nat} {z0 : pj_S} {ln : Nat} {cd : List Int32}
def wn (w : Option Nat) : Nat := if w.isSome then 1 else 0
theorem rc_wait {j : Nat} {z : pj_S} {w : Option Nat} (hw : ∀ o, w = some o → o = 13 ∨ o = 14) (h : CS z0 ln j cd z) (hl : cd.length + wn w ≤ 400) (K : pj_S → Option (Int32 × pj_S)) :
    ∃ z2, (if wc w = (0) then K z else pj_c (Reader_emit (wc w) z) fun _ z2 => K z2) = K z2 ∧ CS z0 ln j (cd ++ (wl w).flatMap pa_enc) z2 ∧ (cd ++ (wl w).flatMap pa_enc).length = cd.length + wn w := by
  cases w with
  | none => exact ⟨z, by rw [if_pos (show wc none = 0 from nI_0)], by rw [show (wl none).flatMap pa_enc = [] from rfl, List.append_nil]; exact h, by rw [show (wl none).flatMap pa_enc = [] from rfl, List.append_nil]; rfl⟩
  | some o =>
    have hl : cd.length + 1 ≤ 400 := hl
    obtain ⟨z2, e2, s2⟩ := rc_emit h (by omega) (wc (some o))
    have n0 : ¬ wc (some o) = 0 := by rcases hw o rfl with rfl | rfl <;> decide
    refine ⟨z2, by rw [if_neg n0, e2, pj_cS], ?_, ?_⟩
    · rw [wl_enc hw]; exact s2
    · rw [wl_enc hw, List.length_append]; rfl
theorem cRes_app {r : tRes} {x : Option (Int32 × pj_S)} {a c : List Int32} (h : cRes P J z0 ln (a ++ c) r x) : match r with
    | .ok (j2, u) => ∃ z2, x = some (nI 1, z2) ∧ CS z0 ln j2 (a ++ (c ++ u.flatMap pa_enc)) z2 ∧ j2 ≤ J ∧ (a ++ (c ++ u.flatMap pa_enc)).length ≤ j2
    | .error (k, jf) => ∃ z2, x = some (nI 0, z2) ∧ CF P z0 k jf z2 := by
  cases r with
  | error e => exact h
  | ok p =>
    obtain ⟨j2, u⟩ := p
    obtain ⟨z2, h1, h2, h3, h4⟩ := h
    rw [List.append_assoc] at h2 h4
    exact ⟨z2, h1, h2, h3, h4⟩
theorem fm_app (a c : List pa_Op) : (a ++ c).flatMap pa_enc = a.flatMap pa_enc ++ c.flatMap pa_enc := List.flatMap_append
theorem rc_sumL (hk : cTk T V P J z0) (hV : ∀ j, V j < 2 ^ 31) : ∀ n j acc w q i z, (∀ o, w = some o → o = 13 ∨ o = 14) → CS z0 ln j (cd ++ acc.flatMap pa_enc) z → j ≤ J → J < n + j → i ≤ j → n < q → (cd ++ acc.flatMap pa_enc).length + wn w ≤ j →
    cRes P J z0 ln cd (sumL T V n j acc w) (pj_lp2 Reader_readSum_13 q (wc w) (nI i) z)
  | 0, j, acc, w, q, i, z, hw, h, hj, hn, hi, hq, hl => by omega
  | n + 1, j, acc, w, q, i, z, hw, h, hj, hn, hi, hq, hl => by
    have J4 := hk.1
    obtain ⟨q, rfl⟩ : ∃ p, q = p + 1 := ⟨q - 1, by omega⟩
    have rc := fun j acc w i z => rc_sumL hk hV n j acc w q i z
    rw [pj_lp2_s]
    generalize pj_lp2 Reader_readSum_13 q = self at rc ⊢
    have i1 : nI i + nI 1 = nI (i + 1) := by rw [nI_add]
    -- behind + or -
    have plus : ∀ (s : Int32) (o : Nat), (o = 13 ∨ o = 14) → T j = 130 + o + (o - 13) → s ≠ nI 47 → s ≠ nI 42 → (∀ v2 z, Reader_readSum_108 self (wc w) v2 s z = Reader_readSum_152 self v2 (wc (some o)) z) →
        cRes P J z0 ln cd (match unitP T V (j + 1) with
          | .error e => .error e
          | .ok (j2, u) => sumL T V n j2 (acc ++ wl w ++ u) (some o)) (Reader_readSum_74 self (wc w) (nI i) s (pj_sI z 5 5 ((z.1 5 5) + (nI 1)))) := fun s o ho hT s47 s42 h108 => by
      have hj1 := lt_J hk hj hT (by omega)
      obtain ⟨z2, e2, s2, l2⟩ := rc_wait hw (rc_nxt h) (by omega) (Reader_readSum_83 self (wc w) (nI i) s)
      unfold Reader_readSum_74
      rw [e2]
      have un := rc_unit hk s2 hj1 (by rw [l2]; omega)
      unfold Reader_readSum_83
      rw [if_neg s47]
      cases eu : unitP T V (j + 1) with
      | error e =>
        rw [eu] at un
        obtain ⟨k, jf⟩ := e
        obtain ⟨z3, e3, s3⟩ := un
        rw [e3, pj_cS, if_pos (by decide)]
        exact ⟨z3, rfl, s3⟩
      | ok p =>
        obtain ⟨j2, u⟩ := p
        rw [eu] at un
        obtain ⟨z3, e3, s3, j3, l3⟩ := un
        have ej : j2 = j + 2 ∧ (u.flatMap pa_enc).length = 1 := by
          unfold unitP at eu
          split at eu
          · cases eu; exact ⟨rfl, rfl⟩
          · split at eu
            · rename_i c
              cases eu
              refine ⟨rfl, ?_⟩
              rw [List.flatMap_cons, pa_enc_tr (by omega) (by omega)]; rfl
            · cases eu
        rw [e3, pj_cS, if_neg (by decide), h108]
        unfold Reader_readSum_152 Reader_readSum_153
        rw [i1, pj_bI]
        have lst : cd ++ acc.flatMap pa_enc ++ (wl w).flatMap pa_enc ++ u.flatMap pa_enc = cd ++ (acc ++ wl w ++ u).flatMap pa_enc := by rw [fm_app, fm_app]; simp only [List.append_assoc]
        rw [lst] at s3 l3
        refine rc j2 _ (some o) (i + 1) z3 (fun o' ho' => by cases ho'; exact ho) s3 j3 (by omega) (by omega) (by omega) ?_
        rw [← lst, List.length_append, l2]
        show _ + _ + _ + 1 ≤ j2
        omega
    unfold Reader_readSum_13 sumL
    have nlt : ¬ nI 400 < nI i := by rw [nI_ltP (by decide) (by omega)]; omega
    rw [if_neg nlt, rc_tok hk h hj, pj_cS]
    by_cases c1 : T j = 143
    · have e1 : cT (T j) = nI 43 := by rw [c1]; rfl
      rw [if_pos c1, if_pos e1, e1]
      unfold Reader_readSum_52
      rw [pj_bI, if_pos rfl]
      exact plus (nI 43) 13 (Or.inl rfl) c1 (by decide) (by decide) (fun v2 z => by
        unfold Reader_readSum_108
        rw [if_neg (by decide), if_neg (by decide), if_pos rfl]; rfl)
    · have n1 : ¬ cT (T j) = nI 43 := fun e => c1 ((cT_iff (nI 43) 143 (by decide) hk hj).mp e)
      rw [if_neg c1, if_neg n1]
      by_cases c2 : T j = 145
      · have e1 : cT (T j) = nI 45 := by rw [c2]; rfl
        rw [if_pos c2, if_pos e1, e1]
        unfold Reader_readSum_52
        rw [pj_bI, if_neg (by decide), if_pos rfl]
        exact plus (nI 45) 14 (Or.inr rfl) c2 (by decide) (by decide) (fun v2 z => by
          unfold Reader_readSum_108
          rw [if_neg (by decide), if_neg (by decide), if_neg (by decide)]; rfl)
      · have n2 : ¬ cT (T j) = nI 45 := fun e => c2 ((cT_iff (nI 45) 145 (by decide) hk hj).mp e)
        rw [if_neg c2, if_neg n2]
        by_cases c3 : T j = 142
        · have e1 : cT (T j) = nI 42 := by rw [c3]; rfl
          have hj1 := lt_J hk hj c3 (by decide)
          rw [if_pos c3, if_pos e1, e1]
          unfold Reader_readSum_52
          rw [pj_bI, if_neg (by decide), if_neg (by decide)]
          have un := rc_unit hk (rc_nxt h) hj1 (by omega)
          unfold Reader_readSum_83
          rw [if_neg (by decide)]
          cases eu : unitP T V (j + 1) with
          | error e =>
            rw [eu] at un
            obtain ⟨k, jf⟩ := e
            obtain ⟨z3, e3, s3⟩ := un
            rw [e3, pj_cS, if_pos (by decide)]
            exact ⟨z3, rfl, s3⟩
          | ok p =>
            obtain ⟨j2, u⟩ := p
            rw [eu] at un
            obtain ⟨z3, e3, s3, j3, l3⟩ := un
            have ej : j2 = j + 2 ∧ (u.flatMap pa_enc).length = 1 := by
              unfold unitP at eu
              split at eu
              · cases eu; exact ⟨rfl, rfl⟩
              · split at eu
                · rename_i c
                  cases eu
                  refine ⟨rfl, ?_⟩
                  rw [List.flatMap_cons, pa_enc_tr (by omega) (by omega)]; rfl
                · cases eu
            have l4 : (cd ++ acc.flatMap pa_enc ++ u.flatMap pa_enc).length = (cd ++ acc.flatMap pa_enc).length + 1 := by rw [List.length_append, ej.2]
            obtain ⟨z4, e4, s4⟩ := rc_emit s3 (by omega) (-3)
            rw [e3, pj_cS, if_neg (by decide)]
            unfold Reader_readSum_108 Reader_readSum_120 Reader_readSum_134 Reader_readSum_153
            rw [if_pos rfl, if_pos rfl, e4, pj_cS, i1, pj_bI]
            have lst : cd ++ acc.flatMap pa_enc ++ u.flatMap pa_enc ++ [-3] = cd ++ (acc ++ u ++ [(15, 0)]).flatMap pa_enc := by rw [fm_app, fm_app]; simp only [List.append_assoc]; rfl
            have ll : (cd ++ acc.flatMap pa_enc ++ u.flatMap pa_enc ++ [-3]).length = (cd ++ acc.flatMap pa_enc).length + 2 := by rw [List.length_append, l4]; rfl
            rw [lst] at s4 ll
            exact rc j2 _ w (i + 1) z4 hw s4 j3 (by omega) (by omega) (by omega) (by rw [ll]; omega)
        · have n3 : ¬ cT (T j) = nI 42 := fun e => c3 ((cT_iff (nI 42) 142 (by decide) hk hj).mp e)
          rw [if_neg c3, if_neg n3]
          by_cases c4 : T j = 147
          · have e1 : cT (T j) = nI 47 := by rw [c4]; rfl
            have hj1 := lt_J hk hj c4 (by decide)
            rw [if_pos c4, if_pos e1, e1]
            unfold Reader_readSum_52
            rw [pj_bI, if_neg (by decide), if_neg (by decide)]
            have un := rc_div hk (rc_nxt h) hj1 (by omega) (hV (j + 1))
            unfold Reader_readSum_83
            rw [if_pos rfl]
            cases eu : divP T V (j + 1) with
            | error e =>
              rw [eu] at un
              obtain ⟨k, jf⟩ := e
              obtain ⟨z3, e3, s3⟩ := un
              rw [e3, pj_cS, if_pos (by decide)]
              exact ⟨z3, rfl, s3⟩
            | ok p =>
              obtain ⟨j2, u⟩ := p
              rw [eu] at un
              obtain ⟨rfl, rfl, j3, z3, e3, s3⟩ := un
              have l4 : (cd ++ acc.flatMap pa_enc ++ [nI (V (j + 1))]).length = (cd ++ acc.flatMap pa_enc).length + 1 := by rw [List.length_append]; rfl
              obtain ⟨z4, e4, s4⟩ := rc_emit s3 (by omega) (-4)
              rw [e3, pj_cS, if_neg (by decide)]
              unfold Reader_readSum_108 Reader_readSum_120 Reader_readSum_134 Reader_readSum_153
              rw [if_neg (by decide), if_pos rfl, if_neg (by decide), e4, pj_cS, i1, pj_bI]
              have lst : cd ++ acc.flatMap pa_enc ++ [nI (V (j + 1))] ++ [-4] = cd ++ (acc ++ [(16, nI (V (j + 1)))]).flatMap pa_enc := by rw [fm_app]; simp only [List.append_assoc]; rfl
              have ll : (cd ++ acc.flatMap pa_enc ++ [nI (V (j + 1))] ++ [-4]).length = (cd ++ acc.flatMap pa_enc).length + 2 := by rw [List.length_append, l4]; rfl
              rw [lst] at s4 ll
              exact rc (j + 1 + 1) _ w (i + 1) z4 hw s4 j3 (by omega) (by omega) (by omega) (by rw [ll]; omega)
          · have n4 : ¬ cT (T j) = nI 47 := fun e => c4 ((cT_iff (nI 47) 147 (by decide) hk hj).mp e)
            rw [if_neg c4, if_neg n4]
            unfold Reader_readSum_49 Reader_readSum_159
            obtain ⟨z2, e2, s2, l2⟩ := rc_wait hw h (by omega) (fun z => pj_g (pj_bo (nI 1)) (some ((nI 1), z)))
            have e2 : (if wc w = (0) then pj_g (pj_bo (nI 1)) (some ((nI 1), z)) else pj_c (Reader_emit (wc w) z) fun _ z2 => pj_g (pj_bo (nI 1)) (some ((nI 1), z2))) = _ := e2
            rw [e2]
            have lst : cd ++ acc.flatMap pa_enc ++ (wl w).flatMap pa_enc = cd ++ (acc ++ wl w).flatMap pa_enc := by rw [fm_app]; simp only [List.append_assoc]
            rw [lst] at s2 l2
            exact ⟨z2, rfl, s2, hj, by rw [l2]; exact hl⟩
theorem rc_sum (hk : cTk T V P J z0) (hV : ∀ j, V j < 2 ^ 31) {j : Nat} {z : pj_S} (h : CS z0 ln j cd z) (hj : j ≤ J) (hl : cd.length ≤ j) : cRes P J z0 ln cd (sumP T V j) (Reader_readSum z) := by
  have J4 := hk.1
  have un := rc_unit hk h hj hl
  unfold sumP Reader_readSum
  cases eu : unitP T V j with
  | error e =>
    rw [eu] at un
    obtain ⟨k, jf⟩ := e
    obtain ⟨z3, e3, s3⟩ := un
    rw [e3, pj_cS, if_pos (by decide)]
    exact ⟨z3, rfl, s3⟩
  | ok p =>
    obtain ⟨j2, u⟩ := p
    rw [eu] at un
    obtain ⟨z3, e3, s3, j3, l3⟩ := un
    rw [e3, pj_cS, if_neg (by decide)]
    exact rc_sumL hk hV 401 j2 u none 4000 0 z3 (fun o ho => by cases ho) s3 j3 (by omega) (by omega) (by decide) (by show _ + 0 ≤ j2; omega)
end SUMC
