/-! how long what is read is -/
section GL
variable {T V : Nat → Nat}
theorem enc_ne (o : pa_Op) : 1 ≤ (pa_enc o).length := by
  unfold pa_enc
  repeat' split
  all_goals simp
theorem len_enc : ∀ u : List pa_Op, u.length ≤ (u.flatMap pa_enc).length
  | [] => Nat.le_refl _
  | o :: u => by
    rw [List.flatMap_cons, List.length_append]
    have := len_enc u
    have := enc_ne o
    show u.length + 1 ≤ _
    omega
theorem unitP_len {j j2 : Nat} {u : List pa_Op} (h : unitP T V j = .ok (j2, u)) : j2 = j + 1 ∧ (u.flatMap pa_enc).length = 1 ∧ u.length = 1 := by
  unfold unitP at h
  split at h
  · cases h; exact ⟨rfl, rfl, rfl⟩
  · split at h
    · rename_i c
      cases h
      refine ⟨rfl, ?_, rfl⟩
      rw [List.flatMap_cons, pa_enc_tr (by omega) (by omega)]; rfl
    · cases h
theorem divP_len {j j2 : Nat} {u : List pa_Op} (h : divP T V j = .ok (j2, u)) : j2 = j + 1 ∧ (u.flatMap pa_enc).length = 2 ∧ u.length = 1 := by
  unfold divP at h
  split at h
  · split at h
    · cases h
    · cases h; exact ⟨rfl, rfl, rfl⟩
  · cases h
theorem wl_len {w : Option Nat} (hw : ∀ o, w = some o → o = 13 ∨ o = 14) : ((wl w).flatMap pa_enc).length = wn w := by
  rw [wl_enc hw]
  cases w <;> rfl
theorem sumL_len : ∀ n j acc w j0 j2 u, (∀ o, w = some o → o = 13 ∨ o = 14) → (acc.flatMap pa_enc).length + wn w + j0 ≤ j → sumL T V n j acc w = .ok (j2, u) → (u.flatMap pa_enc).length + j0 ≤ j2 ∧ j ≤ j2
  | 0, _, _, _, _, _, _, _, _, h => by cases h
  | n + 1, j, acc, w, j0, j2, u, hw, hl, h => by
    have w1 := wl_len hw
    unfold sumL at h
    split at h
    · cases e : unitP T V (j + 1) with
      | error q => rw [e] at h; cases h
      | ok q =>
        obtain ⟨j3, v⟩ := q
        rw [e] at h
        obtain ⟨rfl, q2, -⟩ := unitP_len e
        have := sumL_len n _ _ (some 13) j0 j2 u (fun o ho => by cases ho; exact Or.inl rfl) (by rw [fm_app, fm_app, List.length_append, List.length_append]; show _ + _ + _ + 1 + j0 ≤ _; omega) h
        exact ⟨this.1, by omega⟩
    · split at h
      · cases e : unitP T V (j + 1) with
        | error q => rw [e] at h; cases h
        | ok q =>
          obtain ⟨j3, v⟩ := q
          rw [e] at h
          obtain ⟨rfl, q2, -⟩ := unitP_len e
          have := sumL_len n _ _ (some 14) j0 j2 u (fun o ho => by cases ho; exact Or.inr rfl) (by rw [fm_app, fm_app, List.length_append, List.length_append]; show _ + _ + _ + 1 + j0 ≤ _; omega) h
          exact ⟨this.1, by omega⟩
      · split at h
        · cases e : unitP T V (j + 1) with
          | error q => rw [e] at h; cases h
          | ok q =>
            obtain ⟨j3, v⟩ := q
            rw [e] at h
            obtain ⟨rfl, q2, -⟩ := unitP_len e
            have := sumL_len n _ _ w j0 j2 u hw (by rw [fm_app, fm_app, List.length_append, List.length_append]; show _ + _ + 1 + wn w + j0 ≤ _; omega) h
            exact ⟨this.1, by omega⟩
        · split at h
          · cases e : divP T V (j + 1) with
            | error q => rw [e] at h; cases h
            | ok q =>
              obtain ⟨j3, v⟩ := q
              rw [e] at h
              obtain ⟨rfl, q2, -⟩ := divP_len e
              have := sumL_len n _ _ w j0 j2 u hw (by rw [fm_app, List.length_append]; omega) h
              exact ⟨this.1, by omega⟩
          · cases h
            rw [fm_app, List.length_append]
            exact ⟨by omega, Nat.le_refl _⟩
theorem sumP_len {j j2 : Nat} {u : List pa_Op} (h : sumP T V j = .ok (j2, u)) : (u.flatMap pa_enc).length + j ≤ j2 ∧ j < j2 := by
  unfold sumP at h
  cases e : unitP T V j with
  | error q => rw [e] at h; cases h
  | ok q =>
    obtain ⟨j3, v⟩ := q
    rw [e] at h
    obtain ⟨rfl, q2, -⟩ := unitP_len e
    have := sumL_len 401 _ v none j j2 u (fun o ho => by cases ho) (by show _ + 0 + j ≤ _; omega) h
    exact ⟨this.1, by omega⟩
theorem relP_len {j j2 : Nat} {u : List pa_Op} (h : relP T V j = .ok (j2, u)) : (u.flatMap pa_enc).length + j ≤ j2 ∧ j < j2 := by
  unfold relP at h
  cases e : sumP T V j with
  | error q => rw [e] at h; cases h
  | ok q =>
    obtain ⟨j3, v⟩ := q
    rw [e] at h
    dsimp only at h
    split at h
    · rename_i c
      cases e2 : sumP T V (j3 + 1) with
      | error q => rw [e2] at h; cases h
      | ok q =>
        obtain ⟨j4, v2⟩ := q
        rw [e2] at h
        cases h
        have a1 := sumP_len e
        have a2 := sumP_len e2
        have : ([((T j3 - 143, 0) : pa_Op)].flatMap pa_enc).length = 1 := by rcases c with c | c | c <;> rw [c] <;> rfl
        rw [fm_app, fm_app, List.length_append, List.length_append, this]
        omega
    · cases h
def wbn (w : Bool) : Nat := if w then 1 else 0
theorem wo_len (w : Bool) : ((wo w).flatMap pa_enc).length = wbn w := by cases w <;> rfl
theorem condL_len {cl : Nat → tRes} (hc : ∀ j j2 u, cl j = .ok (j2, u) → (u.flatMap pa_enc).length + j ≤ j2 ∧ j < j2) : ∀ n j acc w j0 j2 u, (acc.flatMap pa_enc).length + wbn w + j0 ≤ j → condL T cl n j acc w = .ok (j2, u) → (u.flatMap pa_enc).length + j0 ≤ j2 ∧ j ≤ j2
  | 0, _, _, _, _, _, _, _, h => by cases h
  | n + 1, j, acc, w, j0, j2, u, hl, h => by
    have w1 := wo_len w
    unfold condL at h
    split at h
    · cases e : cl (j + 1) with
      | error q => rw [e] at h; cases h
      | ok q =>
        obtain ⟨j3, v⟩ := q
        rw [e] at h
        have q2 := hc _ _ _ e
        have := condL_len hc n _ _ w j0 j2 u (by rw [fm_app, fm_app, List.length_append, List.length_append]; show _ + _ + 1 + wbn w + j0 ≤ _; omega) h
        exact ⟨this.1, by omega⟩
    · split at h
      · cases e : cl (j + 1) with
        | error q => rw [e] at h; cases h
        | ok q =>
          obtain ⟨j3, v⟩ := q
          rw [e] at h
          have q2 := hc _ _ _ e
          have := condL_len hc n _ _ true j0 j2 u (by rw [fm_app, fm_app, List.length_append, List.length_append]; show _ + _ + _ + 1 + j0 ≤ _; omega) h
          exact ⟨this.1, by omega⟩
      · cases h
        rw [fm_app, List.length_append]
        exact ⟨by omega, Nat.le_refl _⟩
theorem condP_len {cl : Nat → tRes} (hc : ∀ j j2 u, cl j = .ok (j2, u) → (u.flatMap pa_enc).length + j ≤ j2 ∧ j < j2) {j j2 : Nat} {u : List pa_Op} (h : condP T cl j = .ok (j2, u)) : (u.flatMap pa_enc).length + j ≤ j2 ∧ j < j2 := by
  unfold condP at h
  cases e : cl j with
  | error q => rw [e] at h; cases h
  | ok q =>
    obtain ⟨j3, v⟩ := q
    rw [e] at h
    have q2 := hc _ _ _ e
    have := condL_len hc 401 j3 v false j j2 u (by show _ + 0 + j ≤ _; omega) h
    exact ⟨this.1, by omega⟩
theorem clauseP_len : ∀ b j j2 u, clauseP T V b j = .ok (j2, u) → (u.flatMap pa_enc).length + j ≤ j2 ∧ j < j2
  | 0, j, j2, u, h => by
    unfold clauseP at h
    split at h
    · cases h
    · exact relP_len h
  | b + 1, j, j2, u, h => by
    unfold clauseP at h
    split at h
    · cases e : condP T (clauseP T V b) (j + 1) with
      | error q => rw [e] at h; cases h
      | ok q =>
        obtain ⟨j3, v⟩ := q
        rw [e] at h
        dsimp only at h
        split at h
        · cases h
          have := condP_len (fun j j2 u q => clauseP_len b j j2 u q) e
          omega
        · cases h
    · split at h
      · cases e : clauseP T V b (j + 1) with
        | error q => rw [e] at h; cases h
        | ok q =>
          obtain ⟨j3, v⟩ := q
          rw [e] at h
          cases h
          have := clauseP_len b _ _ _ e
          rw [fm_app, List.length_append]
          show _ + 1 + j ≤ _ ∧ _
          omega
      · exact relP_len h
end GL
/-! the class reads a condition -/
section CONC
variable {T V P : Nat → Nat} {J : Nat} {z0 : pj_S} {ln : Nat} {cd : List Int32}
theorem rc_sign (hk : cTk T V P J z0) {j : Nat} {z : pj_S} (h : CS z0 ln j cd z) (hj : j ≤ J) (t : Nat) (ht : ∀ s ∈ vT, cT s = nI t ↔ s = 100 + t) : (T j = 100 + t → j + 1 ≤ J ∧ ∃ z2, Reader_readSign (nI t) z = some (nI 1, z2) ∧ CS z0 ln (j + 1) cd z2) ∧ (T j ≠ 100 + t → ∃ z2, Reader_readSign (nI t) z = some (nI 0, z2) ∧ CF P z0 1 j z2) := by
  have q := cT_iff (nI t) (100 + t) ht hk hj
  refine ⟨fun c => ⟨lt_J hk hj c (by omega), ?_⟩, fun c => ?_⟩
  · unfold Reader_readSign
    rw [rc_tok hk h hj, pj_cS, if_pos (q.mpr c), pj_bI]
    exact ⟨_, rfl, rc_nxt h⟩
  · unfold Reader_readSign
    rw [rc_tok hk h hj, pj_cS, if_neg (fun e => c (q.mp e))]
    obtain ⟨z2, e2, s2⟩ := rc_fail hk h hj 1
    rw [e2, pj_cS]
    exact ⟨z2, rfl, s2⟩
theorem rc_wo {j : Nat} {z : pj_S} (w : Bool) (h : CS z0 ln j cd z) (hl : cd.length + wbn w ≤ 400) (K : pj_S → Option (Int32 × pj_S)) :
    ∃ z2, (if b2i w = (0) then K z else pj_c (Reader_emit (-9) z) fun _ z2 => K z2) = K z2 ∧ CS z0 ln j (cd ++ (wo w).flatMap pa_enc) z2 := by
  cases w with
  | false => exact ⟨z, by rw [if_pos (show b2i false = 0 from nI_0)], by rw [show (wo false).flatMap pa_enc = [] from rfl, List.append_nil]; exact h⟩
  | true =>
    have hl : cd.length + 1 ≤ 400 := hl
    obtain ⟨z2, e2, s2⟩ := rc_emit h (by omega) (-9)
    exact ⟨z2, by rw [if_neg (show ¬ b2i true = 0 by decide), e2, pj_cS], s2⟩
theorem rc_condL (hk : cTk T V P J z0) {cl : Nat → tRes} {sR : Int32 → pj_S → Option (Int32 × pj_S)} {v1 : Int32} (hs : ∀ j z cd, CS z0 ln j cd z → j ≤ J → cd.length ≤ j → cRes P J z0 ln cd (cl j) (sR v1 z))
    (hc : ∀ j j2 u, cl j = .ok (j2, u) → (u.flatMap pa_enc).length + j ≤ j2 ∧ j < j2) : ∀ n j acc w q i z, CS z0 ln j (cd ++ acc.flatMap pa_enc) z → j ≤ J → J < n + j → i ≤ j → n < q → (cd ++ acc.flatMap pa_enc).length + wbn w ≤ j →
    cRes P J z0 ln cd (condL T cl n j acc w) (pj_lp3 (Reader_readCondition_14 sR) q v1 (b2i w) (nI i) z)
  | 0, j, acc, w, q, i, z, h, hj, hn, hi, hq, hl => by omega
  | n + 1, j, acc, w, q, i, z, h, hj, hn, hi, hq, hl => by
    have J4 := hk.1
    obtain ⟨q, rfl⟩ : ∃ p, q = p + 1 := ⟨q - 1, by omega⟩
    have rc := fun j acc w i z => rc_condL hk hs hc n j acc w q i z
    rw [pj_lp3_s]
    generalize pj_lp3 (Reader_readCondition_14 sR) q = self at rc ⊢
    have i1 : nI i + nI 1 = nI (i + 1) := by rw [nI_add]
    have nlt : ¬ nI 400 < nI i := by rw [nI_ltP (by decide) (by omega)]; omega
    have w1 := wo_len w
    unfold Reader_readCondition_14 condL
    rw [if_neg nlt, rc_tok hk h hj, pj_cS]
    by_cases c5 : T j = 5
    · have e1 : cT (T j) = -8 := by rw [c5]; rfl
      have hj1 := lt_J hk hj c5 (by decide)
      rw [if_pos c5, if_pos e1]
      unfold Reader_readCondition_39
      rw [rc_tok hk h hj, pj_cS, pj_bI, e1, if_neg (by decide)]
      unfold Reader_readCondition_72
      rw [if_neg (by decide)]
      unfold Reader_readCondition_85
      have eo : b2i w ||| nI 0 = b2i w := by cases w <;> decide
      rw [eo, pj_bI]
      have un := hs (j + 1) _ _ (rc_nxt h) hj1 (by omega)
      cases eu : cl (j + 1) with
      | error e =>
        rw [eu] at un
        obtain ⟨k, jf⟩ := e
        obtain ⟨z3, e3, s3⟩ := un
        rw [e3, pj_cS, if_pos (by decide)]
        exact ⟨z3, rfl, s3⟩
      | ok p =>
        obtain ⟨j2, u⟩ := p
        rw [eu] at un
        obtain ⟨z3, e3, s3, j3, l3⟩ := un
        have q2 := hc _ _ _ eu
        have l4 : (cd ++ acc.flatMap pa_enc ++ u.flatMap pa_enc).length = (cd ++ acc.flatMap pa_enc).length + (u.flatMap pa_enc).length := List.length_append
        obtain ⟨z4, e4, s4⟩ := rc_emit s3 (by omega) (-8)
        rw [e3, pj_cS, if_neg (by decide), if_pos rfl, e4, pj_cS]
        unfold Reader_readCondition_110
        rw [i1, pj_bI]
        have lst : cd ++ acc.flatMap pa_enc ++ u.flatMap pa_enc ++ [-8] = cd ++ (acc ++ u ++ [(21, 0)]).flatMap pa_enc := by rw [fm_app, fm_app]; simp only [List.append_assoc]; rfl
        have ll : (cd ++ acc.flatMap pa_enc ++ u.flatMap pa_enc ++ [-8]).length = (cd ++ acc.flatMap pa_enc).length + (u.flatMap pa_enc).length + 1 := by rw [List.length_append, l4]; rfl
        rw [lst] at s4 ll
        exact rc j2 _ w (i + 1) z4 s4 j3 (by omega) (by omega) (by omega) (by rw [ll]; omega)
    · have n5 : ¬ cT (T j) = -8 := fun e => c5 ((cT_iff (-8) 5 (by decide) hk hj).mp e)
      rw [if_neg c5, if_neg n5, rc_tok hk h hj, pj_cS]
      by_cases c4 : T j = 4
      · have e1 : cT (T j) = -9 := by rw [c4]; rfl
        have hj1 := lt_J hk hj c4 (by decide)
        rw [if_pos c4, if_pos e1]
        unfold Reader_readCondition_39
        rw [rc_tok hk h hj, pj_cS, pj_bI, e1, if_pos rfl]
        obtain ⟨z2, e2, s2⟩ := rc_wo w (rc_nxt h) (by omega) (Reader_readCondition_72 sR self v1 (b2i w) (nI i) (-9))
        rw [e2]
        have l2 : (cd ++ acc.flatMap pa_enc ++ (wo w).flatMap pa_enc).length = (cd ++ acc.flatMap pa_enc).length + wbn w := by rw [List.length_append, w1]
        unfold Reader_readCondition_72
        rw [if_pos rfl]
        unfold Reader_readCondition_85
        have eo : b2i w ||| nI 1 = b2i true := by cases w <;> decide
        rw [eo, pj_bI]
        have un := hs (j + 1) _ _ s2 hj1 (by omega)
        cases eu : cl (j + 1) with
        | error e =>
          rw [eu] at un
          obtain ⟨k, jf⟩ := e
          obtain ⟨z3, e3, s3⟩ := un
          rw [e3, pj_cS, if_pos (by decide)]
          exact ⟨z3, rfl, s3⟩
        | ok p =>
          obtain ⟨j2, u⟩ := p
          rw [eu] at un
          obtain ⟨z3, e3, s3, j3, l3⟩ := un
          have q2 := hc _ _ _ eu
          rw [e3, pj_cS, if_neg (by decide), if_neg (by decide)]
          unfold Reader_readCondition_110
          rw [i1, pj_bI]
          have lst : cd ++ acc.flatMap pa_enc ++ (wo w).flatMap pa_enc ++ u.flatMap pa_enc = cd ++ (acc ++ wo w ++ u).flatMap pa_enc := by rw [fm_app, fm_app]; simp only [List.append_assoc]
          have ll : (cd ++ acc.flatMap pa_enc ++ (wo w).flatMap pa_enc ++ u.flatMap pa_enc).length = (cd ++ acc.flatMap pa_enc).length + wbn w + (u.flatMap pa_enc).length := by rw [List.length_append, l2]
          rw [lst] at s3 ll
          exact rc j2 _ true (i + 1) z3 s3 j3 (by omega) (by omega) (by omega) (by rw [ll]; show _ + 1 ≤ j2; omega)
      · have n4 : ¬ cT (T j) = -9 := fun e => c4 ((cT_iff (-9) 4 (by decide) hk hj).mp e)
        rw [if_neg c4, if_neg n4]
        unfold Reader_readCondition_116
        obtain ⟨z2, e2, s2⟩ := rc_wo w h (by omega) (fun z => pj_g (pj_bo (nI 1)) (some ((nI 1), z)))
        have e2 : (if b2i w = (0) then pj_g (pj_bo (nI 1)) (some ((nI 1), z)) else pj_c (Reader_emit (-9) z) fun _ z2 => pj_g (pj_bo (nI 1)) (some ((nI 1), z2))) = _ := e2
        rw [e2]
        have lst : cd ++ acc.flatMap pa_enc ++ (wo w).flatMap pa_enc = cd ++ (acc ++ wo w).flatMap pa_enc := by rw [fm_app]; simp only [List.append_assoc]
        have ll : (cd ++ acc.flatMap pa_enc ++ (wo w).flatMap pa_enc).length = (cd ++ acc.flatMap pa_enc).length + wbn w := by rw [List.length_append, w1]
        rw [lst] at s2 ll
        exact ⟨z2, rfl, s2, hj, by rw [ll]; exact hl⟩
theorem rc_cond (hk : cTk T V P J z0) {cl : Nat → tRes} {sR : Int32 → pj_S → Option (Int32 × pj_S)} {v1 : Int32} (hs : ∀ j z cd, CS z0 ln j cd z → j ≤ J → cd.length ≤ j → cRes P J z0 ln cd (cl j) (sR v1 z))
    (hc : ∀ j j2 u, cl j = .ok (j2, u) → (u.flatMap pa_enc).length + j ≤ j2 ∧ j < j2) {j : Nat} {z : pj_S} (h : CS z0 ln j cd z) (hj : j ≤ J) (hl : cd.length ≤ j) : cRes P J z0 ln cd (condP T cl j) (Reader_readCondition sR v1 z) := by
  have J4 := hk.1
  have un := hs j z cd h hj hl
  unfold condP Reader_readCondition
  cases eu : cl j with
  | error e =>
    rw [eu] at un
    obtain ⟨k, jf⟩ := e
    obtain ⟨z3, e3, s3⟩ := un
    rw [e3, pj_cS, if_pos (by decide)]
    exact ⟨z3, rfl, s3⟩
  | ok p =>
    obtain ⟨j2, u⟩ := p
    rw [eu] at un
    obtain ⟨z3, e3, s3, j3, l3⟩ := un
    rw [e3, pj_cS, if_neg (by decide)]
    exact rc_condL hk hs hc 401 j2 u false 4000 0 z3 s3 j3 (by omega) (by omega) (by decide) (by show _ + 0 ≤ j2; omega)
end CONC
