/-! the model reads a condition, a clause -/
section CM
variable {T V P en : Nat → Nat} {J : Nat} {z0 : pj_S} {ln : Nat} {fl : Nat → Int32} {dp : Nat} {ops : List pa_Op}
def KC (sR : pj_S → Option (Int32 × pj_S)) (w : Bool) (q : Nat) (r : Int32) (z : pj_S) : Option (Int32 × pj_S) :=
  if r = (0) then pj_g (pj_bo (nI 0)) (some ((nI 0), z)) else (match w with
    | false => pj_lp0 (Md_any_9 sR) q z
    | true => pj_c (Md_lay (nI 22) (nI 0) z) fun _ z8 => pj_lp0 (Md_any_9 sR) q z8)
theorem rm_wo {j : Nat} {z : pj_S} (sR : pj_S → Option (Int32 × pj_S)) (w : Bool) (h : MS T V P en z0 ln fl dp j ops z) (hl : ops.length + wbn w ≤ 400) (q : Nat) : ∃ z2, KC sR w q (nI 1) z = pj_lp0 (Md_any_9 sR) q z2 ∧ MS T V P en z0 ln fl dp j (ops ++ wo w) z2 := by
  unfold KC
  rw [if_neg (by decide)]
  cases w with
  | false => exact ⟨z, rfl, by rw [show wo false = [] from rfl, List.append_nil]; exact h⟩
  | true =>
    have hl : ops.length + 1 ≤ 400 := hl
    obtain ⟨z2, e2, s2⟩ := rm_lay h (by omega) 22 (nI 0) (22, 0) rfl (fun q => absurd q (by show ¬ ((22 : Nat) = 0 ∨ (22 : Nat) = 16); omega))
    exact ⟨z2, by dsimp only; rw [e2, pj_cS], s2⟩
theorem rm_condL (hk : mTk T V P en J z0) {cl : Nat → tRes} {sR : pj_S → Option (Int32 × pj_S)} (hs : ∀ j z ops, MS T V P en z0 ln fl dp j ops z → j ≤ J → ops.length ≤ j → mRes T V P en J z0 ln fl dp ops (cl j) (sR z))
    (hc : ∀ j j2 u, cl j = .ok (j2, u) → (u.flatMap pa_enc).length + j ≤ j2 ∧ j < j2) : ∀ n j acc w p q z, MS T V P en z0 ln fl dp j (ops ++ acc) z → j ≤ J → J < n + j → n < p → n < q → n ≤ 401 → (ops ++ acc).length + wbn w ≤ j →
    mRes T V P en J z0 ln fl dp ops (condL T cl n j acc w) (pj_c (pj_lp0 (Md_every_9 sR) p z) (KC sR w q))
  | 0, j, acc, w, p, q, z, h, hj, hn, hp, hq, hn4, hl => by omega
  | n + 1, j, acc, w, p, q, z, h, hj, hn, hp, hq, hn4, hl => by
    have J4 := hk.1
    obtain ⟨p, rfl⟩ : ∃ x, p = x + 1 := ⟨p - 1, by omega⟩
    have rc := fun j acc w p q z => rm_condL hk hs hc n j acc w p q z
    have tk := rm_tok hk h
    have fail : ∀ z3, KC sR w q (nI 0) z3 = some (nI 0, z3) := fun z3 => by unfold KC; rw [if_pos (by decide)]; rfl
    unfold condL
    by_cases c5 : T j = 5
    · have hj1 := lt_Jm hk hj c5 (by decide)
      obtain ⟨z3, e3, s3⟩ := rm_nxt hk h hj1
      have un := hs (j + 1) z3 _ s3 (by omega) (by omega)
      rw [if_pos c5, pj_lp0_s]
      unfold Md_every_9
      rw [if_pos (by rw [tk 5 (by decide)]; exact c5), e3, pj_cS]
      cases eu : cl (j + 1) with
      | error e =>
        rw [eu] at un
        obtain ⟨k, jf⟩ := e
        obtain ⟨z4, e4, s4⟩ := un
        rw [e4, pj_cS, if_pos (by decide)]
        exact ⟨z4, fail z4, s4⟩
      | ok pp =>
        obtain ⟨j2, u⟩ := pp
        rw [eu] at un
        obtain ⟨z4, e4, s4, j4⟩ := un
        have q2 := hc _ _ _ eu
        have lu := len_enc u
        have l4 : (ops ++ acc ++ u).length = (ops ++ acc).length + u.length := List.length_append
        obtain ⟨z5, e5, s5⟩ := rm_lay s4 (by omega) 21 (nI 0) (21, 0) rfl (fun q => absurd q (by show ¬ ((21 : Nat) = 0 ∨ (21 : Nat) = 16); omega))
        rw [e4, pj_cS, if_neg (by decide), e5, pj_cS]
        have lst : ops ++ acc ++ u ++ [((21, 0) : pa_Op)] = ops ++ (acc ++ u ++ [(21, 0)]) := by simp only [List.append_assoc]
        have l5 : (ops ++ acc ++ u ++ [((21, 0) : pa_Op)]).length = (ops ++ acc).length + u.length + 1 := by rw [List.length_append, l4]; rfl
        rw [lst] at s5 l5
        exact rc _ _ w p q z5 s5 j4 (by omega) (by omega) (by omega) (by omega) (by rw [l5]; omega)
    · have ex : pj_lp0 (Md_every_9 sR) (p + 1) z = some (nI 1, z) := by
        rw [pj_lp0_s]
        unfold Md_every_9
        rw [if_neg (by rw [tk 5 (by decide)]; exact c5)]; rfl
      obtain ⟨q, rfl⟩ : ∃ x, q = x + 1 := ⟨q - 1, by omega⟩
      obtain ⟨z2, e2, s2⟩ := rm_wo sR w h (by omega) (q + 1)
      have tk2 := rm_tok hk s2
      rw [if_neg c5, ex, pj_cS, e2, pj_lp0_s]
      by_cases c4 : T j = 4
      · have hj1 := lt_Jm hk hj c4 (by decide)
        obtain ⟨z3, e3, s3⟩ := rm_nxt hk s2 hj1
        have l2 : (ops ++ acc ++ wo w).length = (ops ++ acc).length + wbn w := by rw [List.length_append]; cases w <;> rfl
        have un := hs (j + 1) z3 _ s3 (by omega) (by omega)
        have go : Md_any_9 sR (pj_lp0 (Md_any_9 sR) q) z2 = pj_c (Md_every sR z3) (KC sR true q) := by
          generalize hself : pj_lp0 (Md_any_9 sR) q = self
          unfold Md_any_9 KC
          rw [if_pos (by rw [tk2 4 (by decide)]; exact c4), e3, pj_cS, ← hself]
        rw [if_pos c4, go]
        unfold Md_every
        cases eu : cl (j + 1) with
        | error e =>
          rw [eu] at un
          obtain ⟨k, jf⟩ := e
          obtain ⟨z4, e4, s4⟩ := un
          rw [e4, pj_cS, if_pos (by decide)]
          exact ⟨z4, rfl, s4⟩
        | ok pp =>
          obtain ⟨j2, u⟩ := pp
          rw [eu] at un
          obtain ⟨z4, e4, s4, j4⟩ := un
          have q2 := hc _ _ _ eu
          have lu := len_enc u
          rw [e4, pj_cS, if_neg (by decide)]
          have lst : ops ++ acc ++ wo w ++ u = ops ++ (acc ++ wo w ++ u) := by simp only [List.append_assoc]
          have l5 : (ops ++ acc ++ wo w ++ u).length = (ops ++ acc).length + wbn w + u.length := by rw [List.length_append, l2]
          rw [lst] at s4 l5
          exact rc _ _ true 4000 q z4 s4 j4 (by omega) (by omega) (by omega) (by omega) (by rw [l5]; show _ + 1 ≤ j2; omega)
      · unfold Md_any_9
        rw [if_neg c4, if_neg (by rw [tk2 4 (by decide)]; exact c4)]
        rw [List.append_assoc] at s2
        exact ⟨z2, rfl, s2, hj⟩
theorem rm_cond (hk : mTk T V P en J z0) {cl : Nat → tRes} {sR : pj_S → Option (Int32 × pj_S)} (hs : ∀ j z ops, MS T V P en z0 ln fl dp j ops z → j ≤ J → ops.length ≤ j → mRes T V P en J z0 ln fl dp ops (cl j) (sR z))
    (hc : ∀ j j2 u, cl j = .ok (j2, u) → (u.flatMap pa_enc).length + j ≤ j2 ∧ j < j2) {j : Nat} {z : pj_S} (h : MS T V P en z0 ln fl dp j ops z) (hj : j ≤ J) (hl : ops.length ≤ j) : mRes T V P en J z0 ln fl dp ops (condP T cl j) (Md_any sR z) := by
  have J4 := hk.1
  have un := hs j z ops h hj hl
  have go : Md_any sR z = pj_c (Md_every sR z) (KC sR false 4000) := rfl
  rw [go]
  unfold condP Md_every
  cases eu : cl j with
  | error e =>
    rw [eu] at un
    obtain ⟨k, jf⟩ := e
    obtain ⟨z3, e3, s3⟩ := un
    rw [e3, pj_cS, if_pos (by decide)]
    exact ⟨z3, rfl, s3⟩
  | ok p =>
    obtain ⟨j2, u⟩ := p
    rw [eu] at un
    obtain ⟨z3, e3, s3, j3⟩ := un
    have q2 := hc _ _ _ eu
    have lu := len_enc u
    rw [e3, pj_cS, if_neg (by decide)]
    exact rm_condL hk hs hc 401 j2 u false 4000 4000 z3 s3 j3 (by omega) (by decide) (by decide) (by decide) (by rw [List.length_append]; show _ + 0 ≤ j2; omega)
theorem rm_dp {j : Nat} {z : pj_S} (h : MS T V P en z0 ln fl dp j ops z) (d2 : Nat) : MS T V P en z0 ln fl d2 j ops (pj_sI z 0 20 (nI d2)) := by
  obtain ⟨f1, f2, f3, f4, f5, f6, f7, f8⟩ := h
  exact ⟨⟨fun c a b d => by rw [ag_n _ _ _ _ a]; exact f1.1 c a b d, fun k a1 a2 a3 a4 a5 a6 a7 a8 a9 => by rw [ag_1, upd_ne a9]; exact f1.2 k a1 a2 a3 a4 a5 a6 a7 a8 a9⟩, f2, f3, f4, f5, rfl, f7, f8⟩
theorem rm_opens (hk : mTk T V P en J z0) {j : Nat} {z : pj_S} (h : MS T V P en z0 ln fl dp j ops z) (hj : j < J) (hd : dp < 8) : ∃ z2, Md_opens z = some (nI 1, z2) ∧ MS T V P en z0 ln fl (dp + 1) (j + 1) ops z2 := by
  unfold Md_opens
  rw [h.2.2.2.2.2.1, if_neg (by rw [nI_eq (by omega) (by decide)]; omega), nI_add, pj_bI]
  obtain ⟨z2, e2, s2⟩ := rm_nxt hk (rm_dp h (dp + 1)) hj
  rw [e2, pj_cS]
  exact ⟨z2, rfl, s2⟩
theorem rm_need (hk : mTk T V P en J z0) {j : Nat} {z : pj_S} (h : MS T V P en z0 ln fl dp j ops z) (hj : j ≤ J) (t : Nat) (ht : 2 ≤ t ∧ t < 1000) : (T j = t → j + 1 ≤ J ∧ ∃ z2, Md_need (nI t) z = some (nI 1, z2) ∧ MS T V P en z0 ln fl dp (j + 1) ops z2) ∧ (T j ≠ t → ∃ z2, Md_need (nI t) z = some (nI 0, z2) ∧ MF P z0 1 j z2) := by
  have tk := rm_tok hk h t ht.2
  refine ⟨fun c => ?_, fun c => ?_⟩
  · have hj1 := lt_Jm hk hj c ht.1
    obtain ⟨z2, e2, s2⟩ := rm_nxt hk h hj1
    unfold Md_need
    rw [if_pos (tk.mpr c), e2, pj_cS]
    exact ⟨hj1, z2, rfl, s2⟩
  · unfold Md_need
    rw [if_neg (fun e => c (tk.mp e))]
    obtain ⟨z2, e2, s2⟩ := rm_bad h 1
    rw [e2, pj_cS]
    exact ⟨z2, rfl, s2⟩
theorem rm_rel (hk : mTk T V P en J z0) (hV : ∀ j, V j < 2 ^ 31) (sR : pj_S → Option (Int32 × pj_S)) {j : Nat} {z : pj_S} (h : MS T V P en z0 ln fl dp j ops z) (hj : j ≤ J) (hl : ops.length ≤ j) : mRes T V P en J z0 ln fl dp ops (relP T V j) (pj_c (Md_sumUp z) fun r3 z2 =>
      if r3 = (0) then (
        pj_g (pj_bo (nI 0)) (some ((nI 0), z2))
      ) else (
        if (z2.1 0 14) = (nI 160) then (
          Md_oneTest_147 sR (nI 17) z2
        ) else (
          if (z2.1 0 14) = (nI 161) then (
            Md_oneTest_147 sR (nI 18) z2
          ) else (
            if (z2.1 0 14) = (nI 162) then (
              Md_oneTest_147 sR (nI 19) z2
            ) else (
              Md_oneTest_147 sR (-1 : Int32) z2
            )
          )
        )
      )) := by
  have J4 := hk.1
  have un := rm_sum hk hV h hj hl
  unfold relP
  cases eu : sumP T V j with
  | error e =>
    rw [eu] at un
    obtain ⟨k, jf⟩ := e
    obtain ⟨z3, e3, s3⟩ := un
    rw [e3, pj_cS, if_pos (by decide)]
    exact ⟨z3, rfl, s3⟩
  | ok p =>
    obtain ⟨j2, u⟩ := p
    rw [eu] at un
    obtain ⟨z3, e3, s3, j3⟩ := un
    have q2 := sumP_len eu
    have lu := len_enc u
    have lo2 : (ops ++ u).length = ops.length + u.length := List.length_append
    have tk := rm_tok hk s3
    rw [e3, pj_cS, if_neg (by decide)]
    have tail : ∀ o, (o = 17 ∨ o = 18 ∨ o = 19) → T j2 = 143 + o → mRes T V P en J z0 ln fl dp ops (match sumP T V (j2 + 1) with
      | .error e => .error e
      | .ok (j3, u2) => .ok (j3, u ++ u2 ++ [(T j2 - 143, 0)])) (Md_oneTest_147 sR (nI o) z3) := fun o ho hT => by
      have hj1 := lt_Jm hk j3 hT (by omega)
      obtain ⟨z4, e4, s4⟩ := rm_nxt hk s3 hj1
      have ne : ¬ nI o = -1 := by rcases ho with rfl | rfl | rfl <;> decide
      unfold Md_oneTest_147
      rw [if_neg ne, e4, pj_cS]
      have un2 := rm_sum hk hV s4 (by omega) (by omega)
      cases eu2 : sumP T V (j2 + 1) with
      | error e =>
        rw [eu2] at un2
        obtain ⟨k, jf⟩ := e
        obtain ⟨z5, e5, s5⟩ := un2
        rw [e5, pj_cS, if_pos (by decide)]
        exact ⟨z5, rfl, s5⟩
      | ok p =>
        obtain ⟨j4, u2⟩ := p
        rw [eu2] at un2
        obtain ⟨z5, e5, s5, j5⟩ := un2
        have q3 := sumP_len eu2
        have lu2 := len_enc u2
        have l6 : (ops ++ u ++ u2).length = ops.length + u.length + u2.length := by rw [List.length_append, lo2]
        obtain ⟨z6, e6, s6⟩ := rm_lay s5 (by omega) o (nI 0) (o, 0) rfl (fun q => absurd q (by show ¬ (o = 0 ∨ o = 16); omega))
        rw [e5, pj_cS, if_neg (by decide), e6, pj_cS]
        have eo : T j2 - 143 = o := by omega
        rw [eo]
        have lst : ops ++ u ++ u2 ++ [((o, 0) : pa_Op)] = ops ++ (u ++ u2 ++ [(o, 0)]) := by simp only [List.append_assoc]
        rw [lst] at s6
        exact ⟨z6, rfl, s6, j5⟩
    dsimp only
    by_cases c1 : T j2 = 160
    · rw [if_pos (Or.inl c1), if_pos ((tk 160 (by decide)).mpr c1)]
      exact tail 17 (by omega) c1
    · rw [if_neg (fun e => c1 ((tk 160 (by decide)).mp e))]
      by_cases c2 : T j2 = 161
      · rw [if_pos (Or.inr (Or.inl c2)), if_pos ((tk 161 (by decide)).mpr c2)]
        exact tail 18 (by omega) c2
      · rw [if_neg (fun e => c2 ((tk 161 (by decide)).mp e))]
        by_cases c3 : T j2 = 162
        · rw [if_pos (Or.inr (Or.inr c3)), if_pos ((tk 162 (by decide)).mpr c3)]
          exact tail 19 (by omega) c3
        · have no : ¬ (T j2 = 160 ∨ T j2 = 161 ∨ T j2 = 162) := by omega
          rw [if_neg no, if_neg (fun e => c3 ((tk 162 (by decide)).mp e))]
          obtain ⟨z4, e4, s4⟩ := rm_bad s3 1
          unfold Md_oneTest_147
          rw [if_pos rfl, e4, pj_cS]
          exact ⟨z4, rfl, s4⟩
theorem rm_clause (hk : mTk T V P en J z0) (hV : ∀ j, V j < 2 ^ 31) : ∀ b q, b < q → b ≤ 8 → ∀ j z ops, MS T V P en z0 ln fl (8 - b) j ops z → j ≤ J → ops.length ≤ j → mRes T V P en J z0 ln fl (8 - b) ops (clauseP T V b j) (pj_lp0 Md_oneTest_B q z)
  | 0, q, hq, hb, j, z, ops, h, hj, hl => by
    obtain ⟨q, rfl⟩ : ∃ p, q = p + 1 := ⟨q - 1, by omega⟩
    rw [pj_lp0_s]
    generalize pj_lp0 Md_oneTest_B q = sR
    have tk := rm_tok hk h
    have fl' : ∃ z2, Md_opens z = some (nI 0, z2) ∧ MF P z0 3 j z2 := by
      unfold Md_opens
      rw [h.2.2.2.2.2.1, if_pos rfl]
      obtain ⟨z4, e4, s4⟩ := rm_bad h 3
      rw [e4, pj_cS]
      exact ⟨z4, rfl, s4⟩
    obtain ⟨z2, e2, s2⟩ := fl'
    unfold Md_oneTest_B clauseP
    by_cases c2 : T j = 6
    · rw [if_pos (Or.inr c2), if_pos ((tk 6 (by decide)).mpr c2), e2, pj_cS, if_pos (by decide)]
      exact ⟨z2, rfl, s2⟩
    · rw [if_neg (fun e => c2 ((tk 6 (by decide)).mp e))]
      by_cases c1 : T j = 140
      · rw [if_pos (Or.inl c1), if_pos ((tk 140 (by decide)).mpr c1), e2, pj_cS, if_pos (by decide)]
        exact ⟨z2, rfl, s2⟩
      · have no : ¬ (T j = 140 ∨ T j = 6) := by omega
        rw [if_neg no, if_neg (fun e => c1 ((tk 140 (by decide)).mp e))]
        exact rm_rel hk hV sR h hj hl
  | b + 1, q, hq, hb, j, z, ops, h, hj, hl => by
    obtain ⟨q, rfl⟩ : ∃ p, q = p + 1 := ⟨q - 1, by omega⟩
    have J4 := hk.1
    have rc := rm_clause hk hV b q (by omega) (by omega)
    rw [pj_lp0_s]
    generalize pj_lp0 Md_oneTest_B q = sR at rc ⊢
    have tk := rm_tok hk h
    have e8 : 8 - (b + 1) + 1 = 8 - b := by omega
    have back : ∀ {j' : Nat} {z' : pj_S} {ops' : List pa_Op}, MS T V P en z0 ln fl (8 - b) j' ops' z' → MS T V P en z0 ln fl (8 - (b + 1)) j' ops' (pj_sI z' 0 20 (z'.1 0 20 - nI 1)) := fun {j'} {z'} {ops'} h' => by
      have : z'.1 0 20 - nI 1 = nI (8 - (b + 1)) := by rw [h'.2.2.2.2.2.1, pk_sub (by omega)]; congr 1
      rw [this]
      exact rm_dp h' _
    unfold Md_oneTest_B clauseP
    by_cases c2 : T j = 6
    · have hj1 := lt_Jm hk hj c2 (by decide)
      have n1 : ¬ T j = 140 := by omega
      obtain ⟨z2, e2, s2⟩ := rm_opens hk h hj1 (by omega)
      rw [e8] at s2
      rw [if_neg n1, if_pos c2, if_pos ((tk 6 (by decide)).mpr c2), e2, pj_cS, if_neg (by decide)]
      have un := rc (j + 1) z2 ops s2 (by omega) (by omega)
      cases eu : clauseP T V b (j + 1) with
      | error e =>
        rw [eu] at un
        obtain ⟨k, jf⟩ := e
        obtain ⟨z3, e3, s3⟩ := un
        rw [e3, pj_cS, if_pos (by decide)]
        exact ⟨z3, rfl, s3⟩
      | ok p =>
        obtain ⟨j2, u⟩ := p
        rw [eu] at un
        obtain ⟨z3, e3, s3, j3⟩ := un
        have q2 := clauseP_len b _ _ _ eu
        have lu := len_enc u
        have l4 : (ops ++ u).length = ops.length + u.length := List.length_append
        obtain ⟨z4, e4, s4⟩ := rm_lay (back s3) (by omega) 20 (nI 0) (20, 0) rfl (fun q => absurd q (by show ¬ ((20 : Nat) = 0 ∨ (20 : Nat) = 16); omega))
        rw [e3, pj_cS, if_neg (by decide), pj_bI, e4, pj_cS]
        rw [List.append_assoc] at s4
        exact ⟨z4, rfl, s4, j3⟩
    · rw [if_neg (fun e => c2 ((tk 6 (by decide)).mp e))]
      by_cases c1 : T j = 140
      · have hj1 := lt_Jm hk hj c1 (by decide)
        obtain ⟨z2, e2, s2⟩ := rm_opens hk h hj1 (by omega)
        rw [e8] at s2
        rw [if_pos c1, if_pos ((tk 140 (by decide)).mpr c1), e2, pj_cS, if_neg (by decide)]
        have un := rm_cond hk rc (fun j j2 u q => clauseP_len b j j2 u q) s2 (by omega) (by omega)
        cases eu : condP T (clauseP T V b) (j + 1) with
        | error e =>
          rw [eu] at un
          obtain ⟨k, jf⟩ := e
          obtain ⟨z3, e3, s3⟩ := un
          rw [e3, pj_cS, if_pos (by decide)]
          exact ⟨z3, rfl, s3⟩
        | ok p =>
          obtain ⟨j2, u⟩ := p
          rw [eu] at un
          obtain ⟨z3, e3, s3, j3⟩ := un
          obtain ⟨g1, g2⟩ := rm_need hk s3 j3 141 (by decide)
          rw [e3, pj_cS, if_neg (by decide)]
          dsimp only
          by_cases c3 : T j2 = 141
          · obtain ⟨j4, z4, e4, s4⟩ := g1 c3
            rw [if_pos c3, e4, pj_cS, if_neg (by decide), pj_bI]
            exact ⟨_, rfl, back s4, j4⟩
          · obtain ⟨z4, e4, s4⟩ := g2 c3
            rw [if_neg c3, e4, pj_cS, if_pos (by decide)]
            exact ⟨z4, rfl, s4⟩
      · rw [if_neg c1, if_neg c2, if_neg (fun e => c1 ((tk 140 (by decide)).mp e))]
        exact rm_rel hk hV sR h hj hl
end CM
