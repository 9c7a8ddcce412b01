/-! the class reads -/
def vT : List Nat := [0, 1, 2, 3, 4, 5, 6, 20, 41, 42, 43, 44, 45, 46, 47, 140, 141, 142, 143, 145, 147, 159, 160, 161, 162]
def cT (t : Nat) : Int32 := if t = 0 then nI 0 else if t = 1 then nI 2 else if t = 2 then nI 1 else if t = 3 then -19 else if t = 4 then -9 else if t = 5 then -8 else if t = 6 then -10 else if t = 20 then -18 else if t ≤ 47 then -10 - nI (t - 40) else nI (t - 100)
/-- the tokens as the class has them -/
def cTk (T V P : Nat → Nat) (J : Nat) (z : pj_S) : Prop := J ≤ 400 ∧ (T J = 0 ∨ T J = 1) ∧ (∀ j, j ≤ J → T j ∈ vT) ∧ z.1 5 4 = nI (J + 1) ∧ ∀ j, j ≤ J → z.1 24 j = cT (T j) ∧ z.1 25 j = nI (P j) ∧ (T j = 2 → z.1 26 j = nI (V j))
def CS (z0 : pj_S) (ln j : Nat) (cd : List Int32) (z : pj_S) : Prop := (∀ c, c ≠ 5 → c ≠ 27 → z.1 c = z0.1 c) ∧ z.2 = z0.2 ∧ z.1 5 4 = z0.1 5 4 ∧ z.1 5 7 = nI ln ∧ z.1 5 8 = z0.1 5 8 ∧ z.1 5 9 = z0.1 5 9 ∧ z.1 5 5 = nI j ∧ z.1 5 6 = nI cd.length ∧ ∀ i v, cd[i]? = some v → z.1 27 i = v
def CF (P : Nat → Nat) (z0 : pj_S) (k jf : Nat) (z : pj_S) : Prop := (∀ c, c ≠ 5 → c ≠ 27 → z.1 c = z0.1 c) ∧ z.2 = z0.2 ∧ z.1 5 8 = nI k ∧ z.1 5 9 = nI (P jf)
def cRes (P : Nat → Nat) (J : Nat) (z0 : pj_S) (ln : Nat) (cd : List Int32) (r : tRes) (x : Option (Int32 × pj_S)) : Prop := match r with
  | .ok (j2, u) => ∃ z2, x = some (nI 1, z2) ∧ CS z0 ln j2 (cd ++ u.flatMap pa_enc) z2 ∧ j2 ≤ J ∧ (cd ++ u.flatMap pa_enc).length ≤ j2
  | .error (k, jf) => ∃ z2, x = some (nI 0, z2) ∧ CF P z0 k jf z2
section RC
variable {T V P : Nat → Nat} {J : Nat} {z0 : pj_S} {ln j : Nat} {cd : List Int32} {z : pj_S}
theorem rc_tok (hk : cTk T V P J z0) (h : CS z0 ln j cd z) (hj : j ≤ J) : Reader_token z = some (cT (T j), z) := by
  obtain ⟨k1, k2, k3, k4, k5⟩ := hk
  obtain ⟨c1, c2, c3, c4, c5, c6, c7, c8, c9⟩ := h
  unfold Reader_token
  rw [c7, c3, k4, if_neg (nI_pos (by omega)), if_neg (by rw [nI_leP (by omega) (by omega)]; omega), if_neg (by rw [nI_leP (by omega) (by omega)]; omega), pj_gIn (n := j) (by omega) (by decide), nI_clamp (n := j) (by omega), c1 24 (by decide) (by decide), (k5 j hj).1]
theorem rc_val (hk : cTk T V P J z0) (h : CS z0 ln j cd z) (hj : j ≤ J) (h2 : T j = 2) : Reader_value z = some (nI (V j), z) := by
  obtain ⟨k1, k2, k3, k4, k5⟩ := hk
  obtain ⟨c1, c2, c3, c4, c5, c6, c7, c8, c9⟩ := h
  unfold Reader_value
  rw [c7, c3, k4, if_neg (nI_pos (by omega)), if_neg (by rw [nI_leP (by omega) (by omega)]; omega), if_neg (by rw [nI_leP (by omega) (by omega)]; omega), pj_gIn (n := j) (by omega) (by decide), nI_clamp (n := j) (by omega), c1 26 (by decide) (by decide), (k5 j hj).2.2 h2]
theorem rc_emit (h : CS z0 ln j cd z) (hl : cd.length < 400) (v : Int32) : ∃ z2, Reader_emit v z = some ((), z2) ∧ CS z0 ln j (cd ++ [v]) z2 := by
  obtain ⟨c1, c2, c3, c4, c5, c6, c7, c8, c9⟩ := h
  unfold Reader_emit
  have e : (pj_sI z 27 cd.length v).1 5 6 = nI cd.length := by rw [ag_n _ _ _ _ (by decide)]; exact c8
  rw [c8, if_neg (nI_pos (by omega)), if_neg (by rw [nI_leP (by decide) (by omega)]; omega), pj_gIn (n := cd.length) hl (by decide), nI_clamp (n := cd.length) (by omega), pj_bI, e, nI_add, pj_bI]
  refine ⟨_, rfl, fun c q1 q2 => ?_, c2, c3, c4, c5, c6, c7, ?_, fun i u hi => ?_⟩
  · rw [ag_n _ _ _ _ q1, ag_n _ _ _ _ q2]; exact c1 c q1 q2
  · rw [List.length_append]; rfl
  · rw [ag_n _ _ _ _ (by decide), ag_1]
    by_cases c : i < cd.length
    · rw [List.getElem?_append_left c] at hi
      rw [upd_ne (by omega)]; exact c9 i u hi
    · have : i = cd.length := by
        have := (List.getElem?_eq_some_iff.mp hi).1
        rw [List.length_append] at this
        have : i < cd.length + 1 := this
        omega
      subst this
      rw [List.getElem?_append_right (Nat.le_refl _), Nat.sub_self] at hi
      have hi : some v = some u := hi
      cases hi
      rw [upd_s]
theorem rc_nxt (h : CS z0 ln j cd z) : CS z0 ln (j + 1) cd (pj_sI z 5 5 ((z.1 5 5) + (nI 1))) := by
  obtain ⟨c1, c2, c3, c4, c5, c6, c7, c8, c9⟩ := h
  rw [c7, nI_add]
  exact ⟨fun c q1 q2 => by rw [ag_n _ _ _ _ q1]; exact c1 c q1 q2, c2, c3, c4, c5, c6, rfl, c8, c9⟩
theorem rc_fail (hk : cTk T V P J z0) (h : CS z0 ln j cd z) (hj : j ≤ J) (k : Nat) : ∃ z2, Reader_fails (nI k) z = some (nI 0, z2) ∧ CF P z0 k j z2 := by
  obtain ⟨k1, k2, k3, k4, k5⟩ := hk
  obtain ⟨c1, c2, c3, c4, c5, c6, c7, c8, c9⟩ := h
  unfold Reader_fails Reader_fails_38
  have e : (pj_sI z 5 8 (nI k)).1 5 5 = nI j := c7
  rw [pj_bI, e, if_neg (nI_pos (by omega)), if_neg (by rw [nI_leP (by omega) (by omega)]; omega), pj_gIn (n := j) (by omega) (by decide), nI_clamp (n := j) (by omega), ag_n _ _ _ _ (by decide), c1 25 (by decide) (by decide), (k5 j hj).2.1, pj_bI]
  refine ⟨_, rfl, fun c q1 q2 => ?_, c2, rfl, rfl⟩
  rw [ag_n _ _ _ _ q1, ag_n _ _ _ _ q1]; exact c1 c q1 q2
/-- what a token of the class is equal to -/
theorem cT_iff (x : Int32) (t0 : Nat) (h : ∀ t ∈ vT, cT t = x ↔ t = t0) (hk : cTk T V P J z0) (hj : j ≤ J) : (cT (T j) = x) = (T j = t0) := propext (h _ (hk.2.2.1 j hj))
theorem lt_J (hk : cTk T V P J z0) (hj : j ≤ J) {t : Nat} (h : T j = t) (ht : 2 ≤ t) : j + 1 ≤ J := by
  by_cases c : j = J
  · subst c
    have := hk.2.1
    omega
  · omega
theorem pa_enc_tr {k : Nat} (k1 : 1 ≤ k) (k7 : k ≤ 7) (v : Int32) : pa_enc (k, v) = [-10 - nI k] := by
  unfold pa_enc
  rw [if_neg (by show ¬ k = 0; omega), if_pos k7]
theorem rc_unit (hk : cTk T V P J z0) (h : CS z0 ln j cd z) (hj : j ≤ J) (hl : cd.length ≤ j) : cRes P J z0 ln cd (unitP T V j) (Reader_readUnit z) := by
  have J4 := hk.1
  have hv := hk.2.2.1 j hj
  unfold unitP Reader_readUnit Reader_readUnit_41 Reader_readUnit_47
  rw [rc_tok hk h hj, pj_cS]
  by_cases c2 : T j = 2
  · have hj1 := lt_J hk hj c2 (by decide)
    rw [if_pos c2, if_pos (by rw [c2]; rfl), rc_val hk h hj c2, pj_cS]
    obtain ⟨z2, e2, s2⟩ := rc_emit h (by omega) (nI (V j))
    rw [e2, pj_cS, pj_bI]
    refine ⟨_, rfl, rc_nxt s2, hj1, ?_⟩
    rw [List.length_append]
    show cd.length + 1 ≤ j + 1
    omega
  · have n1 : ¬ cT (T j) = nI 1 := fun e => c2 ((cT_iff (nI 1) 2 (by decide) hk hj).mp e)
    rw [if_neg c2, if_neg n1]
    by_cases c4 : 41 ≤ T j ∧ T j ≤ 47
    · have hj1 := lt_J hk hj rfl (show 2 ≤ T j by omega)
      have ec : cT (T j) = -10 - nI (T j - 40) := by
        have : ∀ t ∈ vT, 41 ≤ t ∧ t ≤ 47 → cT t = -10 - nI (t - 40) := by decide
        exact this _ hv c4
      have q1 : ¬ (-11 : Int32) < cT (T j) ∧ ¬ cT (T j) < -17 := by
        have : ∀ t ∈ vT, 41 ≤ t ∧ t ≤ 47 → ¬ (-11 : Int32) < cT t ∧ ¬ cT t < -17 := by decide
        exact this _ hv c4
      rw [if_pos c4, if_neg q1.1, if_neg q1.2]
      obtain ⟨z2, e2, s2⟩ := rc_emit h (by omega) (cT (T j))
      have en : [((T j - 40, 0) : pa_Op)].flatMap pa_enc = [cT (T j)] := by
        rw [ec, List.flatMap_cons, pa_enc_tr (by omega) (by omega)]; rfl
      rw [e2, pj_cS, pj_bI]
      refine ⟨_, rfl, ?_, hj1, ?_⟩
      · rw [en]; exact rc_nxt s2
      · rw [en, List.length_append]
        show cd.length + 1 ≤ j + 1
        omega
    · rw [if_neg c4]
      obtain ⟨z2, e2, s2⟩ := rc_fail hk h hj 1
      rw [e2, pj_cS]
      have : (-11 : Int32) < cT (T j) ∨ cT (T j) < -17 := by
        have : ∀ t ∈ vT, ¬ t = 2 → ¬ (41 ≤ t ∧ t ≤ 47) → (-11 : Int32) < cT t ∨ cT t < -17 := by decide
        exact this _ hv c2 c4
      by_cases q : (-11 : Int32) < cT (T j)
      · rw [if_pos q]; exact ⟨z2, rfl, s2⟩
      · rw [if_neg q, if_pos (this.resolve_left q)]; exact ⟨z2, rfl, s2⟩
theorem rc_div (hk : cTk T V P J z0) (h : CS z0 ln j cd z) (hj : j ≤ J) (hl : cd.length + 1 ≤ j) (hV : V j < 2 ^ 31) : match divP T V j with
    | .ok (j2, u) => u = [(16, nI (V j))] ∧ j2 = j + 1 ∧ j + 1 ≤ J ∧ ∃ z2, Reader_readDivisor z = some (nI 1, z2) ∧ CS z0 ln (j + 1) (cd ++ [nI (V j)]) z2
    | .error (k, jf) => ∃ z2, Reader_readDivisor z = some (nI 0, z2) ∧ CF P z0 k jf z2 := by
  have J4 := hk.1
  unfold divP Reader_readDivisor
  rw [rc_tok hk h hj, pj_cS]
  by_cases c2 : T j = 2
  · have hj1 := lt_J hk hj c2 (by decide)
    have t1 : cT (T j) = nI 1 := by rw [c2]; rfl
    rw [if_pos c2, if_pos t1, rc_val hk h hj c2, pj_cS]
    by_cases c0 : V j = 0
    · have v0 : nI (V j) = 0 := by rw [c0]; rfl
      rw [if_pos c0, if_pos v0]
      obtain ⟨z2, e2, s2⟩ := rc_fail hk h hj 2
      rw [e2, pj_cS]
      exact ⟨z2, rfl, s2⟩
    · have v0 : ¬ nI (V j) = 0 := nI_ne0 (by omega) hV
      rw [if_neg c0, if_neg v0, rc_val hk h hj c2, pj_cS]
      obtain ⟨z2, e2, s2⟩ := rc_emit h (by omega) (nI (V j))
      rw [e2, pj_cS, pj_bI]
      exact ⟨rfl, rfl, hj1, _, rfl, rc_nxt s2⟩
  · have n1 : ¬ cT (T j) = nI 1 := fun e => c2 ((cT_iff (nI 1) 2 (by decide) hk hj).mp e)
    rw [if_neg c2, if_neg n1]
    obtain ⟨z2, e2, s2⟩ := rc_fail hk h hj 1
    rw [e2, pj_cS]
    exact ⟨z2, rfl, s2⟩
/-- what waits -/
def wc : Option Nat → Int32
  | none => nI 0
  | some o => if o = 13 then -1 else -2
theorem wc_enc {o : Nat} (h : o = 13 ∨ o = 14) : pa_enc (o, 0) = [wc (some o)] := by rcases h with rfl | rfl <;> rfl
theorem wl_enc {w : Option Nat} (h : ∀ o, w = some o → o = 13 ∨ o = 14) : (wl w).flatMap pa_enc = (match w with
    | none => []
    | some o => [wc (some o)]) := by
  cases w with
  | none => rfl
  | some o => show pa_enc (o, 0) ++ [] = _; rw [wc_enc (h o rfl)]; rfl
end RC
