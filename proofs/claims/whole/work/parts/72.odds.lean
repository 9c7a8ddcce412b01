/-! lines of a law, on both sides -/
def hold (v : Int32) : Int32 := pj_max (nI 0) (pj_min (nI 1000) v)
theorem hold_n (v : Int32) : ∃ k, k ≤ 1000 ∧ hold v = nI k := by
  unfold hold pj_max pj_min
  by_cases c : v < nI 1000
  · rw [if_pos c]
    by_cases d : nI 0 < v
    · rw [if_pos d]
      have c := Int32.lt_iff_toInt_lt.mp c
      have d := Int32.lt_iff_toInt_lt.mp d
      rw [nI_toInt (by decide)] at c d
      obtain ⟨k, hk, rfl⟩ := nI_of (x := v) (by rw [Int32.lt_iff_toInt_lt]; simp; omega)
      rw [nI_toInt hk] at c
      exact ⟨k, by omega, rfl⟩
    · rw [if_neg d]; exact ⟨0, by decide, rfl⟩
  · rw [if_neg c, if_pos (by decide)]; exact ⟨1000, by decide, rfl⟩
theorem Md_hold_eq (v : Int32) (z : pj_S) : (pj_c (Md_leastM (nI 1000) v z) fun r6 z5 => pj_c (Md_mostM (nI 0) r6 z5) fun r9 z8 => some (r9, z8)) = some (hold v, z) := by
  unfold Md_leastM Md_mostM hold pj_max pj_min
  have key : ∀ u : Int32, (if nI 0 ≤ u then some (u, z) else some (nI 0, z)) = some ((if nI 0 < u then u else nI 0), z) := fun u => by
    by_cases c : nI 0 < u
    · rw [if_pos c, if_pos (Int32.le_iff_toInt_le.mpr (by have := Int32.lt_iff_toInt_lt.mp c; omega))]
    · rw [if_neg c]
      by_cases d : nI 0 ≤ u
      · rw [if_pos d]
        have : u = nI 0 := by
          apply Int32.toInt_inj.mp
          have := Int32.le_iff_toInt_le.mp d
          have : ¬ (nI 0).toInt < u.toInt := fun e => c (Int32.lt_iff_toInt_lt.mpr e)
          omega
        rw [this]
      · rw [if_neg d]
  by_cases c : v < nI 1000
  · rw [if_pos (Int32.le_iff_toInt_le.mpr (by have := Int32.lt_iff_toInt_lt.mp c; omega)), pj_cS, key, pj_cS, if_pos c]
  · rw [if_neg c]
    by_cases d : v ≤ nI 1000
    · have : v = nI 1000 := by
        apply Int32.toInt_inj.mp
        have := Int32.le_iff_toInt_le.mp d
        have : ¬ v.toInt < (nI 1000).toInt := fun e => c (Int32.lt_iff_toInt_lt.mpr e)
        omega
      rw [if_pos d, pj_cS, key, pj_cS, this]
    · rw [if_neg d, pj_cS, key, pj_cS]
theorem Md_comes_run {zm : pj_S} {k m : Nat} {v : Int32} (h : mRun (k + m) zm m k [] [v]) (hk : k + m ≤ 400) (z2 : pj_S) (e : ∀ c, c ≠ 7 → z2.1 c = zm.1 c) :
    ∃ z3, Md_comesTo (nI k) (nI (k + m)) z2 = some (v, z3) ∧ ∀ c, c ≠ 7 → z3.1 c = zm.1 c := by
  obtain ⟨z3, e3, s3, s4, -⟩ := h (3999 - m + 1) z2 ⟨e, trivial⟩
  refine ⟨z3, ?_, s3⟩
  unfold Md_comesTo
  have : (4000 : Nat) = 3999 - m + 1 + m := by omega
  rw [this]
  refine e3.trans ?_
  rw [pj_lp3_s]
  unfold Md_comesTo_5 Md_comesTo_166
  rw [if_pos (nI_le (Nat.le_refl _) (by omega)), pj_gIn (n := 0) (by decide) (by decide), nI_clamp (n := 0) (by decide)]
  have s4 : z3.1 7 0 = v := s4
  rw [s4]
theorem fm_split {α β : Type} (f : α → List β) (pre rest : List α) (x : α) : (pre ++ x :: rest).flatMap f = pre.flatMap f ++ (f x ++ rest.flatMap f) := by
  rw [List.flatMap_append, List.flatMap_cons]
theorem get_mid {β : Type} {a b c : List β} {i : Nat} {v : β} (h : b[i]? = some v) : (a ++ (b ++ c))[a.length + i]? = some v := by
  rw [List.getElem?_append_right (by omega), Nat.add_sub_cancel_left, List.getElem?_append_left (List.getElem?_eq_some_iff.mp h).1]
  exact h
theorem srt_1 {b : Bool} {a : List Int32} (h : srt [b] a) : ∃ v, a = [v] ∧ (b = true → v = nI 0 ∨ v = nI 1) := by
  obtain ⟨x, l, rfl, hx, hl⟩ := srt_c h
  cases l with
  | nil => exact ⟨x, rfl, hx⟩
  | cons _ _ => exact hl.elim
def pa_tl : Option (List pa_Op) → List Int32
  | none => [-18]
  | some t => t.flatMap pa_enc ++ [-19]
theorem pa_encL_tl (wo : List pa_Op) (te : Option (List pa_Op)) : pa_encL (wo, te) = wo.flatMap pa_enc ++ pa_tl te := by cases te <;> rfl
section LINES
variable {h1 s : Int32} {fa : Nat → Int32} {zc zm : pj_S} {pr : List pa_Ln}
theorem odds_run (hT : ∀ k, 1 ≤ k → k ≤ 7 → ∀ z2, (∀ c, c ≠ 9 → c ≠ 30 → z2.1 c = zc.1 c) → z2.2 = zc.2 → Law_traitOf (-10 - nI k) h1 s z2 = some (fa k, z2)) (hM : ∀ k, 1 ≤ k → k ≤ 7 → zm.1 8 k = fa k)
    (hl : zc.1 9 2 = nI (pr.flatMap pa_encL).length) (hL : (pr.flatMap pa_encL).length ≤ 400) (hO : (pr.flatMap pa_ops).length ≤ 400) (h16 : pr.length ≤ 16) (hok : ∀ x ∈ pr, pa_okL x)
    (hcode : ∀ j v, (pr.flatMap pa_encL)[j]? = some v → zc.1 29 j = v) (hw : pa_M pr (zm.1 1)) : ∀ (rest pre : List pa_Ln), pr = pre ++ rest → ∃ r, (∃ k, k ≤ 1000 ∧ r = nI k) ∧
    (∀ n z2, (rest.flatMap pa_encL).length < n → pc_stk [] zc z2 → ∃ z3 l, pj_lp3 Law_oddsOf_8 n h1 s (nI (pre.flatMap pa_encL).length) z2 = some (r, z3) ∧ pc_stk l zc z3) ∧
    (∀ n z2, rest.length < n → (∀ c, c ≠ 7 → z2.1 c = zm.1 c) → ∃ z3, pj_lp1 Md_oddsOf_185 n (nI pre.length) z2 = some (r, z3) ∧ ∀ c, c ≠ 7 → z3.1 c = zm.1 c)
  | [], pre, he => by
    rw [List.append_nil] at he
    subst he
    refine ⟨nI 500, ⟨500, by decide, rfl⟩, fun n z2 hn hs => ⟨z2, [], ?_, hs⟩, fun n z2 hn hs => ⟨z2, ?_, hs⟩⟩
    · obtain ⟨n, rfl⟩ : ∃ m, n = m + 1 := ⟨n - 1, by omega⟩
      rw [pj_lp3_s]
      unfold Law_oddsOf_8 Law_oddsOf_107
      rw [hs.2.2.1 2 (by decide), hl, if_pos (nI_le (Nat.le_refl _) (by omega))]
    · obtain ⟨n, rfl⟩ : ∃ m, n = m + 1 := ⟨n - 1, by omega⟩
      rw [pj_lp1_s]
      unfold Md_oddsOf_185 Md_oddsOf_289
      rw [pj_gIn (n := 605) (by decide) (by decide), nI_clamp (n := 605) (by decide), hs 1 (by decide), hw.1, if_pos (nI_le (Nat.le_refl _) (by omega))]
  | (wo, te) :: rest, pre, he => by
    obtain ⟨r, hr, ihc, ihm⟩ := odds_run hT hM hl hL hO h16 hok hcode hw rest (pre ++ [(wo, te)]) (by rw [he]; simp)
    have eP : ((pre ++ [(wo, te)]).flatMap pa_encL).length = (pre.flatMap pa_encL).length + (pa_encL (wo, te)).length := by simp
    have eI : (pre ++ [(wo, te)]).length = pre.length + 1 := by simp
    rw [eP] at ihc
    rw [eI] at ihm
    have okx := hok (wo, te) (by rw [he]; simp)
    have hc : ∀ i v, (pa_encL (wo, te))[i]? = some v → zc.1 29 ((pre.flatMap pa_encL).length + i) = v := fun i v hi => hcode _ v (by rw [he, fm_split]; exact get_mid hi)
    have hLP : (pre.flatMap pa_encL).length + (pa_encL (wo, te)).length ≤ (pr.flatMap pa_encL).length := by rw [he, fm_split, List.length_append, List.length_append]; omega
    have ho : ∀ i o, (pa_ops (wo, te))[i]? = some o → zm.1 1 (670 + 2 * ((pre.flatMap pa_ops).length + i)) = nI o.1 ∧ ((o.1 = 0 ∨ o.1 = 16) → zm.1 1 (671 + 2 * ((pre.flatMap pa_ops).length + i)) = o.2) := fun i o hi => hw.2.2 _ o (by rw [he, fm_split]; exact get_mid hi)
    have hA : (pre.flatMap pa_ops).length + (pa_ops (wo, te)).length ≤ 400 := by
      have := hO
      rw [he, fm_split, List.length_append, List.length_append] at this; omega
    have hi : pre.length < pr.length := by rw [he]; simp
    obtain ⟨w1, w2, w3⟩ := hw.2.1 pre.length hi
    have t1 : pr.take pre.length = pre := by rw [he]; simp
    have t2 : pr[pre.length]? = some (wo, te) := by rw [he]; simp
    have t3 : pr.take (pre.length + 1) = pre ++ [(wo, te)] := by
      rw [he, List.take_append, List.take_of_length_le (by omega), Nat.add_sub_cancel_left]; simp
    have t4 : ((pre ++ [(wo, te)]).flatMap pa_ops).length = (pre.flatMap pa_ops).length + (pa_ops (wo, te)).length := by simp
    rw [t1] at w1
    rw [t1, t2] at w2
    rw [t3, t4] at w3
    replace w2 : zm.1 1 (630 + pre.length) = nI ((pre.flatMap pa_ops).length + wo.length) := w2
    have hlL := hL
    generalize (pre.flatMap pa_encL).length = P at *
    generalize (pre.flatMap pa_ops).length = A at *
    generalize hLe : (pr.flatMap pa_encL).length = L at *
    generalize hIe : pre.length = I at *
    -- the worth
    have opl : (pa_ops (wo, te)).length = wo.length + (te.getD []).length := by unfold pa_ops; rw [List.length_append]
    have ecl : ∃ tl, pa_encL (wo, te) = wo.flatMap pa_enc ++ tl ∧ tl = pa_tl te := ⟨_, pa_encL_tl wo te, rfl⟩
    obtain ⟨tl, ecl, etl⟩ := ecl
    have ell : (pa_encL (wo, te)).length = (wo.flatMap pa_enc).length + tl.length := by rw [ecl, List.length_append]
    obtain ⟨a, sa, ca, ma⟩ := ops_run (base := []) (J := A + wo.length) hT hM hl hL (by omega) (by decide) wo [] [false] [] P A okx.1 trivial (fun i v hi => hc i v (by rw [ecl, List.getElem?_append_left (List.getElem?_eq_some_iff.mp hi).1]; exact hi)) (by omega)
      (fun i o hi => ho i o (by unfold pa_ops; rw [List.getElem?_append_left (List.getElem?_eq_some_iff.mp hi).1]; exact hi)) (Nat.le_refl _)
    obtain ⟨v, rfl, -⟩ := srt_1 sa
    have worth : ∀ z2, (∀ c, c ≠ 7 → z2.1 c = zm.1 c) → ∃ z3, Md_oddsOf_248 (nI I) z2 = some (hold v, z3) ∧ ∀ c, c ≠ 7 → z3.1 c = zm.1 c := fun z2 hs => by
      obtain ⟨z3, e3, s3⟩ := Md_comes_run ma (by omega) z2 hs
      refine ⟨z3, ?_, s3⟩
      unfold Md_oddsOf_248
      have i1 : nI 610 + nI I = nI (610 + I) := by rw [nI_add]
      have i2 : nI 630 + nI I = nI (630 + I) := by rw [nI_add]
      rw [i1, i2, pj_gIn (n := 610 + I) (by omega) (by decide), pj_gIn (n := 630 + I) (by omega) (by decide), nI_clamp (n := 610 + I) (by omega), nI_clamp (n := 630 + I) (by omega), hs 1 (by decide), w1, w2, e3, pj_cS, Md_hold_eq]
    obtain ⟨kv, hkv, ekv⟩ := hold_n v
    have ca : cRun h1 s zc (wo.flatMap pa_enc).length P [] [v] := ca
    have mstart : ∀ n z2, (∀ c, c ≠ 7 → z2.1 c = zm.1 c) → pj_lp1 Md_oddsOf_185 (n + 1) (nI I) z2 = (if (zm.1 1 (650 + I)) = (zm.1 1 (630 + I)) then Md_oddsOf_248 (nI I) z2 else
        pj_c (Md_comesTo (zm.1 1 (630 + I)) (zm.1 1 (650 + I)) z2) fun r3 z2 => if r3 = (nI 1) then Md_oddsOf_248 (nI I) z2 else pj_lp1 Md_oddsOf_185 n (nI (I + 1)) z2) := fun n z2 hs => by
      rw [pj_lp1_s]
      unfold Md_oddsOf_185
      have i1 : nI 650 + nI I = nI (650 + I) := by rw [nI_add]
      have i2 : nI 630 + nI I = nI (630 + I) := by rw [nI_add]
      have i3 : nI I + nI 1 = nI (I + 1) := by rw [nI_add]
      rw [pj_gIn (n := 605) (by decide) (by decide), nI_clamp (n := 605) (by decide), hs 1 (by decide), hw.1, if_neg (by rw [nI_leP (by omega) (by omega)]; omega), i1, i2, pj_gIn (n := 650 + I) (by omega) (by decide), pj_gIn (n := 630 + I) (by omega) (by decide), nI_clamp (n := 650 + I) (by omega), nI_clamp (n := 630 + I) (by omega), pj_gIn (n := 630 + I) (by omega) (by decide), pj_gIn (n := 650 + I) (by omega) (by decide), i3]
      rfl
    have cend : ∀ (n q : Nat) (x : Int32) (z3 : pj_S) (l : List Int32), pc_stk l zc z3 → q < L → zc.1 29 q = x → pj_lp3 Law_oddsOf_8 (n + 1) h1 s (nI q) z3 = (if x = (-18 : Int32) then (
        Law_oddsOf_43 z3
      ) else (
        if x = (-19 : Int32) then (
          pj_c (Law_pop z3) fun r7 z6 =>
          if r7 = (0) then (
            Law_oddsOf_70 (pj_lp3 Law_oddsOf_8 n) h1 s (nI q) (nI 0) z6
          ) else (
            Law_oddsOf_70 (pj_lp3 Law_oddsOf_8 n) h1 s (nI q) (nI 1) z6
          )
        ) else (
          pj_c (Law_reckon x h1 s z3) fun _ z3 =>
          Law_oddsOf_101 (pj_lp3 Law_oddsOf_8 n) h1 s (nI q) z3
        )
      )) := fun n q x z3 l hs hq hx => by
      rw [pj_lp3_s]
      unfold Law_oddsOf_8
      rw [hs.2.2.1 2 (by decide), hl, if_neg (by rw [nI_leP (by omega) (by omega)]; omega), if_neg (by rw [nI_leP (by omega) (by omega)]; omega), pj_gIn (n := q) (by omega) (by decide), nI_clamp (n := q) (by omega), hs.1 29 (by decide) (by decide), hx, pj_bI]
    cases te with
    | none =>
      have etl : tl = [-18] := etl
      subst etl
      refine ⟨hold v, ⟨kv, hkv, ekv⟩, fun n z2 hn hs => ?_, fun n z2 hn hs => ?_⟩
      · have hn : ((pa_encL (wo, none)) ++ (rest.flatMap pa_encL)).length < n := hn
        rw [List.length_append, ell] at hn
        obtain ⟨n, rfl⟩ : ∃ m, n = m + 1 + (wo.flatMap pa_enc).length := ⟨n - 1 - (wo.flatMap pa_enc).length, by omega⟩
        obtain ⟨z3, e3, s3⟩ := ca (n + 1) z2 hs
        obtain ⟨z4, e4, s4⟩ := Law_pop_eq s3 (by decide)
        have cx : zc.1 29 (P + (wo.flatMap pa_enc).length) = -18 := hc _ _ (by rw [ecl, List.getElem?_append_right (Nat.le_refl _), Nat.sub_self]; rfl)
        refine ⟨z4, [], ?_, s4⟩
        have ll : P + ((wo.flatMap pa_enc).length + 1) ≤ L := by rw [ell] at hLP; exact hLP
        rw [e3, cend n _ _ z3 _ s3 (by omega) cx, if_pos rfl]
        unfold Law_oddsOf_43
        rw [e4, pj_cS]; rfl
      · obtain ⟨n, rfl⟩ : ∃ m, n = m + 1 := ⟨n - 1, by omega⟩
        obtain ⟨z3, e3, s3⟩ := worth z2 hs
        have ol : (pa_ops (wo, none)).length = wo.length := opl
        refine ⟨z3, ?_, s3⟩
        rw [mstart n z2 hs, w3, w2, ol, if_pos rfl, e3]
    | some t =>
      have etl : tl = t.flatMap pa_enc ++ [-19] := etl
      have okt := okx.2 t rfl
      have ol : (pa_ops (wo, some t)).length = wo.length + t.length := opl
      have tll : tl.length = (t.flatMap pa_enc).length + 1 := by rw [etl, List.length_append]; rfl
      have t0 : 0 < t.length := by
        cases t with
        | nil => exact absurd okt (by simp [pa_sos])
        | cons _ _ => simp
      obtain ⟨a, sa, cb, mb⟩ := ops_run (base := [v]) (J := A + wo.length + t.length) hT hM hl hL (by omega) (Nat.le_refl 1) t [] [true] [] (P + (wo.flatMap pa_enc).length) (A + wo.length) okt trivial (fun i u hi => by
        rw [Nat.add_assoc]
        exact hc _ u (by rw [ecl, List.getElem?_append_right (by omega), Nat.add_sub_cancel_left, etl, List.getElem?_append_left (List.getElem?_eq_some_iff.mp hi).1]; exact hi)) (by omega)
        (fun i o hi => by
          rw [Nat.add_assoc]
          exact ho _ o (by
            show (wo ++ t)[wo.length + i]? = some o
            rw [List.getElem?_append_right (by omega), Nat.add_sub_cancel_left]; exact hi)) (Nat.le_refl _)
      obtain ⟨u, rfl, hu⟩ := srt_1 sa
      have hu := hu rfl
      have cab : cRun h1 s zc ((wo.flatMap pa_enc).length + (t.flatMap pa_enc).length) P [] [u, v] := ca.tr cb
      have cx : zc.1 29 (P + ((wo.flatMap pa_enc).length + (t.flatMap pa_enc).length)) = -19 := hc _ _ (by rw [ecl, List.getElem?_append_right (by omega), Nat.add_sub_cancel_left, etl, List.getElem?_append_right (Nat.le_refl _), Nat.sub_self]; rfl)
      have ctail : ∀ n z2, (((wo, some t) :: rest).flatMap pa_encL).length < n → pc_stk [] zc z2 → ∃ z4 m, (rest.flatMap pa_encL).length < m ∧ pc_stk [] zc z4 ∧ pj_lp3 Law_oddsOf_8 n h1 s (nI P) z2 = (if u = 0 then pj_lp3 Law_oddsOf_8 m h1 s (nI (P + (pa_encL (wo, some t)).length)) z4 else some (hold v, z4)) := fun n z2 hn hs => by
        have hn : ((pa_encL (wo, some t)) ++ (rest.flatMap pa_encL)).length < n := hn
        rw [List.length_append, ell] at hn
        obtain ⟨n, rfl⟩ : ∃ m, n = m + 1 + ((wo.flatMap pa_enc).length + (t.flatMap pa_enc).length) := ⟨n - 1 - ((wo.flatMap pa_enc).length + (t.flatMap pa_enc).length), by omega⟩
        obtain ⟨z3, e3, s3⟩ := cab (n + 1) z2 hs
        obtain ⟨z4, e4, s4⟩ := Law_pop_eq s3 (by show 1 < 64; decide)
        obtain ⟨z5, e5, s5⟩ := Law_pop_eq s4 (by decide)
        refine ⟨z5, n, by omega, s5, ?_⟩
        rw [e3, cend n _ _ z3 _ s3 (by omega) cx, if_neg (by decide), if_pos rfl, e4, pj_cS]
        unfold Law_oddsOf_70 Law_oddsOf_101 Law_oddsOf_83
        by_cases c : u = 0
        · rw [if_pos c, if_pos c, e5, pj_cS, if_pos (by decide), nI_add, pj_bI, ell, tll, show P + ((wo.flatMap pa_enc).length + (t.flatMap pa_enc).length) + 1 = P + ((wo.flatMap pa_enc).length + ((t.flatMap pa_enc).length + 1)) by omega]
        · rw [if_neg c, if_neg c, e5, pj_cS, if_neg (by decide)]; rfl
      have neq : ¬ nI (A + (wo.length + t.length)) = nI (A + wo.length) := fun e => by
        have := (nI_eq (by omega) (by omega)).mp e
        omega
      have mtail : ∀ n z2, (∀ c, c ≠ 7 → z2.1 c = zm.1 c) → ∃ z4, (∀ c, c ≠ 7 → z4.1 c = zm.1 c) ∧ pj_lp1 Md_oddsOf_185 (n + 1) (nI I) z2 = (if u = nI 1 then Md_oddsOf_248 (nI I) z4 else pj_lp1 Md_oddsOf_185 n (nI (I + 1)) z4) := fun n z2 hs => by
        obtain ⟨z3, e3, s3⟩ := Md_comes_run mb (by omega) z2 hs
        refine ⟨z3, s3, ?_⟩
        rw [mstart n z2 hs, w3, w2, ol, if_neg neq, ← Nat.add_assoc, e3, pj_cS]
      rcases hu with rfl | rfl
      · refine ⟨r, hr, fun n z2 hn hs => ?_, fun n z2 hn hs => ?_⟩
        · obtain ⟨z4, m, hm, s4, e4⟩ := ctail n z2 hn hs
          rw [e4, if_pos (by decide)]
          exact ihc m z4 hm s4
        · obtain ⟨n, rfl⟩ : ∃ m, n = m + 1 := ⟨n - 1, by omega⟩
          have hn : rest.length + 1 < n + 1 := hn
          obtain ⟨z4, s4, e4⟩ := mtail n z2 hs
          rw [e4, if_neg (by decide)]
          exact ihm n z4 (by omega) s4
      · refine ⟨hold v, ⟨kv, hkv, ekv⟩, fun n z2 hn hs => ?_, fun n z2 hn hs => ?_⟩
        · obtain ⟨z4, m, hm, s4, e4⟩ := ctail n z2 hn hs
          rw [e4, if_neg (by decide)]
          exact ⟨z4, [], rfl, s4⟩
        · obtain ⟨n, rfl⟩ : ∃ m, n = m + 1 := ⟨n - 1, by omega⟩
          obtain ⟨z4, s4, e4⟩ := mtail n z2 hs
          rw [e4, if_pos rfl]
          exact worth z4 s4
end LINES
