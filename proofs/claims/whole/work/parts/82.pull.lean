/-! pull -/
section WB
variable {W H : Nat} {b : Bool} {hr nb nl : Nat} {pr : List pa_Ln} {n m : Nat} {zC zM : pj_S}
theorem tch_st (hW : 2 ≤ W ∧ W ≤ 6) {dir : Bool} {k0 j t : Nat} (hk0 : k0 < W * H) (hj : j ≤ plJ dir (W * H) k0) (h : tch W dir k0 j t = true) : stit W H t = true := by
  obtain ⟨i, hi, rfl⟩ := (tch_iff j).mp h
  refine (stA_st hW ?_).1
  unfold plJ at hj
  unfold pl
  cases dir <;> simp at hj ⊢ <;> omega
/-- the new length, in both -/
theorem wool_both (h : pa_A W H b hr nb nl pr n m zC zM) (hK : pa_K zC zM) {x : Int64} {z2 : pj_S} (g1 : ∀ c, c ≠ 1 → z2.1 c = zM.1 c) (g2 : ∀ a, a < 1490 → z2.1 1 a = zM.1 1 a) (g3 : ∀ t, t < 64 → z2.1 1 (1490 + t) = b2i (tb (zC.2 8 8) t || tb x t))
    (hst : ∀ t, t < 64 → tb x t = true → stit W H t = true) (hh : ∀ t, t < 64 → tb x t = true → tb (zC.2 8 6) t = false) {v : Nat} (hv1 : 1 ≤ v) (hv2 : v ≤ 180) :
    ∃ zC2 zM2, Wool_note (nI v) (pj_sJ zC 8 8 ((zC.2 8 8) ||| x)) = some ((), zC2) ∧ Md_winds_88 (nI v) z2 = some ((), zM2) ∧ pa_A W H b hr nb (min (nl + 1) 20) pr n m zC2 zM2 ∧ pa_K zC2 zM2 ∧ zC2.1 6 1 = zC.1 6 1 ∧ zM2.1 0 = zM.1 0 := by
  obtain ⟨⟨hF, hH, hd, hB, hU, hL⟩, h1, h2, h3, hP⟩ := id h
  obtain ⟨f1, ⟨a1, a2, a3, a4, a5, a6⟩, f3, f4, f5, f6, f7, f8, f9, f10, f11⟩ := id hF
  obtain ⟨u1, u2, u3, u4⟩ := id hU
  have newF : ∀ w3 : Nat → Int32, (∀ a, a < 1490 → a ≠ 3 → (a < 270 ∨ 290 ≤ a) → w3 a = zM.1 1 a) → (∀ t, t < 64 → w3 (1490 + t) = b2i (tb (zC.2 8 8) t || tb x t)) → pa_F W H b (zC.1 8) ((pj_sJ zC 8 8 ((zC.2 8 8) ||| x)).2 8) w3 := fun w3 q1 q2 => by
    refine ⟨f1, ⟨a1, a2, a3, by rw [q1 0 (by decide) (by decide) (by decide)]; exact a4, by rw [q1 1 (by decide) (by decide) (by decide)]; exact a5, by rw [q1 2 (by decide) (by decide) (by decide)]; exact a6⟩, f3, fun s hs => by rw [q1 _ (by omega) (by omega) (by omega)]; exact f4 s hs, fun s hs => by rw [q1 _ (by omega) (by omega) (by omega)]; exact f5 s hs, fun s hs => by rw [q1 _ (by omega) (by omega) (by omega)]; exact f6 s hs, fun s hs => ?_, fun s hs => by rw [q1 _ (by omega) (by omega) (by omega)]; exact f8 s hs, fun s hs e => ?_, f10, fun s hs e => ?_⟩
    · rw [q2 s hs]
      show _ = b2i (tb ((zC.2 8 8) ||| x) s)
      rw [tb_or]
    · obtain ⟨e1, e2, e3, e4, e5⟩ := f9 s hs e
      refine ⟨e1, e2, e3, e4, ?_⟩
      show tb ((zC.2 8 8) ||| x) s = false
      rw [tb_or, e5, Bool.false_or]
      cases q : tb x s
      · rfl
      · rw [hst s hs q] at e; cases e
    · have e : tb ((zC.2 8 8) ||| x) s = true := e
      show tb (zC.2 8 6) s = false
      rw [tb_or, Bool.or_eq_true] at e
      rcases e with e | e
      · exact f11 s hs e
      · exact hh s hs e
  have c11 : (pj_sJ zC 8 8 ((zC.2 8 8) ||| x)).1 11 1 = nI nl := u2
  have w3n : z2.1 1 3 = nI nl := by rw [g2 3 (by decide)]; exact u3
  unfold Wool_note Md_winds_88
  rw [c11, if_neg (nI_pos (by omega)), pj_gIn (n := 3) (by decide) (by decide), nI_clamp (n := 3) (by decide), w3n]
  by_cases c : nl = 20
  · subst c
    rw [if_pos (nI_le (by decide) (by decide)), if_pos rfl]
    refine ⟨_, _, rfl, rfl, ⟨⟨newF _ (fun a q _ _ => g2 a q) g3, ⟨hH.1, hH.2.1, by rw [g2 5 (by decide)]; exact hH.2.2⟩, by rw [g2 6 (by decide)]; exact hd, hB.w (fun i hi => g2 i (by omega)), hU.w (fun i hi => g2 i (by omega)), hL.w (fun i i1 i2 => g2 i i2)⟩, h1, by rw [g1 0 (by decide)]; exact h2, h3, ?_⟩, ?_, rfl, g1 0 (by decide)⟩
    · rw [g1 3 (by decide)]; exact hP
    · unfold pa_K at hK ⊢
      rw [g1 0 (by decide), g1 2 (by decide), g1 6 (by decide)]
      exact hK
  · have nle : ¬ nI 20 ≤ nI nl := by rw [nI_leP (by decide) (by omega)]; omega
    have neq : ¬ nI nl = nI 20 := by rw [nI_eq (by omega) (by decide)]; exact c
    have c11b : (pj_sI (pj_sJ zC 8 8 ((zC.2 8 8) ||| x)) 34 nl (nI v)).1 11 1 = nI nl := u2
    have w3b : (pj_sI z2 1 (270 + nl) (nI v)).1 1 3 = nI nl := by rw [ag_1, upd_ne (by omega)]; exact w3n
    have i1 : nI 270 + nI nl = nI (270 + nl) := by rw [nI_add]
    rw [if_neg nle, if_neg neq, pj_gIn (n := nl) (by omega) (by decide), nI_clamp (n := nl) (by omega), pj_bI, c11b, nI_add, pj_bI, pj_gIn (n := 3) (by decide) (by decide), i1, pj_gIn (n := 270 + nl) (by omega) (by decide), nI_clamp (n := 270 + nl) (by omega), pj_bI, pj_gIn (n := 3) (by decide) (by decide), pj_gIn (n := 3) (by decide) (by decide), w3b, nI_add, pj_bI, Nat.min_eq_left (by omega)]
    have ew : ∀ a, a ≠ 3 → a ≠ 270 + nl → (pj_sI (pj_sI z2 1 (270 + nl) (nI v)) 1 3 (nI (nl + 1))).1 1 a = z2.1 1 a := fun a q1 q2 => by rw [ag_1, upd_ne q1, ag_1, upd_ne q2]
    have e0 : ∀ c, c ≠ 1 → (pj_sI (pj_sI z2 1 (270 + nl) (nI v)) 1 3 (nI (nl + 1))).1 c = zM.1 c := fun c hc => by rw [ag_n _ _ _ _ hc, ag_n _ _ _ _ hc, g1 c hc]
    refine ⟨_, _, rfl, rfl, ⟨⟨newF _ (fun a q q3 q4 => by rw [ew a q3 (by omega)]; exact g2 a q) (fun t ht => by rw [ew _ (by omega) (by omega)]; exact g3 t ht), ⟨hH.1, hH.2.1, by rw [ew 5 (by omega) (by omega), g2 5 (by decide)]; exact hH.2.2⟩, by rw [ew 6 (by omega) (by omega), g2 6 (by decide)]; exact hd, hB.w (fun i hi => by rw [ew i (by omega) (by omega)]; exact g2 i (by omega)), ?_, hL.w (fun i i1 i2 => by rw [ew i (by omega) (by omega)]; exact g2 i i2)⟩, h1, by rw [e0 0 (by decide)]; exact h2, h3, ?_⟩, ?_, rfl, e0 0 (by decide)⟩
    · refine ⟨by omega, rfl, by rw [ag_1, upd_s], fun i hi => ?_⟩
      by_cases ci : i = nl
      · subst ci
        refine ⟨v, hv1, hv2, ?_, ?_⟩
        · show upd (zC.1 34) i (nI v) i = nI v
          rw [upd_s]
        · rw [ag_1, upd_ne (by omega), ag_1, upd_s]
      · obtain ⟨u, r1, r2, r3, r4⟩ := u4 i (by omega)
        refine ⟨u, r1, r2, ?_, ?_⟩
        · show upd (zC.1 34) nl (nI v) i = nI u
          rw [upd_ne ci]; exact r3
        · rw [ew _ (by omega) (by omega), g2 _ (by omega)]; exact r4
    · rw [e0 3 (by decide)]; exact hP.mono (Nat.le_refl _) (by omega)
    · unfold pa_K at hK ⊢
      rw [e0 0 (by decide), e0 2 (by decide), e0 6 (by decide)]
      exact hK
theorem wind_both (h : pa_A W H b hr nb nl pr n m zC zM) (hK : pa_K zC zM) {x : Int64} {dir : Bool} {k0 j : Nat} (hk0 : k0 < W * H) (hj : j ≤ plJ dir (W * H) k0) (h27 : zM.1 0 27 = nI j) (hx : ∀ t, t < 64 → tb x t = tch W dir k0 j t)
    (hh : ∀ t, t < 64 → tb x t = true → tb (zC.2 8 6) t = false) {s : Nat} (hs : s < 48) (hs1 : tb x s = true) (hs2 : tb (zC.2 8 8) s = false) :
    ∃ v zC2 zM2, Fabric_wind x zC = some (v, pj_sJ zC 8 8 ((zC.2 8 8) ||| x)) ∧ Wool_note v (pj_sJ zC 8 8 ((zC.2 8 8) ||| x)) = some ((), zC2) ∧ Md_winds (nI k0) (b2i dir) zM = some ((), zM2) ∧ pa_A W H b hr nb (min (nl + 1) 20) pr n m zC2 zM2 ∧ pa_K zC2 zM2 ∧ zC2.1 6 1 = zC.1 6 1 ∧ zM2.1 0 = zM.1 0 := by
  have hF := h.1.1
  obtain ⟨p1, p2⟩ := wh_b hF.1
  obtain ⟨f1, ⟨a1, a2, a3, a4, a5, a6⟩, f3, f4, f5, f6, f7, -⟩ := id hF
  have j36 : plJ dir (W * H) k0 ≤ 36 := by unfold plJ; split <;> omega
  have w0 : sm (wf (tch W dir k0 0) (tb (zC.2 8 8)) (kdb (tb (zC.2 8 4)) (tb (zC.2 8 5)))) 48 = 0 := sm_zero 48 (fun i _ => rfl)
  obtain ⟨z2, e2, g1, g2, g3, g4⟩ := winds_run (W := W) (H := H) (dir := dir) (k0 := k0) (z := zM) (kd := kdb (tb (zC.2 8 4)) (tb (zC.2 8 5))) (wd := tb (zC.2 8 8)) ⟨f1.1, f1.2.1⟩ f1.2.2.2 p2 hk0 a4 f4 (kdb_lt _ _) hj h27 j 0 4000 zM (by omega) (by omega) (fun _ _ => rfl) (fun _ _ => rfl) (fun t ht => by rw [f7 t ht]; unfold tch; rw [Bool.or_false]) (by rw [w0]; omega)
  rw [w0] at e2
  have es : sm (wf (tch W dir k0 j) (tb (zC.2 8 8)) (kdb (tb (zC.2 8 4)) (tb (zC.2 8 5)))) 48 = sm (wf (tb x) (tb (zC.2 8 8)) (kdb (tb (zC.2 8 4)) (tb (zC.2 8 5)))) 48 := sm_congr 48 (fun i hi => by unfold wf; rw [hx i (by omega)])
  rw [es] at e2 g4
  have ew := Fabric_wind_eq zC x
  have hv1 : 2 ≤ sm (wf (tb x) (tb (zC.2 8 8)) (kdb (tb (zC.2 8 4)) (tb (zC.2 8 5)))) 48 := by
    have q := sm_ge (f := wf (tb x) (tb (zC.2 8 8)) (kdb (tb (zC.2 8 4)) (tb (zC.2 8 5)))) (a := s) 48 hs
    have : wf (tb x) (tb (zC.2 8 8)) (kdb (tb (zC.2 8 4)) (tb (zC.2 8 5))) s = lkN (kdb (tb (zC.2 8 4)) (tb (zC.2 8 5)) s) := by unfold wf; rw [hs1, hs2]; rfl
    rw [this] at q
    have := lkN_b (kdb (tb (zC.2 8 4)) (tb (zC.2 8 5)) s)
    omega
  generalize sm (wf (tb x) (tb (zC.2 8 8)) (kdb (tb (zC.2 8 4)) (tb (zC.2 8 5)))) 48 = v at e2 g4 ew hv1
  obtain ⟨zC2, zM2, r1, r2, r3⟩ := wool_both h hK (x := x) (z2 := z2) g1 g2 (fun t ht => by rw [hx t ht]; exact g3 t ht) (fun t ht q => tch_st ⟨f1.1, f1.2.1⟩ hk0 hj (by rw [← hx t ht]; exact q)) hh (v := v) (by omega) (by omega)
  refine ⟨nI v, zC2, zM2, ew, r1, ?_, r3⟩
  unfold Md_winds
  exact e2.trans r2
end WB
theorem ok_pull (a c d : Int32) : pj_ok pa_I (PJ_pull a c d) (Md_pull a c d) := by
  intro zC zM h
  obtain ⟨⟨W, H, b, hr, nb, nl, pr, n, m, hA⟩, hK⟩ := id h
  obtain ⟨p1, p2⟩ := wh_b hA.1.1.1
  have hF := hA.1.1
  have fin : ∀ r : Int32, ∃ r2 zC2 zM2, some (r, zC) = some (r2, zC2) ∧ some (r, zM) = some (r2, zM2) ∧ pa_I zC2 zM2 := fun r => ⟨r, zC, zM, rfl, rfl, h⟩
  unfold PJ_pull Md_pull
  rw [Fabric_isEnd_eq hF, pj_cS, Md_isEnd_eq hF.2.1.2.2.2.1 hF.2.1.2.2.2.2.1 ⟨p1, p2⟩ _ hF.2.2.2.2.2.2.2.1, pj_cS, ib0, ib0, Md_isIn_eq, pj_cS, ib0, nI_toInt (n := 1) (by decide), nI_toInt (n := 36) (by decide)]
  cases hi : isin d ((1 : Nat) : Int) ((36 : Nat) : Int)
  · have cl : d < nI 1 ∨ nI 36 < d := by
      unfold isin at hi
      rw [Bool.and_eq_false_iff, decide_eq_false_iff_not, decide_eq_false_iff_not] at hi
      rw [Int32.lt_iff_toInt_lt, Int32.lt_iff_toInt_lt, nI_toInt (by decide), nI_toInt (by decide)]
      omega
    have ce : ∀ X : Option (Int32 × pj_S), (if d < nI 1 then some (-1, zC) else if nI 36 < d then some (-1, zC) else X) = some (-1, zC) := fun X => by
      by_cases c1 : d < nI 1
      · rw [if_pos c1]
      · rw [if_neg c1, if_pos (cl.resolve_left c1)]
    rw [ce, if_neg Bool.false_ne_true]
    cases endI (W * H) (tb (zC.2 8 9)) a c
    · rw [if_neg Bool.false_ne_true]; exact fin _
    · rw [if_pos rfl]; exact fin _
  · obtain ⟨lim, hlim, rfl⟩ : ∃ k : Nat, (1 ≤ k ∧ k ≤ 36) ∧ d = nI k := by
      unfold isin at hi
      simp only [Bool.and_eq_true, decide_eq_true_eq] at hi
      obtain ⟨k, hk, rfl⟩ := nI_of (x := d) (by rw [Int32.lt_iff_toInt_lt]; simp; omega)
      rw [nI_toInt hk] at hi
      exact ⟨k, by omega, rfl⟩
    rw [if_neg (by rw [nI_ltP (by omega) (by decide)]; omega), if_neg (by rw [nI_ltP (by decide) (by omega)]; omega)]
    cases he : endI (W * H) (tb (zC.2 8 9)) a c
    · rw [if_neg Bool.false_ne_true, if_neg Bool.false_ne_true]; exact fin _
    · obtain ⟨k0, dir, hk0, rfl, rfl⟩ := end_dir p2 he
      obtain ⟨zK, e1, e2, hA1, hK1, -⟩ := pa_keep hA hK
      obtain ⟨z1, z2, y1, v1, e9, L2⟩ := lay_both hA1
      obtain ⟨l, j, e, zc2, zm2, g1, g2, g3, a1, ⟨b1, b2, b3⟩, c1, L, ⟨m1, m2, m3⟩, i1, ⟨kj, kc⟩, mm, oo, p, hp, hp8, hA2, hK2⟩ := walk_both hA1 hK1 e9 L2 true dir hk0 (limC := lim) (limM := lim) (fun _ _ => Iff.rfl) ⟨by omega, by omega⟩ (by omega)
      have j36 : plJ dir (W * H) k0 ≤ 36 := by unfold plJ; split <;> omega
      rw [if_pos rfl] at hp
      have g2 : Md_pulls (nI k0) (b2i dir) (nI lim) (nI 1) z2 = some ((), zm2) := g2
      rw [if_pos rfl, if_pos rfl, if_pos rfl, e1, pj_cS, g1, pj_cS, e2, pj_cS, y1, pj_cS, v1, pj_cS, g2, pj_cS, m1]
      -- they go, in the class
      obtain ⟨ag, ag2⟩ := agP.gos l nb a1
      obtain ⟨q1, q2⟩ := gos_6 l zc2 nb
      have r10 : zc2.1 10 3 = nI nb := by rw [(a1 10 (by decide) (by decide)).1]; exact hA1.1.2.2.2.1.2.1
      have wu : Whole_windUp zc2 = Whole_windUp_36 (l.foldl goF (zc2, nb)).1 := by
        unfold Whole_windUp
        exact windUp_run l 0 zc2 nb 4000 (fun t s hs => by rw [Nat.zero_add]; exact b3 t s hs) (by rw [Nat.zero_add]; exact b1) (by omega) r10 hA1.1.2.2.2.1.1 (by omega)
      have here := gos_here l zc2 nb (fun s hs => (oo s hs).1)
      have hz6 : zc2.2 8 6 = (pc_kept zC m n).2 8 6 := by rw [(a1 8 (by decide) (by decide)).2]
      rw [← hp] at ag ag2
      have hA3 := hA2.pc ag
      have hK3 := hK2.pc ag
      rw [← ag2] at hA3
      generalize hq : l.foldl goF (zc2, nb) = q at *
      have h61 : q.1.1 6 1 = nI l.length := by rw [q1]; exact b1
      rw [wu]
      unfold Whole_windUp_36 Md_pull_54
      rw [h61]
      cases l with
      | nil =>
        rw [if_pos (by decide), if_pos (by decide), pj_cS, h61, m1]
        exact ⟨_, _, _, rfl, rfl, pa_I.of hA3 hK3⟩
      | cons s r =>
        have pos : ¬ nI (s :: r).length ≤ 0 := nI_nle (by simp) (by omega)
        rw [if_neg pos, if_neg pos]
        obtain ⟨s64, s4, sh⟩ := oo s List.mem_cons_self
        have hx4 : ∀ t, t < 64 → tb (q.1.2 6 4) t = tch W dir k0 j t := fun t ht => by
          rw [q2, Bool.eq_iff_iff, c1 t ht, tch_iff]
        have x3 : ∀ t, t < 64 → tb (q.1.2 8 6) t = tb (zc2.2 6 3) t := fun t ht => by rw [here t ht, i1 t ht, hz6]
        have hw8 : q.1.2 8 8 = (pc_kept zC m n).2 8 8 := by
          rw [(ag 8 (by decide) (by decide)).2, hp8 8 (by decide)]
        have swd : tb (q.1.2 8 8) s = false := by
          rw [hw8]
          cases z : tb ((pc_kept zC m n).2 8 8) s
          · rfl
          · have := hA1.1.1.2.2.2.2.2.2.2.2.2.2 s s64 z
            rw [this] at sh; cases sh
        have s48 : s < 48 := stit_48 hF.1.2.2.2 (hA1.1.1.here s sh)
        obtain ⟨v, zC5, zM5, w1, w2, w3, w4, w5, w6, w7⟩ := wind_both hA3 hK3 (x := q.1.2 6 4) hk0 g3 m2 hx4 (fun t ht z => by rw [x3 t ht]; exact mm t ht (by rw [← q2]; exact z)) s48 (by rw [q2]; exact s4) swd
        rw [w1, pj_cS, w2, pj_cS, pj_cS, w3, pj_cS, w6, h61, w7, m1]
        exact ⟨_, _, _, rfl, rfl, pa_I.of w4 w5⟩
