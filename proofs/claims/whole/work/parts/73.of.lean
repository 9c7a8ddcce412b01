/-! the odds, alike -/
def pcO (z z2 : pj_S) : Prop := (∀ c, c ≠ 9 → c ≠ 30 → z2.1 c = z.1 c) ∧ z2.2 = z.2 ∧ ∀ j, j ≠ 4 → z2.1 9 j = z.1 9 j
theorem pcO.rf (z : pj_S) : pcO z z := ⟨fun _ _ _ => rfl, rfl, fun _ _ => rfl⟩
theorem pcO.tr {z z2 z3 : pj_S} (h : pcO z z2) (g : pcO z2 z3) : pcO z z3 := ⟨fun c a b => (g.1 c a b).trans (h.1 c a b), g.2.1.trans h.2.1, fun j a => (g.2.2 j a).trans (h.2.2 j a)⟩
section ODDS
variable {W H : Nat} {b : Bool} {hr nb nl : Nat} {pr : List pa_Ln} {n m : Nat} {zC zM zC2 zM2 : pj_S}
theorem pa_A.cm (h : pa_A W H b hr nb nl pr n m zC zM) (k : pcO zC zC2) (e : ∀ c, c < 7 → zM2.1 c = zM.1 c) : pa_A W H b hr nb nl pr n m zC2 zM2 := by
  obtain ⟨k1, k2, k3⟩ := k
  unfold pa_A at h ⊢
  rw [k2, k3 2 (by decide), k3 3 (by decide), k1 1 (by decide) (by decide), k1 8 (by decide) (by decide), k1 29 (by decide) (by decide), k1 10 (by decide) (by decide), k1 31 (by decide) (by decide), k1 32 (by decide) (by decide), k1 33 (by decide) (by decide), k1 11 (by decide) (by decide), k1 34 (by decide) (by decide), k1 3 (by decide) (by decide), k1 19 (by decide) (by decide), k1 20 (by decide) (by decide), k1 21 (by decide) (by decide), k1 22 (by decide) (by decide), e 1 (by decide), e 0 (by decide), e 3 (by decide)]
  exact h
theorem pa_K.cm (h : pa_K zC zM) (k : pcO zC zC2) (e : ∀ c, c < 7 → zM2.1 c = zM.1 c) : pa_K zC2 zM2 := by
  obtain ⟨k1, k2, k3⟩ := k
  unfold pa_K at h ⊢
  simp (disch := decide) only [k2, k1, e]
  exact h
theorem odds_both (h : pa_A W H b hr nb nl pr n m zC zM) (s : Nat) (hs : s < 48) :
    ∃ k, k ≤ 1000 ∧ (∃ zC2, Law_oddsOf (zC.1 1 4) (nI s) zC = some (nI k, zC2) ∧ pcO zC zC2) ∧ ∃ zM2, Md_oddsOf (nI s) zM = some (nI k, zM2) ∧ ∀ c, c ≠ 7 → c ≠ 8 → zM2.1 c = zM.1 c := by
  obtain ⟨⟨hF, hH, hd, hB, hU, l1, l2, l3, l4, l5, l6, l7, l8⟩, h1, h2, h3, hP⟩ := id h
  obtain ⟨g1, ⟨g2, g3, g4, g5, g6, g7⟩, -, g8, g9, g10, -⟩ := id hF
  obtain ⟨z2, e2, c2, f1, f2, f3, f4, f5, f6, f7⟩ := Md_oddsOf_pre (W := W) (H := H) (kd := kdb (tb (zC.2 8 4)) (tb (zC.2 8 5))) (he := tb (zC.2 8 6)) (z := zM) ⟨g1.2.1, g1.2.2.2⟩ g5 g6 g8 g9 s hs
  have k7 : ∀ k, 1 ≤ k → k ≤ 7 → k = 1 ∨ k = 2 ∨ k = 3 ∨ k = 4 ∨ k = 5 ∨ k = 6 ∨ k = 7 := fun k a b => by omega
  obtain ⟨r, ⟨k, hk, rfl⟩, rc, rm⟩ := odds_run (h1 := zC.1 1 4) (s := nI s) (fa := z2.1 8) (zc := zC) (zm := z2) (pr := pr) (fun k a1 a2 z4 k1 k2 => by
    have hF4 : pa_F W H b (z4.1 8) (z4.2 8) (zM.1 1) := by rw [k1 8 (by decide) (by decide), k2]; exact hF
    rcases k7 k a1 a2 with rfl | rfl | rfl | rfl | rfl | rfl | rfl
    · rw [show (-10 - nI 1 : Int32) = -11 by decide, f1]
      unfold Law_traitOf
      rw [if_neg (by decide), if_neg (by decide), if_neg (by decide), if_neg (by decide), if_neg (by decide), if_pos rfl, Fabric_kindOf_eq s (by omega), pj_cS, k2]; rfl
    · rw [show (-10 - nI 2 : Int32) = -12 by decide, f2]
      unfold Law_traitOf
      rw [if_neg (by decide), if_neg (by decide), if_neg (by decide), if_neg (by decide), if_pos rfl, nI_shr3 (by omega)]
    · rw [show (-10 - nI 3 : Int32) = -13 by decide, f3]
      unfold Law_traitOf
      rw [if_neg (by decide), if_neg (by decide), if_neg (by decide), if_pos rfl, nI_and7 (by omega)]
    · rw [show (-10 - nI 4 : Int32) = -14 by decide, f4]
      unfold Law_traitOf
      rw [if_neg (by decide), if_neg (by decide), if_pos rfl, Fabric_besideOf_eq hF4 s hs, pj_cS, k2]
    · rw [show (-10 - nI 5 : Int32) = -15 by decide, f5]
      unfold Law_traitOf
      rw [if_neg (by decide), if_pos rfl, Fabric_belowOf_eq s hs, pj_cS, k2]
    · rw [show (-10 - nI 6 : Int32) = -16 by decide, f6]
      unfold Law_traitOf
      rw [if_pos rfl, hH.2.1, hH.2.2]
    · rw [show (-10 - nI 7 : Int32) = -17 by decide, f7]
      unfold Law_traitOf
      rw [if_neg (by decide), if_neg (by decide), if_neg (by decide), if_neg (by decide), if_neg (by decide), if_neg (by decide), nI_and7 (by omega), Fabric_goneInColumn_eq hF4 s hs, pj_cS, k2])
    (fun _ _ _ => rfl) l5 l3 l2 l1 l4 l7 (by rw [c2 1 (by decide)]; exact l8) pr [] rfl
  refine ⟨k, hk, ?_, ?_⟩
  · obtain ⟨z3, l, e3, s3⟩ := rc 4000 (pj_sI zC 9 4 (nI 0)) (by omega) ⟨fun c c9 c30 => by rw [ag_n _ _ _ _ c9], rfl, fun j hj => by rw [ag_1, upd_ne hj], rfl, trivial⟩
    refine ⟨z3, ?_, s3.1, s3.2.1, s3.2.2.1⟩
    unfold Law_oddsOf
    rw [pj_bI]
    exact e3
  · obtain ⟨z3, e3, s3⟩ := rm 4000 z2 (by omega) (fun _ _ => rfl)
    refine ⟨z3, ?_, fun c c7 c8 => (s3 c c7).trans (c2 c c8)⟩
    rw [e2]
    exact e3
/-- what the model lays beside -/
theorem lay_both (h : pa_A W H b hr nb nl pr n m zC zM) : ∃ z1 z2, Md_laysNow zM = some ((), z1) ∧ Md_laysHolders z1 = some ((), z2) ∧ (∀ c, c < 9 → z2.1 c = zM.1 c) ∧ pm_lay W (kdb (tb (zC.2 8 4)) (tb (zC.2 8 5))) (tb (zC.2 8 6)) (tb (zC.2 8 7)) z2 := by
  obtain ⟨⟨hF, -⟩, -⟩ := id h
  obtain ⟨g1, ⟨g2, g3, g4, g5, g6, g7⟩, -, g8, g9, g10, -⟩ := id hF
  obtain ⟨z1, y1, y2, y3⟩ := Md_laysNow_eq zM
  have q1 : z1.1 1 = zM.1 1 := y2 1 (by decide) (by decide)
  obtain ⟨z2, v1, v2, v3⟩ := Md_laysHolders_eq (W := W) (kd := kdb (tb (zC.2 8 4)) (tb (zC.2 8 5))) (he := tb (zC.2 8 6)) (z := z1) (by rw [q1]; exact g5) g1.2.1 (by rw [q1]; exact g8) (kdb_lt _ _) (fun i hi => by rw [(y3 i hi).1]; exact g9 i hi)
  exact ⟨z1, z2, y1, v1, fun c hc => by rw [v2 c (by omega), y2 c (by omega) (by omega)], fun i hi => by rw [v2 9 (by decide), (y3 i hi).1]; exact g9 i hi, fun i hi => by rw [v2 10 (by decide), (y3 i hi).2]; exact g10 i hi, v3⟩
end ODDS
theorem nn (a b : Nat) (h : decide (a < 1000 ∧ b < 1000 ∧ a ≠ b) = true := by decide) : ¬ nI a = nI b := fun e => by
  have h := of_decide_eq_true h
  exact h.2.2 ((nI_eq (by omega) (by omega)).mp e)
theorem ok_of (a c : Int32) : pj_ok pa_I (PJ_of a c) (Md_of a c) := by
  intro zC zM h
  obtain ⟨⟨W, H, b, hr, nb, nl, pr, n, m, hA⟩, hK⟩ := id h
  obtain ⟨⟨hF, hH, hd, hB, hU, hL⟩, h1, h2, h3, hP⟩ := id hA
  obtain ⟨g1, ⟨g2, g3, g4, g5, g6, g7⟩, -, g8, g9, g10, g11, -⟩ := id hF
  have fin : ∀ r : Int32, ∃ r2 zC2 zM2, some (r, zC) = some (r2, zC2) ∧ some (r, zM) = some (r2, zM2) ∧ pa_I zC2 zM2 := fun r => ⟨r, zC, zM, rfl, rfl, h⟩
  unfold PJ_of Md_of
  rw [Fabric_has_eq hF, pj_cS, Md_isStitch_eq g5 g6 ⟨g1.2.1, g1.2.2.2⟩, pj_cS, ib0, ib0]
  cases hs : stI W H a
  · rw [if_neg Bool.false_ne_true, if_neg Bool.false_ne_true]; exact fin _
  · obtain ⟨s, s64, rfl, st⟩ := stI_t hs
    have s48 := stit_48 g1.2.2.2 st
    rw [if_pos rfl, if_pos rfl, Md_isIn_eq, pj_cS, ib0, nI_toInt (n := 0) (by decide), nI_toInt (n := 6) (by decide)]
    cases hi : isin c ((0 : Nat) : Int) ((6 : Nat) : Int)
    · rw [if_neg Bool.false_ne_true]
      have ne : ∀ k : Nat, k ≤ 6 → ¬ c = nI k := fun k hk e => by
        subst e
        have := isin_nI (k := k) (n := 6) (by omega)
        rw [decide_eq_true hk] at this
        rw [show ((0 : Nat) : Int) = 0 from rfl, this] at hi
        cases hi
      rw [if_neg (ne 0 (by decide)), if_neg (ne 1 (by decide)), if_neg (ne 2 (by decide)), if_neg (ne 3 (by decide)), if_neg (ne 4 (by decide)), if_neg (ne 5 (by decide)), if_neg (ne 6 (by decide))]
      exact fin _
    · obtain ⟨z1, z2, y1, v1, e9, L2⟩ := lay_both hA
      have q2 : z2.1 1 = zM.1 1 := e9 1 (by decide)
      have inv : pa_I zC z2 := h.m e9
      rw [if_pos rfl, y1, pj_cS, v1, pj_cS]
      obtain ⟨k, k6, rfl⟩ := isin_n (n := 6) (by decide) hi
      have : k = 0 ∨ k = 1 ∨ k = 2 ∨ k = 3 ∨ k = 4 ∨ k = 5 ∨ k = 6 := by omega
      have i10 : nI 10 + nI s = nI (10 + s) := by rw [nI_add]
      have i74 : nI 74 + nI s = nI (74 + s) := by rw [nI_add]
      have i138 : nI 138 + nI s = nI (138 + s) := by rw [nI_add]
      have i1490 : nI 1490 + nI s = nI (1490 + s) := by rw [nI_add]
      rcases this with rfl | rfl | rfl | rfl | rfl | rfl | rfl
      · rw [if_pos rfl, if_pos rfl, Fabric_kindOf_eq s s64, pj_cS, i10, pj_gIn (n := 10 + s) (by omega) (by decide), nI_clamp (n := 10 + s) (by omega), q2, g8 s s64]
        exact ⟨_, _, _, rfl, rfl, inv⟩
      · rw [if_neg (nn 1 0), if_neg (nn 1 0), if_pos rfl, if_pos rfl, PJ_bitOf_eq _ s s64, pj_cS, i74, pj_gIn (n := 74 + s) (by omega) (by decide), nI_clamp (n := 74 + s) (by omega), q2, g9 s s64]
        exact ⟨_, _, _, rfl, rfl, inv⟩
      · rw [if_neg (nn 2 0), if_neg (nn 2 0), if_neg (nn 2 1), if_neg (nn 2 1), if_pos rfl, if_pos rfl, PJ_bitOf_eq _ s s64, pj_cS, i138, pj_gIn (n := 138 + s) (by omega) (by decide), nI_clamp (n := 138 + s) (by omega), q2, g10 s s64]
        exact ⟨_, _, _, rfl, rfl, inv⟩
      · obtain ⟨r, e, er⟩ := Fabric_heldOf_eq hF (zC.2 8 6) (zC.2 8 7) (fun i _ hi => hF.here i hi)
        rw [if_neg (nn 3 0), if_neg (nn 3 0), if_neg (nn 3 1), if_neg (nn 3 1), if_neg (nn 3 2), if_neg (nn 3 2), if_pos rfl, if_pos rfl, e, pj_cS, PJ_bitOf_eq _ s s64, pj_cS, Md_isHeld_eq (b := b) (by rw [q2]; exact g6) (by rw [q2]; exact g7) g1.2.2 L2 s s64, pj_cS, er s s64, ib0]
        cases hl W H b (kdb (tb (zC.2 8 4)) (tb (zC.2 8 5))) (tb (zC.2 8 7)) (tb (zC.2 8 6)) s
        · rw [if_neg Bool.false_ne_true]; exact ⟨_, _, _, rfl, rfl, inv⟩
        · rw [if_pos rfl]; exact ⟨_, _, _, rfl, rfl, inv⟩
      · rw [if_neg (nn 4 0), if_neg (nn 4 0), if_neg (nn 4 1), if_neg (nn 4 1), if_neg (nn 4 2), if_neg (nn 4 2), if_neg (nn 4 3), if_neg (nn 4 3), if_pos rfl, if_pos rfl, Fabric_placeOf_eq hF s st, pj_cS, Md_placeOf_eq (H := H) (by rw [q2]; exact g5) ⟨g1.1, g1.2.1, g1.2.2.2⟩ s st, pj_cS]
        exact ⟨_, _, _, rfl, rfl, inv⟩
      · obtain ⟨r, e, er⟩ := Fabric_loose_eq hF
        rw [if_neg (nn 5 0), if_neg (nn 5 0), if_neg (nn 5 1), if_neg (nn 5 1), if_neg (nn 5 2), if_neg (nn 5 2), if_neg (nn 5 3), if_neg (nn 5 3), if_neg (nn 5 4), if_neg (nn 5 4), if_pos rfl, if_pos rfl, e, pj_cS, PJ_bitOf_eq _ s s64, pj_cS, Md_isLoose_eq (b := b) (by rw [q2]; exact g6) (by rw [q2]; exact g7) g1.2.2 L2 s s64, pj_cS, er s s64, ib0, ib1]
        cases tb (zC.2 8 6) s && !hl W H b (kdb (tb (zC.2 8 4)) (tb (zC.2 8 5))) (tb (zC.2 8 7)) (tb (zC.2 8 6)) s
        · rw [if_neg Bool.false_ne_true, if_neg Bool.false_ne_true]; exact ⟨_, _, _, rfl, rfl, inv⟩
        · obtain ⟨k, hk, ⟨zC2, ec, oc⟩, zM2, em, om⟩ := odds_both (hA.cm (pcO.rf zC) (fun c hc => e9 c (by omega))) s s48
          rw [if_pos rfl, if_pos rfl, ec, em, pj_cS, pj_cS]
          exact ⟨_, _, _, rfl, rfl, pa_I.of (hA.cm oc (fun c hc => by rw [om c (by omega) (by omega), e9 c (by omega)])) (hK.cm oc (fun c hc => by rw [om c (by omega) (by omega), e9 c (by omega)]))⟩
      · rw [if_neg (nn 6 0), if_neg (nn 6 0), if_neg (nn 6 1), if_neg (nn 6 1), if_neg (nn 6 2), if_neg (nn 6 2), if_neg (nn 6 3), if_neg (nn 6 3), if_neg (nn 6 4), if_neg (nn 6 4), if_neg (nn 6 5), if_neg (nn 6 5), if_pos rfl, if_pos rfl, PJ_bitOf_eq _ s s64, pj_cS, i1490, pj_gIn (n := 1490 + s) (by omega) (by decide), nI_clamp (n := 1490 + s) (by omega), q2, g11 s s64]
        exact ⟨_, _, _, rfl, rfl, inv⟩
