/-! first, the two calls -/
theorem Md_first_eq {zM : pj_S} {S : Nat → Bool} {W H : Nat} (hW : W ≤ 6 ∧ H ≤ 6) (v1 : Int32) (w0 : zM.1 1 0 = nI W) (w1 : zM.1 1 1 = nI H) (hS : ∀ s, S s = true → stit W H s = true)
    (so : ∀ (z : pj_S) (s : Nat), (∀ c, c < 9 → z.1 c = zM.1 c) → s < 64 → stit W H s = true → ∃ z2, Md_isSoBy (nI s) z = some (b2i (S s), z2) ∧ ∀ c, c < 9 → z2.1 c = zM.1 c) :
    ∃ v3 z2, pj_lp4 Md_first_18 4000 v1 (nI 0) (-1) (nI 0) zM = (if v1 = 0 then some (nI (cnt S 64), z2) else some (v3, z2)) ∧ (∀ c, c < 9 → z2.1 c = zM.1 c) ∧ ((cnt S 64 = 0 ∧ v3 = -1) ∨ (0 < cnt S 64 ∧ ∃ t, t < 64 ∧ v3 = nI t ∧ S t = true ∧ ∀ u, u < t → S u = false)) := by
  obtain ⟨a1, a2, a3, a4, z2, ⟨rfl, rfl, e1, e2⟩, e⟩ := pj_loop4 (F := Md_first_18)
    (P := fun d b1 b2 b3 b4 z' => b1 = v1 ∧ ∃ k, k + d = 64 ∧ b4 = nI k ∧ b2 = nI (cnt S k) ∧ (∀ c, c < 9 → z'.1 c = zM.1 c) ∧ ((cnt S k = 0 ∧ b3 = -1) ∨ (0 < cnt S k ∧ ∃ t, t < k ∧ b3 = nI t ∧ S t = true ∧ ∀ u, u < t → S u = false)))
    (E := fun b1 b2 b3 _ z' => b1 = v1 ∧ b2 = nI (cnt S 64) ∧ (∀ c, c < 9 → z'.1 c = zM.1 c) ∧ ((cnt S 64 = 0 ∧ b3 = -1) ∨ (0 < cnt S 64 ∧ ∃ t, t < 64 ∧ b3 = nI t ∧ S t = true ∧ ∀ u, u < t → S u = false)))
    (G := fun b1 b2 b3 _ z' => Md_first_66 b1 b2 b3 z') (by
      rintro self d b1 b2 b3 b4 z' ⟨rfl, k, hk, rfl, rfl, h1, h2⟩
      unfold Md_first_18 Md_first_60 Md_first_56
      by_cases c : 64 ≤ k
      · left
        have : k = 64 := by omega
        subst this
        exact ⟨⟨rfl, rfl, h1, h2⟩, by rw [if_pos (nI_le c (by decide))]⟩
      · right
        have r1 := h1 1 (by decide)
        have cl := cnt_le S k
        have t : decide (k < 64) = true := by simp; omega
        rw [if_neg (by rw [nI_leP (by decide) (by omega)]; exact c), Md_isStitch_eq (by rw [r1]; exact w0) (by rw [r1]; exact w1) hW, pj_cS, ib0, stI_k (by omega), t, Bool.true_and]
        unfold Md_first_60
        simp only [pj_bI, nI_add]
        have no : S k = false → ∀ z3 : pj_S, (∀ c, c < 9 → z3.1 c = zM.1 c) → ∃ (d2 : Nat) (c1 c2 c3 c4 : Int32) (z2 : pj_S), d2 < d ∧ (c1 = b1 ∧ ∃ k, k + d2 = 64 ∧ c4 = nI k ∧ c2 = nI (cnt S k) ∧ (∀ c, c < 9 → z2.1 c = zM.1 c) ∧ ((cnt S k = 0 ∧ c3 = -1) ∨ (0 < cnt S k ∧ ∃ t, t < k ∧ c3 = nI t ∧ S t = true ∧ ∀ u, u < t → S u = false))) ∧ self b1 (nI (cnt S k)) b3 (nI (k + 1)) z3 = self c1 c2 c3 c4 z2 := fun q z3 hz => by
          have ce : cnt S (k + 1) = cnt S k := by rw [cnt, q]; rfl
          refine ⟨d - 1, _, _, _, _, z3, by omega, ⟨rfl, k + 1, by omega, rfl, by rw [ce], hz, ?_⟩, rfl⟩
          rw [ce]
          rcases h2 with h2 | ⟨h2, t, t1, t2⟩
          · exact Or.inl h2
          · exact Or.inr ⟨h2, t, by omega, t2⟩
        cases q : stit W H k
        · rw [if_neg Bool.false_ne_true]
          refine no ?_ z' h1
          cases p : S k
          · rfl
          · have := hS k p; rw [q] at this; cases this
        · obtain ⟨z3, y1, y2⟩ := so z' k h1 (by omega) q
          rw [if_pos rfl, y1, pj_cS, ib0]
          cases p : S k
          · rw [if_neg Bool.false_ne_true]
            exact no p z3 y2
          · rw [if_pos rfl]
            have ce : cnt S (k + 1) = cnt S k + 1 := by rw [cnt, p]; rfl
            rcases h2 with ⟨h2, h3⟩ | ⟨h2, t, t1, t2, t3, t4⟩
            · have x : nI (cnt S k) = 0 := by rw [h2]; exact nI_0
              rw [if_pos x]
              refine ⟨d - 1, _, _, _, _, z3, by omega, ⟨rfl, k + 1, by omega, rfl, by rw [ce], y2, Or.inr ⟨by omega, k, by omega, rfl, p, fun u hu => ?_⟩⟩, rfl⟩
              cases w : S u
              · rfl
              · have : 0 < cnt S k := by rw [cnt_pos]; exact ⟨u, hu, w⟩
                omega
            · have x : ¬ nI (cnt S k) = 0 := by rw [nI_eq0 (by omega)]; omega
              rw [if_neg x]
              exact ⟨d - 1, _, _, _, _, z3, by omega, ⟨rfl, k + 1, by omega, rfl, by rw [ce], y2, Or.inr ⟨by omega, t, by omega, t2, t3, t4⟩⟩, rfl⟩)
    4000 64 v1 (nI 0) (-1) (nI 0) zM ⟨rfl, 0, by omega, rfl, rfl, fun _ _ => rfl, Or.inl ⟨rfl, rfl⟩⟩ (by decide)
  exact ⟨a3, z2, e, e1, e2⟩
theorem ok_first (a : Int32) : pj_ok pa_I (PJ_first a) (Md_first a) := by
  intro zC zM h
  obtain ⟨⟨W, H, b, hr, nb, nl, pr, n, m, hA⟩, hK⟩ := id h
  obtain ⟨⟨hF, hH, hd, hB, hU, hL⟩, h1, h2, h3, hP⟩ := id hA
  obtain ⟨g1, ⟨g2, g3, g4, g5, g6, g7⟩, -, g8, g9, g10, -⟩ := id hF
  have fin : ∀ r : Int32, ∃ r2 zC2 zM2, some (r, zC) = some (r2, zC2) ∧ some (r, zM) = some (r2, zM2) ∧ pa_I zC2 zM2 := fun r => ⟨r, zC, zM, rfl, rfl, h⟩
  have kk : ∀ s, s < 64 → zM.1 1 (10 + s) = nI (kdb (tb (zC.2 8 4)) (tb (zC.2 8 5)) s) := g8
  unfold PJ_first Md_first
  have i0 : isin a (nI 0).toInt (nI 1).toInt = isin a 0 ((1 : Nat) : Int) := rfl
  rw [Md_isIn_eq, pj_cS, ib0, i0]
  rcases isin_3 (v := a) 1 (by decide) with q | ⟨q, q2⟩
  · rw [q, if_pos rfl]
    obtain ⟨r, er, hr'⟩ := Fabric_firsts_eq hF
    obtain ⟨v3, z2, e, e1, e2⟩ := Md_first_eq (zM := zM) (S := fun s => stit W H s && FS W H b (kdb (tb (zC.2 8 4)) (tb (zC.2 8 5))) (tb (zC.2 8 7)) (tb (zC.2 8 6)) s) ⟨g1.2.1, g1.2.2.2⟩ a g5 g6 (fun s hs => by simp only [Bool.and_eq_true] at hs; exact hs.1) (fun z s hz hs st => by
      have r1 := hz 1 (by decide)
      obtain ⟨z2, f1, f2⟩ := Md_isSoBy_eq (b := b) (kd := kdb (tb (zC.2 8 4)) (tb (zC.2 8 5))) (ca := tb (zC.2 8 7)) (he := tb (zC.2 8 6)) (z := z) g1 (by rw [r1]; exact g5) (by rw [r1]; exact g6) (by rw [r1]; exact g7) (by rw [r1]; exact kk) (kdb_lt _ _) (by rw [r1]; exact g9) (by rw [r1]; exact g10) s hs st
      refine ⟨z2, ?_, fun c hc => (f2 c hc).trans (hz c hc)⟩
      rw [f1, st, Bool.true_and])
    have inv : pa_I zC z2 := h.m e1
    have ce : cnt (tb r) 64 = cnt (fun s => stit W H s && FS W H b (kdb (tb (zC.2 8 4)) (tb (zC.2 8 5))) (tb (zC.2 8 7)) (tb (zC.2 8 6)) s) 64 := cnt_congr 64 hr'
    obtain ⟨v, rfl⟩ := isin_b q
    rw [e, er, pj_cS]
    cases v
    · have z0 : b2i false = 0 := nI_0
      rw [if_neg (by decide), if_pos (by decide), if_pos z0, if_pos z0, JLong_bitCount_eq, pj_cS, ce]
      exact ⟨_, _, _, rfl, rfl, inv⟩
    · have z1 : ¬ b2i true = 0 := by decide
      rw [if_neg (by decide), if_pos (by decide), if_neg z1, if_neg z1]
      rcases PJ_numberIn_0 r zC with ⟨en, no⟩ | ⟨t, t48, en, t1, t2⟩
      · rw [en, pj_cS]
        rcases e2 with ⟨-, rfl⟩ | ⟨-, t, t64, -, t1, -⟩
        · exact ⟨_, _, _, rfl, rfl, inv⟩
        · have st := t1
          simp only [Bool.and_eq_true] at st
          have l := stit_48 g1.2.2.2 st.1
          have := no t l
          rw [hr' t (by omega), t1] at this
          cases this
      · rw [en, pj_cS]
        rw [hr' t (by omega)] at t1
        rcases e2 with ⟨c0, -⟩ | ⟨-, u, u64, rfl, u1, u2⟩
        · have : 0 < cnt (fun s => stit W H s && FS W H b (kdb (tb (zC.2 8 4)) (tb (zC.2 8 5))) (tb (zC.2 8 7)) (tb (zC.2 8 6)) s) 64 := by rw [cnt_pos]; exact ⟨t, by omega, t1⟩
          omega
        · have : t = u := by
            by_cases l : t < u
            · have := u2 t l
              rw [t1] at this; cases this
            · by_cases l2 : u < t
              · have := t2 u l2
                rw [hr' u (by omega), u1] at this; cases this
              · omega
          subst this
          exact ⟨_, _, _, rfl, rfl, inv⟩
  · rw [q, if_neg Bool.false_ne_true]
    rcases q2 with q2 | ⟨q2, q3⟩
    · rw [if_pos q2]; exact fin _
    · rw [if_neg q2, if_neg q3]; exact fin _
