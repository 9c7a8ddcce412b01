/-! runs -/
theorem pa_I.m {zC zM zM2 : pj_S} (h : pa_I zC zM) (e : ∀ c, c < 9 → zM2.1 c = zM.1 c) : pa_I zC zM2 := by
  unfold pa_I pa_A pa_K at h ⊢
  rw [e 0 (by decide), e 1 (by decide), e 2 (by decide), e 3 (by decide), e 6 (by decide)]
  exact h
theorem PJ_numberIn_0 (x : Int64) (z : pj_S) : (PJ_numberIn x (nI 0) z = some (-1, z) ∧ ∀ t, t < 48 → tb x t = false) ∨ ∃ t, t < 48 ∧ PJ_numberIn x (nI 0) z = some (nI t, z) ∧ tb x t = true ∧ ∀ u, u < t → tb x u = false := by
  unfold PJ_numberIn
  obtain ⟨a0, a1, a2, a3, z2, ⟨rfl, rfl, rfl, rfl, k, rfl, e1, e2⟩, e⟩ := pj_loop4 (F := PJ_numberIn_5)
    (P := fun d b0 b1 b2 b3 z' => b0 = x ∧ b1 = nI 0 ∧ b2 = nI 0 ∧ z' = z ∧ ∃ k, k + d = 48 ∧ b3 = nI k ∧ ∀ u, u < k → tb x u = false)
    (E := fun b0 b1 b2 b3 z' => b0 = x ∧ b1 = nI 0 ∧ b2 = nI 0 ∧ z' = z ∧ ∃ k, b3 = nI k ∧ (∀ u, u < k → tb x u = false) ∧ (k = 48 ∨ (k < 48 ∧ tb x k = true)))
    (G := fun _ _ _ b3 z' => if nI 48 ≤ b3 then some (-1, z') else some (b3, z')) (by
      rintro self d b0 b1 b2 b3 z' ⟨rfl, rfl, rfl, rfl, k, hk, rfl, h1⟩
      unfold PJ_numberIn_5 PJ_numberIn_27 PJ_numberIn_33
      by_cases c : 48 ≤ k
      · left
        refine ⟨⟨rfl, rfl, rfl, rfl, k, rfl, h1, Or.inl (by omega)⟩, ?_⟩
        rw [if_pos (nI_le c (by omega)), if_pos (nI_le c (by omega))]
      · have nle : ¬ nI 48 ≤ nI k := by rw [nI_leP (by decide) (by omega)]; exact c
        rw [if_neg nle, PJ_bitOf_eq _ k (by omega), pj_cS, ib1]
        cases q : tb b0 k
        · right
          rw [if_neg Bool.false_ne_true, nI_add, pj_bI]
          refine ⟨d - 1, _, _, _, _, _, by omega, ⟨rfl, rfl, rfl, rfl, k + 1, by omega, rfl, fun u hu => ?_⟩, rfl⟩
          by_cases cu : u = k
          · subst cu; exact q
          · exact h1 u (by omega)
        · left
          rw [if_pos rfl, if_pos rfl]
          refine ⟨⟨rfl, rfl, rfl, rfl, k, rfl, h1, Or.inr ⟨by omega, q⟩⟩, ?_⟩
          rw [if_neg nle])
    4000 48 x (nI 0) (nI 0) (nI 0) z ⟨rfl, rfl, rfl, rfl, 0, by omega, rfl, fun u hu => absurd hu (by omega)⟩ (by decide)
  rcases e2 with rfl | ⟨e2, e3⟩
  · left
    rw [e, if_pos (nI_le (by decide) (by decide))]
    exact ⟨rfl, e1⟩
  · right
    refine ⟨k, e2, ?_, e3, e1⟩
    rw [e, if_neg (by rw [nI_leP (by decide) (by omega)]; omega)]
theorem Md_runs_61_eq {z : pj_S} {q : Nat → Nat} {n : Nat} (hn : n ≤ 64) (hq : q12 q n z) (h64 : ∀ i, i < n → q i < 64) : (n = 0 ∧ pj_lp3 Md_runs_61 4000 (nI n) (-1) (nI 0) z = some (-1, z)) ∨ ∃ m, pj_lp3 Md_runs_61 4000 (nI n) (-1) (nI 0) z = some (nI m, z) ∧ (∃ i, i < n ∧ m = q i / 8) ∧ ∀ i, i < n → m ≤ q i / 8 := by
  obtain ⟨a, v, p, z2, ⟨rfl, e1⟩, e⟩ := pj_loop3 (F := Md_runs_61)
    (P := fun d a v p z' => z' = z ∧ a = nI n ∧ ∃ k, k + d = n ∧ p = nI k ∧ ((k = 0 ∧ v = -1) ∨ ∃ m, v = nI m ∧ (∃ i, i < k ∧ m = q i / 8) ∧ ∀ i, i < k → m ≤ q i / 8))
    (E := fun _ v _ z' => z' = z ∧ ((n = 0 ∧ v = -1) ∨ ∃ m, v = nI m ∧ (∃ i, i < n ∧ m = q i / 8) ∧ ∀ i, i < n → m ≤ q i / 8))
    (G := fun _ v _ z' => some (v, z')) (by
      rintro self d a v p z' ⟨rfl, rfl, k, hk, rfl, h1⟩
      unfold Md_runs_61 Md_runs_109 Md_runs_101
      by_cases c : n ≤ k
      · left
        have : k = n := by omega
        subst this
        exact ⟨⟨rfl, h1⟩, by rw [if_pos (nI_le c (by omega))]⟩
      · right
        have qk := h64 k (by omega)
        rw [if_neg (by rw [nI_leP (by omega) (by omega)]; exact c), pj_gIn (n := k) (by omega) (by decide), pj_gNz (n := 8) (by decide) (by decide), pj_gIn (n := k) (by omega) (by decide), pj_gNz (n := 8) (by decide) (by decide), nI_clamp (n := k) (by omega), hq k (by omega), pk_div (by omega) (by decide) (by decide)]
        simp only [nI_add, pj_bI]
        rcases h1 with ⟨rfl, rfl⟩ | ⟨m, rfl, ⟨i, hi, rfl⟩, hm⟩
        · rw [if_pos rfl]
          refine ⟨d - 1, _, _, _, _, by omega, ⟨rfl, rfl, 0 + 1, by omega, rfl, Or.inr ⟨q 0 / 8, rfl, ⟨0, by omega, rfl⟩, fun i hi => ?_⟩⟩, rfl⟩
          have : i = 0 := by omega
          subst this
          exact Nat.le_refl _
        · have qi := h64 i (by omega)
          have ne : ¬ nI (q i / 8) = -1 := oI_ne (t := q i / 8) (by omega)
          unfold Md_leastM
          rw [if_neg ne]
          by_cases l : q k / 8 ≤ q i / 8
          · rw [if_pos (nI_le l (by omega)), pj_cS]
            refine ⟨d - 1, _, _, _, _, by omega, ⟨rfl, rfl, k + 1, by omega, rfl, Or.inr ⟨q k / 8, rfl, ⟨k, by omega, rfl⟩, fun j hj => ?_⟩⟩, rfl⟩
            by_cases cj : j = k
            · subst cj; exact Nat.le_refl _
            · have := hm j (by omega); omega
          · rw [if_neg (by rw [nI_leP (by omega) (by omega)]; exact l), pj_cS]
            refine ⟨d - 1, _, _, _, _, by omega, ⟨rfl, rfl, k + 1, by omega, rfl, Or.inr ⟨q i / 8, rfl, ⟨i, by omega, rfl⟩, fun j hj => ?_⟩⟩, rfl⟩
            by_cases cj : j = k
            · subst cj; omega
            · exact hm j (by omega))
    4000 n (nI n) (-1) (nI 0) z ⟨rfl, rfl, 0, by omega, rfl, Or.inl ⟨rfl, rfl⟩⟩ (by omega)
  rcases e1 with ⟨e1, rfl⟩ | ⟨m, rfl, e1⟩
  · exact Or.inl ⟨e1, e⟩
  · exact Or.inr ⟨m, e, e1⟩
/-- here lies within the cloth; the rows of the model -/
theorem pa_F.here {W H : Nat} {b : Bool} {I : Nat → Int32} {J : Nat → Int64} {w : Nat → Int32} (hF : pa_F W H b I J w) : ∀ s, tb (J 6) s = true → stit W H s = true := fun s h => by
  by_cases c : s < 64
  · cases q : stit W H s
    · have := (hF.2.2.2.2.2.2.2.2.1 s c q).2.2.1
      rw [this] at h; cases h
    · rfl
  · rw [tb_ge (by omega)] at h; cases h
theorem ok_runs (a c : Int32) : pj_ok pa_I (PJ_runs a c) (Md_runs a c) := by
  intro zC zM h
  obtain ⟨⟨W, H, b, hr, nb, nl, pr, n, m, hA⟩, hK⟩ := id h
  obtain ⟨⟨hF, hH, hd, hB, hU, hL⟩, h1, h2, h3, hP⟩ := id hA
  obtain ⟨g1, ⟨g2, g3, g4, g5, g6, g7⟩, -, g8, g9, g10, -⟩ := id hF
  have fin : ∀ r : Int32, ∃ r2 zC2 zM2, some (r, zC) = some (r2, zC2) ∧ some (r, zM) = some (r2, zM2) ∧ pa_I zC2 zM2 := fun r => ⟨r, zC, zM, rfl, rfl, h⟩
  unfold PJ_runs Md_runs
  rw [Fabric_isHere_eq hF, pj_cS, Md_isStitch_eq g5 g6 ⟨g1.2.1, g1.2.2.2⟩, pj_cS, ib0, ib0]
  cases hs : stI W H a
  · rw [if_neg (by simp), if_neg Bool.false_ne_true]
    exact fin _
  · obtain ⟨s, s64, rfl, st⟩ := stI_t hs
    rw [if_pos rfl, nI_add, pj_gIn (n := 74 + s) (by omega) (by decide), nI_clamp (n := 74 + s) (by omega), nI_clamp (n := s) (by omega), g9 s s64, ib0, Bool.true_and]
    cases ht : tb (zC.2 8 6) s
    · rw [if_neg Bool.false_ne_true, if_neg Bool.false_ne_true]
      exact fin _
    · have kk : ∀ s, s < 64 → zM.1 1 (10 + s) = nI (kdb (tb (zC.2 8 4)) (tb (zC.2 8 5)) s) := g8
      have hx4 : ∀ i, i < 64 → tb ((zC.2 8 6) &&& ((pj_shlL (1 : Int64) (nI s)) ^^^ (-1 : Int64))) i = (tb (zC.2 8 6) i && !decide (i = s)) := fun i hi => by
        rw [tb_and, tb_not _ _ hi, tb_bit s s64]
      generalize (zC.2 8 6) &&& ((pj_shlL (1 : Int64) (nI s)) ^^^ (-1 : Int64)) = x4 at hx4 ⊢
      have hx : ∀ i, i < 64 → tb x4 i = true → stit W H i = true := fun i hi q => by
        rw [hx4 i hi] at q
        simp only [Bool.and_eq_true] at q
        exact hF.here i q.1
      obtain ⟨r7, e7, er7⟩ := Fabric_inTheEnd_eq hF x4 (zC.2 8 7) hx
      rw [if_pos rfl, if_pos rfl, pj_bI, e7, pj_cS, pj_bI, Md_isIn_eq, pj_cS, ib0, nI_toInt (n := 0) (by decide), nI_toInt (n := 1) (by decide)]
      obtain ⟨z1, y1, y2, y3⟩ := Md_laysNow_eq zM
      have q1 : z1.1 1 = zM.1 1 := y2 1 (by decide) (by decide)
      obtain ⟨z2, v1, v2, v3⟩ := Md_laysHolders_eq (W := W) (kd := kdb (tb (zC.2 8 4)) (tb (zC.2 8 5))) (he := tb (zC.2 8 6)) (z := z1) (by rw [q1]; exact g5) g1.2.1 (by rw [q1]; exact kk) (kdb_lt _ _) (fun i hi => by rw [(y3 i hi).1]; exact g9 i hi)
      have q2 : z2.1 1 = zM.1 1 := (v2 1 (by decide)).trans q1
      have L2 : pm_lay W (kdb (tb (zC.2 8 4)) (tb (zC.2 8 5))) (tb (zC.2 8 6)) (tb (zC.2 8 7)) z2 := ⟨fun i hi => by rw [v2 9 (by decide), (y3 i hi).1]; exact g9 i hi, fun i hi => by rw [v2 10 (by decide), (y3 i hi).2]; exact g10 i hi, v3⟩
      obtain ⟨z3, u1, u2, u3⟩ := Md_goes_eq (z := z2) (by rw [q2]; exact g5) g1.2.1 (by rw [q2]; exact kk) (kdb_lt _ _) L2 s s64 ht
      have q3 : z3.1 1 = zM.1 1 := (u2 1 (by decide) (by decide)).trans q2
      obtain ⟨q, k, z4, f1, f2, f3, f4, f5, f6, f7, f8⟩ := Md_allRun_eq (b := b) (z := z3) g1.2.2 g1.2.1 (by rw [q3]; exact g5) (by rw [q3]; exact g6) (by rw [q3]; exact g7) (by rw [q3]; exact kk) (kdb_lt _ _) u3 (fun i hi => by simp only [Bool.and_eq_true] at hi; exact hF.here i hi.1)
      have inv : pa_I zC z4 := h.m (fun c hc => by rw [f2 c (by omega) (by omega) (by omega), u2 c (by omega) (by omega), v2 c (by omega), y2 c (by omega) (by omega)])
      have set : ∀ t, t < 64 → tb (x4 &&& (r7 ^^^ (-1 : Int64))) t = memq q k t := fun t ht => by
        rw [tb_and, tb_not _ _ ht, er7 t ht, Bool.eq_iff_iff, memq_iff, f7 t]
        have e1 : itr W H b (kdb (tb (zC.2 8 4)) (tb (zC.2 8 5))) (tb (zC.2 8 7)) H (tb x4) t = itr W H b (kdb (tb (zC.2 8 4)) (tb (zC.2 8 5))) (tb (zC.2 8 7)) H (fun i => tb (zC.2 8 6) i && !decide (i = s)) t := by
          have : (tb x4) = fun i => tb (zC.2 8 6) i && !decide (i = s) := by
            funext i
            by_cases c : i < 64
            · exact hx4 i c
            · rw [tb_ge (by omega), tb_ge (by omega)]; rfl
          rw [this]
        rw [e1, hx4 t ht]
        simp only [Bool.and_eq_true, Bool.not_eq_true']
      rw [y1, pj_cS, v1, pj_cS, u1, pj_cS, f1, pj_cS]
      by_cases c0 : c = 0
      · subst c0
        have i0 : isin 0 ((0 : Nat) : Int) ((1 : Nat) : Int) = true := by decide
        rw [if_pos rfl, i0, if_pos rfl, if_pos rfl, JLong_bitCount_eq, pj_cS, cnt_congr 64 set, memq_cnt k f5 f6]
        exact ⟨_, _, _, rfl, rfl, inv⟩
      · rw [if_neg c0, if_neg c0]
        by_cases c1 : c = nI 1
        · subst c1
          have i1 : isin (nI 1) ((0 : Nat) : Int) ((1 : Nat) : Int) = true := by decide
          rw [if_pos rfl, i1, if_pos rfl]
          have zer : (x4 &&& (r7 ^^^ (-1 : Int64)) = 0) ↔ k = 0 := by
            constructor
            · intro e
              cases k with
              | zero => rfl
              | succ k =>
                have := set (q 0) (f5 0 (by omega))
                rw [e, tb_0, (memq_iff (k + 1)).mpr ⟨0, by omega, rfl⟩] at this
                cases this
            · rintro rfl
              apply tb_ext
              intro i hi
              rw [set i hi, tb_0]
              rfl
          rcases Md_runs_61_eq f3 f4 f5 with ⟨k0, e⟩ | ⟨mm, e, ⟨i, hi, hm⟩, hmin⟩
          · rw [e, if_pos ((lg_cmp_eq _ _).mpr (zer.mpr k0))]
            exact ⟨_, _, _, rfl, rfl, inv⟩
          · rw [e, if_neg (fun p => by have := zer.mp ((lg_cmp_eq _ _).mp p); omega)]
            have q48 : ∀ j, j < k → q j < 48 := fun j hj => by
              have := ((f7 (q j)).mp ⟨j, hj, rfl⟩).1
              simp only [Bool.and_eq_true] at this
              exact stit_48 g1.2.2.2 (hF.here _ this.1)
            rcases PJ_numberIn_0 (x4 &&& (r7 ^^^ (-1 : Int64))) zC with ⟨-, no⟩ | ⟨t, t48, en, t1, t2⟩
            · have := no (q i) (q48 i hi)
              rw [set _ (f5 i hi), (memq_iff k).mpr ⟨i, hi, rfl⟩] at this
              cases this
            · rw [en, pj_cS, nI_shr3 (by omega)]
              have : t / 8 = mm := by
                rw [set t (by omega)] at t1
                obtain ⟨j, hj, ej⟩ := (memq_iff k).mp t1
                have a1 := hmin j hj
                rw [ej] at a1
                have a2 : t ≤ q i := by
                  by_cases l : q i < t
                  · have := t2 (q i) l
                    rw [set _ (f5 i hi), (memq_iff k).mpr ⟨i, hi, rfl⟩] at this
                    cases this
                  · omega
                omega
              rw [this]
              exact ⟨_, _, _, rfl, rfl, inv⟩
        · have i2 : isin c ((0 : Nat) : Int) ((1 : Nat) : Int) = false := by
            cases p : isin c ((0 : Nat) : Int) ((1 : Nat) : Int)
            · rfl
            · obtain ⟨v, rfl⟩ := isin_b p
              cases v
              · exact absurd rfl c0
              · exact absurd rfl c1
          rw [if_neg c1, i2, if_neg Bool.false_ne_true]
          exact fin _
