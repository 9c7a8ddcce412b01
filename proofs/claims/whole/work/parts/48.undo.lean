/-! cut, undo -/
theorem isin_P2 {k P : Nat} (hk : k < 2 ^ 31) (hP : 2 ≤ P) : isin (nI k) 0 ((P : Int) - 2) = decide (k + 1 < P) := by
  rw [isin_k hk]
  by_cases h : k + 1 < P
  · have : (k : Int) ≤ P - 2 := by omega
    simp [h, this]
  · have : ¬ (k : Int) ≤ P - 2 := by omega
    simp [h, this]
theorem Fabric_canCut_eq {W H : Nat} {b : Bool} {zC : pj_S} {w : Nat → Int32} (hF : pa_F W H b (zC.1 8) (zC.2 8) w) (v : Int32) : Fabric_canCut v zC = some (b2i (isin v 0 (((W * H : Nat) : Int) - 2) && !tb (zC.2 8 9) v.toNatClampNeg), zC) := by
  obtain ⟨p1, p2⟩ := wh_b hF.1
  unfold Fabric_canCut
  rcases nI_or v with ⟨k, hk, rfl⟩ | hn
  · rw [if_neg (nI_pos hk), Fabric_places_eq hF, pj_cS, isin_P2 hk (by omega), nI_clamp hk, pk_sub (by omega)]
    by_cases c : k + 1 < W * H
    · rw [if_neg (by rw [nI_leP (by omega) hk]; omega), PJ_bitOf_eq _ k (by omega), pj_cS, ib0]
      cases q : tb (zC.2 8 9) k <;> simp [c, pj_gB0, pj_gB1, b2i_t, b2i_f]
    · rw [if_pos (by rw [nI_leP (by omega) hk]; omega)]
      simp [c, pj_gB0, b2i_f]
  · rw [if_pos (ng_lt0 hn), isin_neg hn (by decide)]
    rfl
theorem ok_cut (a : Int32) : pj_ok pa_I (PJ_cut a) (Md_cut a) := by
  intro zC zM h
  obtain ⟨⟨W, H, b, hr, nb, nl, pr, n, m, hA⟩, hK⟩ := id h
  obtain ⟨⟨hF, hH, hd, hB, hU, hL⟩, h1, h2, h3, hP⟩ := id hA
  obtain ⟨p1, p2⟩ := wh_b hF.1
  have w0 := hF.2.1.2.2.2.1
  have w1 := hF.2.1.2.2.2.2.1
  unfold PJ_cut Md_cut
  rw [Fabric_canCut_eq hF, pj_cS, ib0, pj_gIn (by decide) (by decide), pj_gIn (by decide) (by decide), nI_clamp (by decide), nI_clamp (by decide), w0, w1, pk_mul, Md_isIn_eq, pj_cS, ib0, nI_sub1 (by omega) (by decide), nI_toInt (by decide)]
  have e : isin a ((0 : Nat) : Int) (((W * H : Nat) : Int) - ((2 : Nat) : Int)) = isin a 0 (((W * H : Nat) : Int) - 2) := rfl
  rw [e]
  rcases nI_or a with ⟨k, hk, rfl⟩ | hn
  · rw [isin_P2 hk (by omega), nI_clamp hk]
    by_cases c : k + 1 < W * H
    · have t : decide (k + 1 < W * H) = true := by simp [c]
      have k64 : k < 64 := by omega
      rw [t, if_pos (show true = true from rfl), nI_add, pj_gIn (by omega) (by decide), nI_clamp (by omega), hF.2.2.2.2.2.2.2.1 k k64, ib1, Bool.true_and]
      cases q : tb (zC.2 8 9) k
      · rw [if_pos (by rfl), if_neg Bool.false_ne_true]
        obtain ⟨zM2, e1, e2, hA2, hK2, ew⟩ := pa_keep hA hK
        obtain ⟨⟨gF, gH, gd, gB, gU, gL⟩, g1, g2, g3, gP⟩ := hA2
        rw [e1, e2, pj_cS, pj_cS, pj_gIn (by omega) (by decide), pj_bI, pj_bI, pj_gB1, pj_gB1]
        have ne : ∀ i, i ≠ 202 + k → (pj_sI zM2 1 (202 + k) (nI 1)).1 1 i = zM2.1 1 i := fun i hi => by rw [ag_1, upd_ne hi]
        refine ⟨_, _, _, rfl, rfl, pa_I.of (W := W) (H := H) (b := b) (hr := hr) (nb := nb) (nl := nl) (pr := pr) (n := min (n + 1) 8) (m := (m + 1) % 8) ⟨⟨?_, ⟨gH.1, gH.2.1, ?_⟩, ?_, ?_, ?_, ?_⟩, g1, g2, g3, gP⟩ hK2⟩
        · obtain ⟨f1, ⟨a1, a2, a3, a4, a5, a6⟩, f3, f4, f5, f6, f7, f8, f9, f10, f11⟩ := gF
          have nj : ∀ i, tb (((pc_kept zC m n).2 8 9) ||| (pj_shlL (1 : Int64) (nI k))) i = (tb ((pc_kept zC m n).2 8 9) i || decide (i = k)) := fun i => by rw [tb_or, tb_bit k k64]
          refine ⟨f1, ⟨a1, a2, a3, ?_, ?_, ?_⟩, f3, fun i hi => ?_, fun i hi => ?_, fun i hi => ?_, fun i hi => ?_, fun i hi => ?_, f9, fun i hi g => ?_, f11⟩
          · rw [ne _ (by omega)]; exact a4
          · rw [ne _ (by omega)]; exact a5
          · rw [ne _ (by omega)]; exact a6
          · rw [ne _ (by omega)]; exact f4 i hi
          · rw [ne _ (by omega)]; exact f5 i hi
          · rw [ne _ (by omega)]; exact f6 i hi
          · rw [ne _ (by omega)]; exact f7 i hi
          · show _ = b2i (tb (((pc_kept zC m n).2 8 9) ||| (pj_shlL (1 : Int64) (nI k))) i)
            rw [nj]
            by_cases ci : i = k
            · subst ci
              rw [ag_1, upd_s]
              simp [b2i_t]
            · rw [ne _ (by omega), f8 i hi]; simp [ci]
          · have g : tb (((pc_kept zC m n).2 8 9) ||| (pj_shlL (1 : Int64) (nI k))) i = true := g
            rw [nj] at g
            by_cases ci : i = k
            · subst ci; exact c
            · simp only [ci, decide_false, Bool.or_false] at g
              exact f10 i hi g
        · rw [ne _ (by omega)]; exact gH.2.2
        · rw [ne _ (by omega)]; exact gd
        · exact gB.w (fun i hi => ne i (by omega))
        · exact gU.w (fun i hi => ne i (by omega))
        · exact gL.w (fun i i1 i2 => ne i (by omega))
      · rw [if_neg (by simp), if_pos rfl]
        exact ⟨_, _, _, rfl, rfl, h⟩
    · have t : decide (k + 1 < W * H) = false := by simp [c]
      rw [t, if_neg Bool.false_ne_true, if_neg (by simp)]
      exact ⟨_, _, _, rfl, rfl, h⟩
  · rw [isin_neg hn (by decide), if_neg Bool.false_ne_true, if_neg (by simp)]
    exact ⟨_, _, _, rfl, rfl, h⟩
/-! undo -/
theorem nI_m7 : ∀ m, m < 8 → (nI m - nI 1) &&& nI 7 = nI ((m + 7) % 8) := by decide +kernel
theorem Md_undo_57_eq (z : pj_S) (p : Nat) (hp : p < 8) :
    ∃ z2, Md_undo_57 (nI (196 * p)) z = some (nI 1, z2) ∧ (∀ c, c ≠ 1 → z2.1 c = z.1 c) ∧ (∀ j, ¬ (74 ≤ j ∧ j < 138) → ¬ (202 ≤ j ∧ j < 266) → ¬ (1490 ≤ j ∧ j < 1554) → z2.1 1 j = z.1 1 j) ∧
      ∀ s, s < 64 → z2.1 1 (74 + s) = z.1 3 (196 * p + 4 + s) ∧ z2.1 1 (202 + s) = z.1 3 (196 * p + 68 + s) ∧ z2.1 1 (1490 + s) = z.1 3 (196 * p + 132 + s) := by
  unfold Md_undo_57
  obtain ⟨a, k, z2, ⟨e1, e2, e3⟩, e⟩ := pj_loop2 (F := Md_undo_59)
    (P := fun d a v z' => ∃ k, k + d = 64 ∧ a = nI (196 * p) ∧ v = nI k ∧ (∀ c, c ≠ 1 → z'.1 c = z.1 c) ∧ (∀ j, ¬ (74 ≤ j ∧ j < 138) → ¬ (202 ≤ j ∧ j < 266) → ¬ (1490 ≤ j ∧ j < 1554) → z'.1 1 j = z.1 1 j) ∧
      ∀ s, s < k → z'.1 1 (74 + s) = z.1 3 (196 * p + 4 + s) ∧ z'.1 1 (202 + s) = z.1 3 (196 * p + 68 + s) ∧ z'.1 1 (1490 + s) = z.1 3 (196 * p + 132 + s))
    (E := fun a v z' => (∀ c, c ≠ 1 → z'.1 c = z.1 c) ∧ (∀ j, ¬ (74 ≤ j ∧ j < 138) → ¬ (202 ≤ j ∧ j < 266) → ¬ (1490 ≤ j ∧ j < 1554) → z'.1 1 j = z.1 1 j) ∧
      ∀ s, s < 64 → z'.1 1 (74 + s) = z.1 3 (196 * p + 4 + s) ∧ z'.1 1 (202 + s) = z.1 3 (196 * p + 68 + s) ∧ z'.1 1 (1490 + s) = z.1 3 (196 * p + 132 + s))
    (G := fun _ _ z' => pj_g (pj_bo (nI 1)) (some ((nI 1), z'))) (by
      rintro self d a v z' ⟨k, hk, rfl, rfl, h1, h2, h3⟩
      unfold Md_undo_59
      by_cases c : 64 ≤ k
      · left
        have : k = 64 := by omega
        subst this
        exact ⟨⟨h1, h2, h3⟩, by rw [if_pos (by rw [nI_leP (by decide) (by omega)]; omega)]⟩
      · right
        rw [if_neg (by rw [nI_leP (by decide) (by omega)]; omega)]
        simp (disch := omega) only [pj_bI, nI_add, pj_gIn, nI_clamp]
        refine ⟨d - 1, _, _, _, by omega, ⟨k + 1, by omega, rfl, rfl, fun c hc => ?_, fun j j1 j2 j3 => ?_, fun s hs => ?_⟩, rfl⟩
        · rw [ag_n _ _ _ _ hc, ag_n _ _ _ _ hc, ag_n _ _ _ _ hc]
          exact h1 c hc
        · rw [ag_1, upd_ne (by omega), ag_1, upd_ne (by omega), ag_1, upd_ne (by omega)]
          exact h2 j j1 j2 j3
        · have a1 : z'.1 3 = z.1 3 := h1 3 (by decide)
          simp only [ag_1, ag_n _ 1 _ _ (show (3 : Nat) ≠ 1 by decide), a1]
          by_cases hsk : s = k
          · subst hsk
            refine ⟨?_, ?_, ?_⟩
            · rw [upd_ne (by omega), upd_ne (by omega), upd_s]
            · rw [upd_ne (by omega), upd_s]
            · rw [upd_s]
          · obtain ⟨g1, g2, g3⟩ := h3 s (by omega)
            refine ⟨?_, ?_, ?_⟩
            · rw [upd_ne (by omega), upd_ne (by omega), upd_ne (by omega)]; exact g1
            · rw [upd_ne (by omega), upd_ne (by omega), upd_ne (by omega)]; exact g2
            · rw [upd_ne (by omega), upd_ne (by omega), upd_ne (by omega)]; exact g3)
    4000 64 (nI (196 * p)) (nI 0) z ⟨0, by omega, rfl, rfl, fun _ _ => rfl, fun _ _ _ _ => rfl, fun s hs => absurd hs (by omega)⟩ (by decide)
  rw [e]
  exact ⟨_, rfl, e1, e2, e3⟩
theorem Md_undo_30_eq (z : pj_S) (p : Nat) (hp : p < 8) :
    ∃ z2, pj_lp2 Md_undo_30 4000 (nI (196 * p)) (nI 0) z = some (nI 1, z2) ∧ (∀ c, c ≠ 1 → z2.1 c = z.1 c) ∧ (∀ j, ¬ (3 ≤ j ∧ j < 7) → ¬ (74 ≤ j ∧ j < 138) → ¬ (202 ≤ j ∧ j < 266) → ¬ (1490 ≤ j ∧ j < 1554) → z2.1 1 j = z.1 1 j) ∧
      (∀ s, s < 4 → z2.1 1 (3 + s) = z.1 3 (196 * p + s)) ∧
      ∀ s, s < 64 → z2.1 1 (74 + s) = z.1 3 (196 * p + 4 + s) ∧ z2.1 1 (202 + s) = z.1 3 (196 * p + 68 + s) ∧ z2.1 1 (1490 + s) = z.1 3 (196 * p + 132 + s) := by
  obtain ⟨a, k, z2, ⟨rfl, e1, e2, e3⟩, e⟩ := pj_loop2 (F := Md_undo_30)
    (P := fun d a v z' => ∃ k, k + d = 4 ∧ a = nI (196 * p) ∧ v = nI k ∧ (∀ c, c ≠ 1 → z'.1 c = z.1 c) ∧ (∀ j, ¬ (3 ≤ j ∧ j < 7) → z'.1 1 j = z.1 1 j) ∧ ∀ s, s < k → z'.1 1 (3 + s) = z.1 3 (196 * p + s))
    (E := fun a v z' => a = nI (196 * p) ∧ (∀ c, c ≠ 1 → z'.1 c = z.1 c) ∧ (∀ j, ¬ (3 ≤ j ∧ j < 7) → z'.1 1 j = z.1 1 j) ∧ ∀ s, s < 4 → z'.1 1 (3 + s) = z.1 3 (196 * p + s))
    (G := fun a _ z' => Md_undo_57 a z') (by
      rintro self d a v z' ⟨k, hk, rfl, rfl, h1, h2, h3⟩
      unfold Md_undo_30
      by_cases c : 4 ≤ k
      · left
        have : k = 4 := by omega
        subst this
        exact ⟨⟨rfl, h1, h2, h3⟩, by rw [if_pos (by rw [nI_leP (by decide) (by omega)]; omega)]⟩
      · right
        rw [if_neg (by rw [nI_leP (by decide) (by omega)]; omega)]
        simp (disch := omega) only [pj_bI, nI_add, pj_gIn, nI_clamp]
        refine ⟨d - 1, _, _, _, by omega, ⟨k + 1, by omega, rfl, rfl, fun c hc => ?_, fun j j1 => ?_, fun s hs => ?_⟩, rfl⟩
        · rw [ag_n _ _ _ _ hc]
          exact h1 c hc
        · rw [ag_1, upd_ne (by omega)]
          exact h2 j j1
        · have a1 : z'.1 3 = z.1 3 := h1 3 (by decide)
          simp only [ag_1, a1]
          by_cases hsk : s = k
          · subst hsk
            rw [upd_s]
          · rw [upd_ne (by omega)]; exact h3 s (by omega))
    4000 4 (nI (196 * p)) (nI 0) z ⟨0, by omega, rfl, rfl, fun _ _ => rfl, fun _ _ => rfl, fun s hs => absurd hs (by omega)⟩ (by decide)
  rw [e]
  obtain ⟨z3, q, q1, q2, q3⟩ := Md_undo_57_eq z2 p hp
  refine ⟨z3, q, fun c hc => (q1 c hc).trans (e1 c hc), fun j j1 j2 j3 j4 => (q2 j j2 j3 j4).trans (e2 j j1), fun s hs => (q2 _ (by omega) (by omega) (by omega)).trans (e3 s hs), fun s hs => ?_⟩
  rw [← e1 3 (by decide)]
  exact q3 s hs
theorem ok_undo : pj_ok pa_I PJ_undo Md_undo := by
  intro zC zM h
  obtain ⟨⟨W, H, b, hr, nb, nl, pr, n, m, hA⟩, hK⟩ := id h
  obtain ⟨⟨hF, hH, hd, ⟨b1, b2, b3, b4⟩, ⟨u1, u2, u3, u4⟩, hL⟩, h1, h2, h3, hP⟩ := id hA
  obtain ⟨a1, a2, a3, cb, cl, a4, a5⟩ := hP
  unfold PJ_undo Past_goBack Md_undo
  rw [h1, h2, h3, nI_m7 m a2]
  by_cases c : n = 0
  · subst c
    rw [if_neg (by decide), if_pos nI_0]
    exact ⟨_, _, _, rfl, rfl, h⟩
  · have lt0 : (0 : Int32) < nI n := nI_lt (a := 0) (by omega) (by omega)
    rw [if_pos lt0, if_neg (by rw [nI_eq0 (by omega)]; exact c), pk_sub (by omega)]
    simp (disch := omega) only [pj_bI, pj_gIn, nI_clamp]
    have e0 : (pj_sI zM 0 3 (nI (n - 1))).1 0 3 = nI (n - 1) := rfl
    rw [e0, pk_mul]
    obtain ⟨z2, q, q1, q2, q3, q4⟩ := Md_undo_30_eq (pj_sI zM 0 3 (nI (n - 1))) (n - 1) (by omega)
    rw [q]
    have ib : (m + 8 - n + (n - 1)) % 8 = (m + 7) % 8 := by omega
    obtain ⟨x1, x2, x3, x4, ⟨v, v1, v2, v3⟩, x6⟩ := a3 (n - 1) (by omega)
    obtain ⟨y1, y2, y3, y4, y5, y6⟩ := a4 (n - 1) (by omega)
    rw [ib] at x1 x2 x3 x4 v2 x6 y1 y3
    have q3 : ∀ s, s < 4 → z2.1 1 (3 + s) = zM.1 3 (196 * (n - 1) + s) := q3
    have q4 : ∀ s, s < 64 → z2.1 1 (74 + s) = zM.1 3 (196 * (n - 1) + 4 + s) ∧ z2.1 1 (202 + s) = zM.1 3 (196 * (n - 1) + 68 + s) ∧ z2.1 1 (1490 + s) = zM.1 3 (196 * (n - 1) + 132 + s) := q4
    have q2 : ∀ j, ¬ (3 ≤ j ∧ j < 7) → ¬ (74 ≤ j ∧ j < 138) → ¬ (202 ≤ j ∧ j < 266) → ¬ (1490 ≤ j ∧ j < 1554) → z2.1 1 j = zM.1 1 j := q2
    have q1 : ∀ c, c ≠ 1 → c ≠ 0 → z2.1 c = zM.1 c := fun c c1 c0 => by rw [q1 c c1, ag_n _ _ _ _ c0]
    have q0 : z2.1 0 = (pj_sI zM 0 3 (nI (n - 1))).1 0 := by
      obtain ⟨z3, r, r1, -⟩ := Md_undo_30_eq (pj_sI zM 0 3 (nI (n - 1))) (n - 1) (by omega)
      rw [q] at r
      cases r
      exact r1 0 (by decide)
    have z0 : ∀ j, j ≠ 3 → z2.1 0 j = zM.1 0 j := fun j hj => by rw [q0, ag_1, upd_ne hj]
    have z3 : z2.1 0 3 = nI (n - 1) := by rw [q0, ag_1, upd_s]
    refine ⟨_, _, _, rfl, rfl, pa_I.of (W := W) (H := H) (b := b) (hr := v) (nb := cb (n - 1)) (nl := cl (n - 1)) (pr := pr) (n := n - 1) (m := (m + 7) % 8) ⟨⟨?_, ⟨v1, ?_, ?_⟩, ?_, ⟨?_, ?_, ?_, ?_⟩, ⟨?_, ?_, ?_, ?_⟩, ?_⟩, ?_, z3, rfl, ?_⟩ ?_⟩
    · obtain ⟨f1, ⟨g1, g2, g3, g4, g5, g6⟩, f3, f4, f5, f6, f7, f8, f9, f10, f11⟩ := hF
      refine ⟨f1, ⟨g1, g2, g3, ?_, ?_, ?_⟩, f3, fun i hi => ?_, fun i hi => ?_, fun i hi => ?_, fun i hi => ?_, fun i hi => ?_, fun i hi g => ?_, ?_, ?_⟩
      · rw [q2 _ (by omega) (by omega) (by omega) (by omega)]; exact g4
      · rw [q2 _ (by omega) (by omega) (by omega) (by omega)]; exact g5
      · rw [q2 _ (by omega) (by omega) (by omega) (by omega)]; exact g6
      · rw [q2 _ (by omega) (by omega) (by omega) (by omega)]; exact f4 i hi
      · rw [(q4 i hi).1]; exact (x1 i hi).1
      · rw [q2 _ (by omega) (by omega) (by omega) (by omega)]; exact f6 i hi
      · rw [(q4 i hi).2.2]; exact (x1 i hi).2.2
      · rw [(q4 i hi).2.1]; exact (x1 i hi).2.1
      · obtain ⟨k1, k2, k3, k4, k5⟩ := f9 i hi g
        exact ⟨k1, k2, (x2 i hi g).1, k4, (x2 i hi g).2⟩
      · exact x3
      · exact x4
    · exact v2
    · rw [q3 2 (by decide)]; exact v3
    · rw [q3 3 (by decide)]; exact x6
    · omega
    · exact y1
    · rw [q3 1 (by decide)]; exact y2
    · intro i hi
      rw [q2 _ (by omega) (by omega) (by omega) (by omega), q2 _ (by omega) (by omega) (by omega) (by omega), q2 _ (by omega) (by omega) (by omega) (by omega)]
      exact b4 i (by omega)
    · omega
    · exact y3
    · have := q3 0 (by decide)
      rw [this]; exact y4
    · intro i hi
      rw [q2 _ (by omega) (by omega) (by omega) (by omega)]
      exact u4 i (by omega)
    · exact hL.w (fun i i1 i2 => q2 i (by omega) (by omega) (by omega) (by omega))
    · show zC.1 3 7 - nI 1 = _
      rw [h1, pk_sub (by omega)]
    · rw [q1 3 (by decide) (by decide)]
      have ix : ∀ i, i < n - 1 → ((m + 7) % 8 + 8 - (n - 1) + i) % 8 = (m + 8 - n + i) % 8 := fun i hi => by omega
      refine ⟨by omega, by omega, fun i hi => ?_, cb, cl, fun i hi => ?_, fun i j hij hj => a5 i j hij (by omega)⟩
      · rw [ix i hi]; exact a3 i (by omega)
      · rw [ix i hi]
        obtain ⟨t1, t2, t3, t4, t5, t6⟩ := a4 i (by omega)
        obtain ⟨m1, m2⟩ := a5 i (n - 1) (by omega) (by omega)
        exact ⟨t1, t2, t3, t4, m1, m2⟩
    · unfold pa_K at hK ⊢
      rw [q1 2 (by decide) (by decide), q1 6 (by decide) (by decide), z0 4 (by decide), z0 12 (by decide), z0 19 (by decide), z0 21 (by decide)]
      exact hK
