/-! comes, all -/
section WB
variable {W H : Nat} {b : Bool} {hr nb nl : Nat} {pr : List pa_Ln} {n m : Nat} {zC zM z2 : pj_S}
theorem WI0 (hA : pa_A W H b hr nb nl pr n m zC zM) (hK : pa_K zC zM) (e9 : ∀ c, c < 9 → z2.1 c = zM.1 c) (L2 : pm_lay W (kdb (tb (zC.2 8 4)) (tb (zC.2 8 5))) (tb (zC.2 8 6)) (tb (zC.2 8 7)) z2) (real dir : Bool) (k0 : Nat) :
    WI W H b hr nl pr n m real zC nb dir k0 0 [] (-1) (pj_sJ (pj_sJ (pj_sI (pj_sI zC 6 1 (nI 0)) 6 2 (-1)) 6 3 (zC.2 8 6)) 6 4 0) (pj_sI (pj_sI (pj_sI z2 0 26 (nI 0)) 0 27 (nI 0)) 0 28 (-1)) := by
  have e3 : ∀ c, 1 ≤ c → c < 7 → (pj_sI (pj_sI (pj_sI z2 0 26 (nI 0)) 0 27 (nI 0)) 0 28 (-1)).1 c = zM.1 c := fun c q1 q2 => by rw [ag_n _ _ _ _ (by omega), ag_n _ _ _ _ (by omega), ag_n _ _ _ _ (by omega), e9 c (by omega)]
  have e30 : ∀ i, i < 26 → (pj_sI (pj_sI (pj_sI z2 0 26 (nI 0)) 0 27 (nI 0)) 0 28 (-1)).1 0 i = zM.1 0 i := fun i hi => by rw [ag_1, upd_ne (by omega), ag_1, upd_ne (by omega), ag_1, upd_ne (by omega), e9 0 (by omega)]
  refine ⟨(((agP.rf zC).I (Or.inl rfl)).I (Or.inl rfl)).J (Or.inl rfl) |>.J (Or.inl rfl), ⟨rfl, rfl, fun i s h => by cases h⟩, fun t ht => ?_, L2, ⟨rfl, rfl, rfl⟩, fun t ht => ?_, ⟨Nat.le_refl 0, rfl⟩, fun t ht q => ?_, fun s hs => (by cases hs), (zC, nb), (by cases real <;> rfl), fun _ _ => rfl, hA.pm e3 e30, hK.pm e3 e30⟩
  · show tb 0 t = true ↔ _
    rw [tb_0]
    exact ⟨fun q => (Bool.false_ne_true q).elim, fun ⟨i, hi, _⟩ => absurd hi (by omega)⟩
  · show tb (zC.2 8 6) t = _
    simp
  · have q : tb 0 t = true := q
    rw [tb_0] at q
    exact (Bool.false_ne_true q).elim
theorem walk_both (hA : pa_A W H b hr nb nl pr n m zC zM) (hK : pa_K zC zM) (e9 : ∀ c, c < 9 → z2.1 c = zM.1 c) (L2 : pm_lay W (kdb (tb (zC.2 8 4)) (tb (zC.2 8 5))) (tb (zC.2 8 6)) (tb (zC.2 8 7)) z2) (real dir : Bool) {k0 : Nat} (hk0 : k0 < W * H)
    {limC limM : Nat} (hl1 : ∀ c, c < 36 → (limC ≤ c ↔ limM ≤ c)) (hl2 : limC < 100 ∧ limM < 100) (hl0 : 0 < limC) :
    ∃ l j e zc2 zm2, Puller_walk (nI k0) (b2i dir) (nI limC) zC = some ((), zc2) ∧ Md_pulls (nI k0) (b2i dir) (nI limM) (b2i real) z2 = some ((), zm2) ∧ j ≤ plJ dir (W * H) k0 ∧ WI W H b hr nl pr n m real zC nb dir k0 j l e zc2 zm2 := by
  obtain ⟨p1, p2⟩ := wh_b hA.1.1.1
  have h0 : pl dir k0 0 = k0 := by unfold pl; cases dir <;> simp
  have hJ : 0 < plJ dir (W * H) k0 ∧ plJ dir (W * H) k0 ≤ 36 := by unfold plJ; cases dir <;> simp <;> omega
  obtain ⟨l, j, e, zc2, zm2, f1, f2, f3, f4⟩ := walk_run (dir := dir) (k0 := k0) hA.1.1 hk0 hl1 hl2 (plJ dir (W * H) k0) 0 [] _ _ 4000 4000 (by omega) (by omega) (by omega) (by omega) (by show ¬ limC ≤ 0; omega) (WI0 hA hK e9 L2 real dir k0)
  rw [h0] at f1 f2
  refine ⟨l, j, e, zc2, zm2, ?_, ?_, f3, f4⟩
  · unfold Puller_walk
    rw [pj_bI, pj_bI, pj_bI, pj_bI]
    exact f1
  · unfold Md_pulls Md_pulls_10
    cases dir
    · rw [if_neg (by decide), pj_bI, pj_bI, pj_bI]; exact f2
    · rw [if_pos (by decide), pj_bI, pj_bI, pj_bI]; exact f2
end WB
theorem end_dir {P : Nat} {cu : Nat → Bool} {v u : Int32} (hP : P ≤ 36) (h : endI P cu v u = true) : ∃ k dir, k < P ∧ v = nI k ∧ u = b2i dir := by
  obtain ⟨k, hk, rfl, ⟨rfl, -⟩ | ⟨rfl, -⟩⟩ := endI_t hP h
  · exact ⟨k, true, hk, rfl, rfl⟩
  · exact ⟨k, false, hk, rfl, rfl⟩
theorem lim_36 : ∀ c, c < 36 → (36 ≤ c ↔ 65 ≤ c) := fun c hc => ⟨fun h => absurd h (by omega), fun h => absurd h (by omega)⟩
/-- the thought: both pull, nothing of what is now differs -/
theorem think_both {W H : Nat} {b : Bool} {hr nb nl : Nat} {pr : List pa_Ln} {n m : Nat} {zC zM : pj_S} (hA : pa_A W H b hr nb nl pr n m zC zM) (hK : pa_K zC zM) (dir : Bool) {k0 : Nat} (hk0 : k0 < W * H) :
    ∃ (l : List Nat) (e : Int32) (zc2 z1 z2 zm2 : pj_S), Puller_walk (nI k0) (b2i dir) (nI 36) zC = some ((), zc2) ∧ Md_laysNow zM = some ((), z1) ∧ Md_laysHolders z1 = some ((), z2) ∧ Md_pulls (nI k0) (b2i dir) (nI 65) (nI 0) z2 = some ((), zm2) ∧
      zc2.1 6 1 = nI l.length ∧ zm2.1 0 26 = nI l.length ∧ zc2.1 6 2 = e ∧ zm2.1 0 28 = e ∧ cnt (tb (zc2.2 6 3)) 64 + l.length = cnt (tb (zC.2 8 6)) 64 ∧ agP zC zc2 ∧ pa_A W H b hr nb nl pr n m zc2 zm2 ∧ pa_K zc2 zm2 := by
  obtain ⟨z1, z2, y1, v1, e9, L2⟩ := lay_both hA
  obtain ⟨l, j, e, zc2, zm2, f1, f2, f3, a1, ⟨b1, b2, b3⟩, c1, L, ⟨m1, m2, m3⟩, i1, ⟨kj, kc⟩, mm, oo, p, hp, hp8, hA2, hK2⟩ := walk_both hA hK e9 L2 false dir hk0 lim_36 ⟨by decide, by decide⟩ (by decide)
  rw [if_neg Bool.false_ne_true] at hp
  subst hp
  exact ⟨l, e, zc2, z1, z2, zm2, f1, y1, v1, f2, b1, m1, b2, m3, kc, a1, hA2.pc a1, hK2.pc a1⟩
theorem ok_comes (a c d : Int32) : pj_ok pa_I (PJ_comes a c d) (Md_comes a c d) := by
  intro zC zM h
  obtain ⟨⟨W, H, b, hr, nb, nl, pr, n, m, hA⟩, hK⟩ := id h
  obtain ⟨p1, p2⟩ := wh_b hA.1.1.1
  have hF := hA.1.1
  have fin : ∀ r : Int32, ∃ r2 zC2 zM2, some (r, zC) = some (r2, zC2) ∧ some (r, zM) = some (r2, zM2) ∧ pa_I zC2 zM2 := fun r => ⟨r, zC, zM, rfl, rfl, h⟩
  unfold PJ_comes Md_comes
  rw [Fabric_isEnd_eq hF, pj_cS, Md_isEnd_eq hF.2.1.2.2.2.1 hF.2.1.2.2.2.2.1 ⟨p1, p2⟩ _ hF.2.2.2.2.2.2.2.1, pj_cS, ib0, ib0]
  cases he : endI (W * H) (tb (zC.2 8 9)) a c
  · rw [if_neg Bool.false_ne_true, if_neg Bool.false_ne_true]; exact fin _
  · obtain ⟨k0, dir, hk0, rfl, rfl⟩ := end_dir p2 he
    obtain ⟨l, e, zc2, z1, z2, zm2, f1, f2, f3, f4, f5, f6, f7, f8, -, f9, f10, f11⟩ := think_both hA hK dir hk0
    rw [if_pos rfl, if_pos rfl, f1, pj_cS, Md_isIn_eq, pj_cS, ib0, nI_toInt (n := 0) (by decide), nI_toInt (n := 1) (by decide)]
    cases hi : isin d ((0 : Nat) : Int) ((1 : Nat) : Int)
    · have d0 : ¬ d = 0 := fun q => by subst q; exact absurd hi (by decide)
      have d1 : ¬ d = nI 1 := fun q => by subst q; exact absurd hi (by decide)
      rw [if_neg Bool.false_ne_true, if_neg d0, if_neg d1]
      exact ⟨_, _, _, rfl, rfl, pa_I.of (hA.pc f9) (hK.pc f9)⟩
    · obtain ⟨v, rfl⟩ := isin_b hi
      rw [if_pos rfl, f2, pj_cS, f3, pj_cS, f4, pj_cS, f5, f6, f7, f8]
      cases v
      · rw [if_pos (by decide), if_pos (by decide)]; exact ⟨_, _, _, rfl, rfl, pa_I.of f10 f11⟩
      · have t0 : ¬ b2i true = 0 := by decide
        rw [if_neg t0, if_neg t0, if_pos (by decide)]; exact ⟨_, _, _, rfl, rfl, pa_I.of f10 f11⟩
theorem cnt_0 {f : Nat → Bool} : ∀ n, cnt f n = 0 → ∀ i, i < n → f i = false
  | 0, _, i, h => by omega
  | n + 1, h, i, hi => by
    have h : cnt f n + (f n).toNat = 0 := h
    by_cases c : i = n
    · subst c
      cases q : f i
      · rfl
      · rw [q] at h; simp at h
    · exact cnt_0 n (by omega) i (by omega)
/-- does this end undo all? -/
theorem all_at {W H : Nat} {b : Bool} {hr nb nl : Nat} {pr : List pa_Ln} {n m : Nat} {zC zM : pj_S} (hA : pa_A W H b hr nb nl pr n m zC zM) (hK : pa_K zC zM) (dir : Bool) {k : Nat} (hk : k < W * H) :
    ∃ (q : Bool) (r : Int32) (zc2 zm2 : pj_S), PJ_undoesAll (nI k) (b2i dir) zC = some (b2i q, zc2) ∧ Md_comes (nI k) (b2i dir) (nI 0) zM = some (r, zm2) ∧ ((r = nI (cnt (tb (zC.2 8 6)) 64)) ↔ q = true) ∧ zc2.2 8 = zC.2 8 ∧ pa_A W H b hr nb nl pr n m zc2 zm2 ∧ pa_K zc2 zm2 := by
  obtain ⟨p1, p2⟩ := wh_b hA.1.1.1
  have hF := hA.1.1
  have c64 : cnt (tb (zC.2 8 6)) 64 ≤ 64 := cnt_le _ _
  unfold PJ_undoesAll Md_comes
  rw [Fabric_isEnd_eq hF, pj_cS, Md_isEnd_eq hF.2.1.2.2.2.1 hF.2.1.2.2.2.2.1 ⟨p1, p2⟩ _ hF.2.2.2.2.2.2.2.1, pj_cS, ib0, ib0]
  cases he : endI (W * H) (tb (zC.2 8 9)) (nI k) (b2i dir)
  · rw [if_neg Bool.false_ne_true, if_neg Bool.false_ne_true]
    refine ⟨false, -1, zC, zM, rfl, rfl, ⟨fun q => ?_, fun q => (Bool.false_ne_true q).elim⟩, rfl, hA, hK⟩
    have : (-1 : Int32).toInt = ((cnt (tb (zC.2 8 6)) 64 : Nat) : Int) := by rw [q, nI_toInt (by omega)]
    have e1 : (-1 : Int32).toInt = -1 := by decide
    omega
  · obtain ⟨l, e, zc2, z1, z2, zm2, f1, f2, f3, f4, f5, f6, f7, f8, kc, f9, f10, f11⟩ := think_both hA hK dir hk
    have i0 : isin (nI 0) ((0 : Nat) : Int) ((1 : Nat) : Int) = true := by decide
    have n00 : nI 0 = 0 := nI_0
    rw [if_pos rfl, if_pos rfl, f1, pj_cS, Md_isIn_eq, pj_cS, ib0, nI_toInt (n := 0) (by decide), nI_toInt (n := 1) (by decide), i0, if_pos rfl, f2, pj_cS, f3, pj_cS, f4, pj_cS, if_pos n00, f6]
    have key : zc2.2 6 3 = 0 ↔ l.length = cnt (tb (zC.2 8 6)) 64 := by
      constructor
      · intro q
        rw [q, cnt_zero (f := tb 0) 64 (fun i _ => tb_0 i)] at kc
        omega
      · intro q
        have : cnt (tb (zc2.2 6 3)) 64 = 0 := by omega
        apply tb_ext
        intro i hi
        rw [cnt_0 64 this i hi, tb_0]
    by_cases c : zc2.2 6 3 = 0
    · rw [if_pos ((lg_cmp_eq _ _).mpr c)]
      exact ⟨true, _, zc2, zm2, rfl, rfl, ⟨fun _ => rfl, fun _ => by rw [key.mp c]⟩, (f9 8 (by decide) (by decide)).2, f10, f11⟩
    · rw [if_neg (fun q => c ((lg_cmp_eq _ _).mp q))]
      exact ⟨false, _, zc2, zm2, rfl, rfl, ⟨fun q => absurd (key.mpr ((nI_eq (by omega) (by omega)).mp q)) c, fun q => (Bool.false_ne_true q).elim⟩, (f9 8 (by decide) (by decide)).2, f10, f11⟩
theorem all_run {W H : Nat} {b : Bool} {hr nb nl : Nat} {pr : List pa_Ln} {n m : Nat} {N : Nat} (v : Int32) : ∀ d k nC nM zC zM, k + d = W * H → d < nC → d < nM → cnt (tb (zC.2 8 6)) 64 = N → pa_A W H b hr nb nl pr n m zC zM → pa_K zC zM →
    ∃ r zc2 zm2, pj_lp2 PJ_all_28 nC v (nI k) zC = some (r, zc2) ∧ pj_lp3 Md_all_22 nM v (nI N) (nI k) zM = some (r, zm2) ∧ pa_I zc2 zm2
  | d, k, nC, nM, zC, zM, hk, hC, hM, hN, hA, hK => by
    obtain ⟨p1, p2⟩ := wh_b hA.1.1.1
    have hF := hA.1.1
    obtain ⟨nC, rfl⟩ : ∃ q, nC = q + 1 := ⟨nC - 1, by omega⟩
    obtain ⟨nM, rfl⟩ : ∃ q, nM = q + 1 := ⟨nM - 1, by omega⟩
    cases d with
    | zero =>
      refine ⟨-1, zC, zM, ?_, ?_, pa_I.of hA hK⟩
      · rw [pj_lp2_s]
        unfold PJ_all_28
        rw [Fabric_places_eq hF, pj_cS, if_pos (nI_le (by omega) (by omega))]
      · rw [pj_lp3_s]
        unfold Md_all_22
        rw [pj_gIn (n := 0) (by decide) (by decide), pj_gIn (n := 1) (by decide) (by decide), nI_clamp (n := 0) (by decide), nI_clamp (n := 1) (by decide), hF.2.1.2.2.2.1, hF.2.1.2.2.2.2.1, pk_mul, if_pos (nI_le (by omega) (by omega))]
    | succ d =>
      rw [pj_lp2_s, pj_lp3_s]
      have ihh : ∀ zC zM, cnt (tb (zC.2 8 6)) 64 = N → pa_A W H b hr nb nl pr n m zC zM → pa_K zC zM → ∃ r zc2 zm2, pj_lp2 PJ_all_28 nC v (nI (k + 1)) zC = some (r, zc2) ∧ pj_lp3 Md_all_22 nM v (nI N) (nI (k + 1)) zM = some (r, zm2) ∧ pa_I zc2 zm2 := fun zC zM a1 a2 a3 => all_run v d (k + 1) nC nM zC zM (by omega) (by omega) (by omega) a1 a2 a3
      generalize pj_lp2 PJ_all_28 nC = s28 at ihh ⊢
      generalize pj_lp3 Md_all_22 nM = s22 at ihh ⊢
      unfold PJ_all_28 Md_all_22
      rw [Fabric_places_eq hF, pj_cS, if_neg (by rw [nI_leP (by omega) (by omega)]; omega), pj_gIn (n := 0) (by decide) (by decide), pj_gIn (n := 1) (by decide) (by decide), nI_clamp (n := 0) (by decide), nI_clamp (n := 1) (by decide), hF.2.1.2.2.2.1, hF.2.1.2.2.2.2.1, pk_mul, if_neg (by rw [nI_leP (by omega) (by omega)]; omega)]
      -- the answer, where it is found
      have ans : ∀ (x : Int32) (z : pj_S), PJ_all_58 v (nI k) x z = Md_all_60 v (nI k) x z := fun _ _ => rfl
      have ans2 : ∀ (x : Int32) (zc zm : pj_S), pa_I zc zm → ∃ r zc2 zm2, PJ_all_58 v (nI k) x zc = some (r, zc2) ∧ Md_all_60 v (nI k) x zm = some (r, zm2) ∧ pa_I zc2 zm2 := fun x zc zm hI => by
        unfold PJ_all_58 Md_all_60
        by_cases c : v = 0
        · rw [if_pos c, if_pos c]; exact ⟨_, _, _, rfl, rfl, hI⟩
        · rw [if_neg c, if_neg c]; exact ⟨_, _, _, rfl, rfl, hI⟩
      have kP : k < W * H := by omega
      have st : ∀ (i nn : Nat) (dir : Bool), nI i = b2i dir → i < 2 → ∀ zC zM, cnt (tb (zC.2 8 6)) 64 = N → pa_A W H b hr nb nl pr n m zC zM → pa_K zC zM →
          (∃ zc2 zm2, pj_lp3 (PJ_all_44 s28) (nn + 1) v (nI k) (nI i) zC = PJ_all_58 v (nI k) (nI i) zc2 ∧ pj_lp4 (Md_all_42 s22) (nn + 1) v (nI N) (nI k) (nI i) zM = Md_all_60 v (nI k) (nI i) zm2 ∧ pa_I zc2 zm2) ∨
          (∃ zc2 zm2, pj_lp3 (PJ_all_44 s28) (nn + 1) v (nI k) (nI i) zC = pj_lp3 (PJ_all_44 s28) nn v (nI k) (nI (i + 1)) zc2 ∧ pj_lp4 (Md_all_42 s22) (nn + 1) v (nI N) (nI k) (nI i) zM = pj_lp4 (Md_all_42 s22) nn v (nI N) (nI k) (nI (i + 1)) zm2 ∧ cnt (tb (zc2.2 8 6)) 64 = N ∧ pa_A W H b hr nb nl pr n m zc2 zm2 ∧ pa_K zc2 zm2) := fun i nn dir hd hi zC zM hN hA hK => by
        obtain ⟨q, r, zc2, zm2, f1, f2, f3, f4, f5, f6⟩ := all_at hA hK dir kP
        rw [hN] at f3
        rw [pj_lp3_s, pj_lp4_s]
        generalize pj_lp3 (PJ_all_44 s28) nn = t1
        generalize pj_lp4 (Md_all_42 s22) nn = t2
        unfold PJ_all_44 Md_all_42
        rw [if_neg (by rw [nI_ltP (by decide) (by omega)]; omega), if_neg (by rw [nI_leP (by decide) (by omega)]; omega), nI_add, hd, f1, pj_cS, f2, pj_cS, ib0]
        cases q
        · right
          rw [if_neg Bool.false_ne_true, if_neg (fun e => Bool.false_ne_true (f3.mp e)), pj_bI, pj_bI]
          exact ⟨zc2, zm2, rfl, rfl, by rw [f4]; exact hN, f5, f6⟩
        · left
          rw [if_pos rfl, if_pos (f3.mpr rfl)]
          exact ⟨zc2, zm2, rfl, rfl, pa_I.of f5 f6⟩
      rcases st 0 3999 false rfl (by decide) zC zM hN hA hK with ⟨zc2, zm2, e1, e2, e3⟩ | ⟨zc2, zm2, e1, e2, e3, e4, e5⟩
      · rw [show (4000 : Nat) = 3999 + 1 from rfl, e1, e2]
        exact ans2 _ _ _ e3
      · rw [show (4000 : Nat) = 3999 + 1 from rfl, e1, e2]
        rcases st 1 3998 true rfl (by decide) zc2 zm2 e3 e4 e5 with ⟨zc3, zm3, g1, g2, g3⟩ | ⟨zc3, zm3, g1, g2, g3, g4, g5⟩
        · rw [show (3999 : Nat) = 3998 + 1 from rfl, g1, g2]
          exact ans2 _ _ _ g3
        · rw [show (3999 : Nat) = 3998 + 1 from rfl, g1, g2, show (3998 : Nat) = 3997 + 1 from rfl, pj_lp3_s, pj_lp4_s]
          generalize pj_lp3 (PJ_all_44 s28) 3997 = t1
          generalize pj_lp4 (Md_all_42 s22) 3997 = t2
          unfold PJ_all_44 Md_all_42 PJ_all_74 Md_all_77
          rw [if_pos (by decide), if_pos (by decide), nI_add, pj_bI, pj_bI]
          exact ihh zc3 zm3 g3 g4 g5
theorem ok_all (a : Int32) : pj_ok pa_I (PJ_all a) (Md_all a) := by
  intro zC zM h
  obtain ⟨⟨W, H, b, hr, nb, nl, pr, n, m, hA⟩, hK⟩ := id h
  obtain ⟨p1, p2⟩ := wh_b hA.1.1.1
  have hF := hA.1.1
  have fin : ∀ r : Int32, ∃ r2 zC2 zM2, some (r, zC) = some (r2, zC2) ∧ some (r, zM) = some (r2, zM2) ∧ pa_I zC2 zM2 := fun r => ⟨r, zC, zM, rfl, rfl, h⟩
  have c64 : cnt (tb (zC.2 8 6)) 64 ≤ 64 := cnt_le _ _
  unfold PJ_all Md_all
  rw [Md_hereMany_eq zM _ hF.2.2.2.2.1, pj_cS, Md_isIn_eq, pj_cS, ib0, nI_toInt (n := 0) (by decide), nI_toInt (n := 1) (by decide)]
  cases hi : isin a ((0 : Nat) : Int) ((1 : Nat) : Int)
  · rw [if_neg Bool.false_ne_true]
    rcases nI_or a with ⟨k, hk, rfl⟩ | hn
    · have : 1 < k := by
        by_cases c : k ≤ 1
        · have := isin_nI (k := k) (n := 1) hk
          rw [decide_eq_true c] at this
          rw [show ((0 : Nat) : Int) = 0 from rfl, this] at hi
          cases hi
        · omega
      rw [if_neg (nI_pos hk), if_pos (nI_lt this hk)]; exact fin _
    · have l1 : a < 0 := by rw [Int32.lt_iff_toInt_lt]; simp; omega
      rw [if_pos l1]; exact fin _
  · obtain ⟨v, rfl⟩ := isin_b hi
    have v1 : ¬ b2i v < 0 := by cases v <;> decide
    have v2 : ¬ nI 1 < b2i v := by cases v <;> decide
    rw [if_pos rfl, if_neg v1, if_neg v2]
    have key : zC.2 8 6 = 0 ↔ nI (cnt (tb (zC.2 8 6)) 64) = 0 := by
      constructor
      · intro q
        rw [q, cnt_zero (f := tb 0) 64 (fun i _ => tb_0 i)]; decide
      · intro q
        rw [nI_eq0 (by omega)] at q
        apply tb_ext
        intro i hi
        rw [cnt_0 64 q i hi, tb_0]
    by_cases c : zC.2 8 6 = 0
    · rw [if_pos ((lg_cmp_eq _ _).mpr c), if_pos (key.mp c)]; exact fin _
    · rw [if_neg (fun q => c ((lg_cmp_eq _ _).mp q)), if_neg (fun q => c (key.mpr q))]
      exact all_run (b2i v) (W * H) 0 4000 4000 zC zM (by omega) (by omega) (by omega) rfl hA hK
