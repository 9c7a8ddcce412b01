/-! save -/
theorem Md_least_eq (a b : Nat) (ha : a < 1000) (hb : b < 1000) (z : pj_S) : Md_leastM (nI a) (nI b) z = some (nI (min a b), z) := by
  unfold Md_leastM
  by_cases c : b ≤ a
  · rw [if_pos (nI_le c (by omega)), Nat.min_eq_right c]
  · rw [if_neg (by rw [nI_leP (by omega) (by omega)]; exact c), Nat.min_eq_left (by omega)]
theorem Md_save_count {he ca : Nat → Bool} {z : pj_S} (h74 : ∀ s, s < 64 → z.1 1 (74 + s) = b2i (he s)) (h138 : ∀ s, s < 64 → z.1 1 (138 + s) = b2i (ca s)) (a c : Int32) :
    pj_lp4 Md_save_50 4000 a c (nI 0) (nI 0) z = Md_save_80 a c (nI (cnt (fun t => he t && !ca t) 64)) z := by
  have run : ∀ d k q, k + d = 64 → d < q → pj_lp4 Md_save_50 q a c (nI (cnt (fun t => he t && !ca t) k)) (nI k) z = Md_save_80 a c (nI (cnt (fun t => he t && !ca t) 64)) z := fun d => by
    induction d with
    | zero =>
      intro k q hk hq
      have : k = 64 := by omega
      subst this
      obtain ⟨q, rfl⟩ : ∃ p, q = p + 1 := ⟨q - 1, by omega⟩
      rw [pj_lp4_s]
      unfold Md_save_50
      rw [if_pos (nI_le (by omega) (by omega))]
    | succ d ih =>
      intro k q hk hq
      obtain ⟨q, rfl⟩ : ∃ p, q = p + 1 := ⟨q - 1, by omega⟩
      have i1 : nI k + nI 1 = nI (k + 1) := by rw [nI_add]
      have cs : cnt (fun t => he t && !ca t) (k + 1) = cnt (fun t => he t && !ca t) k + (he k && !ca k).toNat := rfl
      have cq : Md_canCatch (nI k) z = some (b2i (he k && !ca k), z) := by
        unfold Md_canCatch
        have i74 : nI 74 + nI k = nI (74 + k) := by rw [nI_add]
        have i138 : nI 138 + nI k = nI (138 + k) := by rw [nI_add]
        rw [i74, i138, pj_gIn (n := 74 + k) (by omega) (by decide), nI_clamp (n := 74 + k) (by omega), h74 k (by omega), ib1, pj_gIn (n := 138 + k) (by omega) (by decide), nI_clamp (n := 138 + k) (by omega), h138 k (by omega), ib0]
        cases he k <;> cases ca k <;> rfl
      have ih2 := ih (k + 1) q (by omega) (by omega)
      rw [← ih2, cs, pj_lp4_s]
      generalize pj_lp4 Md_save_50 q = self
      unfold Md_save_50 Md_save_72
      rw [if_neg (by rw [nI_leP (by decide) (by omega)]; omega), cq, pj_cS, ib0, i1]
      cases (he k && !ca k)
      · rw [if_neg Bool.false_ne_true, nI_add, pj_bI, pj_bI]; rfl
      · rw [if_pos rfl, nI_add, pj_bI, pj_bI]; rfl
  exact run 64 0 4000 rfl (by decide)
theorem ok_save (a c : Int32) : pj_ok pa_I (PJ_save a c) (Md_save a c) := by
  intro zC zM h
  obtain ⟨⟨W, H, b, hr, nb, nl, pr, n, m, hA⟩, hK⟩ := id h
  have hF := hA.1.1
  obtain ⟨f1, ⟨a1, a2, a3, a4, a5, a6⟩, f3, f4, f5, f6, f7, -⟩ := id hF
  have fin : ∀ r : Int32, ∃ r2 zC2 zM2, some (r, zC) = some (r2, zC2) ∧ some (r, zM) = some (r2, zM2) ∧ pa_I zC2 zM2 := fun r => ⟨r, zC, zM, rfl, rfl, h⟩
  have cls : ∀ x : Int32, isin x ((0 : Nat) : Int) ((3 : Nat) : Int) = false → x < 0 ∨ nI 3 < x := fun x q => by
    unfold isin at q
    rw [Bool.and_eq_false_iff, decide_eq_false_iff_not, decide_eq_false_iff_not] at q
    rw [Int32.lt_iff_toInt_lt, Int32.lt_iff_toInt_lt, nI_toInt (by decide)]
    simp
    omega
  unfold PJ_save Md_save
  rw [Md_isIn_eq, pj_cS, ib0, Md_isIn_eq, pj_cS, ib0, nI_toInt (n := 0) (by decide), nI_toInt (n := 3) (by decide)]
  cases h1 : isin a ((0 : Nat) : Int) ((3 : Nat) : Int)
  · rw [if_neg Bool.false_ne_true]
    by_cases q : a < 0
    · rw [if_pos q]; exact fin _
    · rw [if_neg q, if_pos ((cls a h1).resolve_left q)]; exact fin _
  · obtain ⟨A, A3, rfl⟩ := isin_n (n := 3) (by decide) h1
    rw [if_pos rfl, if_neg (nI_pos (by omega)), if_neg (by rw [nI_ltP (by decide) (by omega)]; omega)]
    cases h2 : isin c ((0 : Nat) : Int) ((3 : Nat) : Int)
    · rw [if_neg Bool.false_ne_true]
      by_cases q : c < 0
      · rw [if_pos q]; exact fin _
      · have : ¬ c ≤ nI 3 := fun e => by
          have e1 := Int32.le_iff_toInt_le.mp e
          have e2 := Int32.lt_iff_toInt_lt.mp ((cls c h2).resolve_left q)
          omega
        rw [if_neg q, if_neg this]; exact fin _
    · obtain ⟨C, C3, rfl⟩ := isin_n (n := 3) (by decide) h2
      rw [if_pos rfl, if_neg (nI_pos (by omega)), if_pos (nI_le C3 (by decide))]
      -- the class
      have fcnt : cnt (tb ((zC.2 8 6) &&& ((zC.2 8 7) ^^^ (-1 : Int64)))) 64 = cnt (fun t => tb (zC.2 8 6) t && !tb (zC.2 8 7) t) 64 := cnt_congr 64 (fun t ht => by rw [tb_and, tb_not _ _ ht])
      have F64 : cnt (fun t => tb (zC.2 8 6) t && !tb (zC.2 8 7) t) 64 ≤ 64 := cnt_le _ _
      generalize hM : min A (cnt (fun t => tb (zC.2 8 6) t && !tb (zC.2 8 7) t) 64) = M
      have ag0 : agS zC (pj_sJ (pj_sI zC 7 0 (nI 37)) 7 1 0) := fun d hd => ⟨by rw [pj_sJ1, ag_n _ _ _ _ hd], by rw [sJ_n _ _ _ _ hd]; rfl⟩
      obtain ⟨g0, eg0, hg0⟩ := Saver_goingWith_eq hF ag0 (x := 0) (ch := []) (fun t _ => by rw [tb_0]; rfl) (fun t ht => by cases ht)
      obtain ⟨zc2, ec, agc, stc⟩ := choose_run hF M 6 [] 0 ((zC.2 8 6) &&& ((zC.2 8 7) ^^^ (-1 : Int64))) 0 g0 _ none (by omega) (by omega) ag0 (by decide) (fun t ht => by rw [tb_and, tb_not _ _ ht]; unfold scR; simp) (fun t _ => by rw [tb_0]; rfl) (fun t ht => by cases ht) hg0 rfl
      have sC : Saver_search (nI A) zC = some ((), zc2) := by
        unfold Saver_search
        rw [pj_bI, pj_bI, pj_bI, JLong_bitCount_eq, pj_cS, eg0, pj_cS, fcnt, pj_minN (by omega) (by omega), hM]
        unfold Saver_choose_o
        rw [ec, pj_cS]
      -- the model
      have zi : ∃ z3, pj_lp3 Md_save_22 4000 (nI A) (nI C) (nI 0) zM = Md_save_40 (nI A) (nI C) z3 ∧ (∀ d, d ≠ 15 → z3.1 d = zM.1 d) ∧ ∀ i, i < 3 → z3.1 15 i = -1 := by
        refine ⟨pj_sI (pj_sI (pj_sI zM 15 0 (-1)) 15 1 (-1)) 15 2 (-1), rfl, fun d hd => by rw [ag_n _ _ _ _ hd, ag_n _ _ _ _ hd, ag_n _ _ _ _ hd], fun i hi => ?_⟩
        have : i = 0 ∨ i = 1 ∨ i = 2 := by omega
        rcases this with rfl | rfl | rfl <;> rfl
      obtain ⟨z3, e3, c3, l3⟩ := zi
      have w1 : (pj_sI z3 0 32 (-1)).1 1 = zM.1 1 := by rw [ag_n _ _ _ _ (by decide), c3 1 (by decide)]
      obtain ⟨zm2, em, mo, -, stm⟩ := saves_run (W := W) (H := H) (b := b) (kd := kdb (tb (zC.2 8 4)) (tb (zC.2 8 5))) (he := tb (zC.2 8 6)) (ca := tb (zC.2 8 7)) (z0 := zM) (M := M) f1.2.2 f1.2.1 a4 a5 a6 f4 (kdb_lt _ _) f5 f6 hF.here (by omega) M 6 [] 0 (pj_sI z3 0 32 (-1)) none (by omega) (by show 0 + M = M; omega) (by decide)
        ⟨fun d q1 q2 => by rw [ag_n _ _ _ _ (by omega), c3 d (by omega)], fun j hj => by rw [ag_1, upd_ne hj, c3 0 (by decide)]⟩ (fun i t hi => by cases hi) (fun t ht => by cases ht) ⟨fun i _ i3 => by rw [ag_n _ _ _ _ (by decide)]; exact l3 i i3, rfl⟩
      have em : Md_saves_o (nI 0) (nI M) (nI 0) (pj_sI z3 0 32 (-1)) = some ((), zm2) := em
      rw [sC, pj_cS, e3]
      unfold Md_save_40
      rw [pj_bI, Md_save_count (he := tb (zC.2 8 6)) (ca := tb (zC.2 8 7)) (by rw [w1]; exact f5) (by rw [w1]; exact f6)]
      unfold Md_save_80
      rw [Md_least_eq _ _ (by omega) (by omega), pj_cS, hM, em, pj_cS]
      -- what was found
      have fnd : (sv (scR zC) (scN W H b zC) M [] 0 none).isSome = true := sv_found M [] 0 none (by decide) (by
        show M + 0 ≤ cnt (fun t => tb (zC.2 8 6) t && !tb (zC.2 8 7) t) 64
        omega)
      have okk := sv_ok (fr := scR zC) (N := scN W H b zC) (M := M) (fun t ht => by
        unfold scR at ht
        rw [Bool.and_eq_true] at ht
        exact stit_48 f1.2.2.2 (hF.here t ht.1)) M [] 0 none (by show 0 + M = M; omega) List.Pairwise.nil (fun t ht => by cases ht) (fun k l e => by cases e)
      have stm : stM M zm2 (sv (scR zC) (scN W H b zC) M [] 0 none) := stm
      have inv : pa_I zc2 zm2 := by
        have k1 : ∀ c, c ≠ 7 → zc2.1 c = zC.1 c := fun c x => (agc c x).1
        have k2 : ∀ c, c ≠ 7 → zc2.2 c = zC.2 c := fun c x => (agc c x).2
        unfold pa_I pa_A pa_K at h ⊢
        simp (disch := decide) only [k1, k2, mo.1, mo.2]
        exact h
      generalize sv (scR zC) (scN W H b zC) M [] 0 none = res at stc stm fnd okk
      cases res with
      | none => cases fnd
      | some p =>
        obtain ⟨k, l⟩ := p
        obtain ⟨p1, p2, p3⟩ := stc
        obtain ⟨r0, r1, r2, r3, r4⟩ := stm
        obtain ⟨o1, o2, o3⟩ := okk k l rfl
        by_cases c0 : C = 0
        · subst c0
          rw [if_pos (by decide), if_pos (by decide), p2, r3]
          exact ⟨_, _, _, rfl, rfl, inv⟩
        · have ne : ¬ nI C = 0 := nI_ne0 (by omega) (by omega)
          rw [if_neg ne, if_neg ne, pk_sub (by omega), pj_gIn (n := C - 1) (by omega) (by decide), nI_clamp (n := C - 1) (by omega)]
          obtain ⟨n1, n2⟩ := PJ_numberIn_eq (zc2.2 7 1) (C - 1) (by omega) zc2
          have cc : ∀ j, j ≤ 64 → cnt (tb (zc2.2 7 1)) j = cnt (fun t => decide (t ∈ l)) j := fun j hj => cnt_congr j (fun t ht => p3 t (by omega))
          by_cases cl : C - 1 < l.length
          · obtain ⟨s, hs⟩ : ∃ s, l[C - 1]? = some s := ⟨l[C - 1], List.getElem?_eq_getElem cl⟩
            have s48 := o3 s (List.mem_of_getElem? hs)
            rw [n1 s s48 (by rw [p3 s (by omega), decide_eq_true (List.mem_of_getElem? hs)]) (by rw [cc s (by omega)]; exact srtd_cnt l o2 _ s hs), pj_cS, r4 _ s hs]
            exact ⟨_, _, _, rfl, rfl, inv⟩
          · rw [n2 (by rw [cc 48 (by decide), srtd_all l o2 o3]; omega), pj_cS, r0 _ (by omega) (by omega)]
            exact ⟨_, _, _, rfl, rfl, inv⟩
