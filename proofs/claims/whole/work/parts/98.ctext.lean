/-! text -/
theorem Law_take_eq (z : pj_S) (n : Nat) (hn : n ≤ 400) (l : Int32) : ∃ z2, Law_take (nI n) l z = some ((), z2) ∧ (∀ c, c ≠ 9 → c ≠ 29 → z2.1 c = z.1 c) ∧ z2.2 = z.2 ∧ z2.1 9 2 = nI n ∧ z2.1 9 3 = l ∧ ∀ j, j < n → z2.1 29 j = z.1 27 j := by
  unfold Law_take
  have mx : pj_max (nI 0) (pj_min (nI n) (pj_min (nI 400) (nI 400))) = nI n := by
    rw [pj_minN (by decide) (by decide), pj_minN (by omega) (by decide), Nat.min_self, Nat.min_eq_left hn]
    unfold pj_max
    by_cases h : n = 0
    · subst h; rfl
    · rw [if_pos (nI_lt (by omega) (by omega))]
  rw [mx]
  have e2 : ∀ v, (pj_sI z 9 2 v).1 9 2 = v := fun v => rfl
  simp only [pj_bI, e2]
  rw [pj_cpT hn, nI_clamp (by decide), nI_clamp (by omega)]
  refine ⟨_, rfl, fun c h1 h2 => ?_, rfl, rfl, rfl, fun j hj => ?_⟩
  · simp only [pj_sI1, pj_cp1, h1, h2, ↓reduceIte]
  · show va_cpy (z.1 27) (z.1 29) 0 0 n j = _
    unfold va_cpy
    rw [if_pos (by omega), Nat.sub_zero, Nat.zero_add]
/-- the model's rows: lines -/
theorem text_lines {z : pj_S} {L : Nat} (hL : L ≤ 16) (h10 : z.1 0 10 = nI L) : ∀ d i q z', i + d = L → d < q → (∀ c, c ≠ 1 → z'.1 c = z.1 c) → (∀ a, (a < 610 ∨ 670 ≤ a) → z'.1 1 a = z.1 1 a) → (∀ k, k < i → z'.1 1 (610 + k) = z.1 4 (3 * k) ∧ z'.1 1 (630 + k) = z.1 4 (3 * k + 1) ∧ z'.1 1 (650 + k) = z.1 4 (3 * k + 2)) →
    ∃ z2, pj_lp1 Md_text_112 q (nI i) z' = Md_text_184 z2 ∧ (∀ c, c ≠ 1 → z2.1 c = z.1 c) ∧ (∀ a, (a < 610 ∨ 670 ≤ a) → z2.1 1 a = z.1 1 a) ∧ (∀ k, k < L → z2.1 1 (610 + k) = z.1 4 (3 * k) ∧ z2.1 1 (630 + k) = z.1 4 (3 * k + 1) ∧ z2.1 1 (650 + k) = z.1 4 (3 * k + 2)) := by
  intro d
  induction d with
  | zero =>
    intro i q z' hi hq c1 c2 c3
    obtain ⟨q, rfl⟩ : ∃ x, q = x + 1 := ⟨q - 1, by omega⟩
    have : i = L := by omega
    subst this
    refine ⟨z', ?_, c1, c2, c3⟩
    rw [pj_lp1_s]
    unfold Md_text_112
    rw [c1 0 (by decide), h10, if_pos (nI_le (Nat.le_refl _) (by omega))]
  | succ d ih =>
    intro i q z' hi hq c1 c2 c3
    obtain ⟨q, rfl⟩ : ∃ x, q = x + 1 := ⟨q - 1, by omega⟩
    have j3 : nI 3 * nI i = nI (3 * i) := by rw [pk_mul]
    have j31 : nI (3 * i) + nI 1 = nI (3 * i + 1) := by rw [nI_add]
    have j32 : nI (3 * i) + nI 2 = nI (3 * i + 2) := by rw [nI_add]
    have j610 : nI 610 + nI i = nI (610 + i) := by rw [nI_add]
    have j630 : nI 630 + nI i = nI (630 + i) := by rw [nI_add]
    have j650 : nI 650 + nI i = nI (650 + i) := by rw [nI_add]
    have j1 : nI i + nI 1 = nI (i + 1) := by rw [nI_add]
    have e4 : z'.1 4 = z.1 4 := c1 4 (by decide)
    have e4b : ∀ (a : Nat) (v : Int32), (pj_sI z' 1 a v).1 4 = z.1 4 := fun a v => by rw [ag_n _ _ _ _ (by decide)]; exact e4
    have e4c : ∀ (a a2 : Nat) (v v2 : Int32), (pj_sI (pj_sI z' 1 a v) 1 a2 v2).1 4 = z.1 4 := fun a a2 v v2 => by rw [ag_n _ _ _ _ (by decide)]; exact e4b a v
    have ih2 := ih (i + 1) q (pj_sI (pj_sI (pj_sI z' 1 (610 + i) (z.1 4 (3 * i))) 1 (630 + i) (z.1 4 (3 * i + 1))) 1 (650 + i) (z.1 4 (3 * i + 2))) (by omega) (by omega) (fun c hc => by rw [ag_n _ _ _ _ hc, ag_n _ _ _ _ hc, ag_n _ _ _ _ hc]; exact c1 c hc)
      (fun a ha => by rw [ag_1, upd_ne (by omega), ag_1, upd_ne (by omega), ag_1, upd_ne (by omega)]; exact c2 a ha) (fun k hk => by
        by_cases ck : k = i
        · subst ck
          refine ⟨?_, ?_, ?_⟩
          · rw [ag_1, upd_ne (by omega), ag_1, upd_ne (by omega), ag_1, upd_s]
          · rw [ag_1, upd_ne (by omega), ag_1, upd_s]
          · rw [ag_1, upd_s]
        · obtain ⟨r1, r2, r3⟩ := c3 k (by omega)
          refine ⟨?_, ?_, ?_⟩
          · rw [ag_1, upd_ne (by omega), ag_1, upd_ne (by omega), ag_1, upd_ne (by omega)]; exact r1
          · rw [ag_1, upd_ne (by omega), ag_1, upd_ne (by omega), ag_1, upd_ne (by omega)]; exact r2
          · rw [ag_1, upd_ne (by omega), ag_1, upd_ne (by omega), ag_1, upd_ne (by omega)]; exact r3)
    rw [pj_lp1_s]
    generalize pj_lp1 Md_text_112 q = self at ih2 ⊢
    unfold Md_text_112
    rw [c1 0 (by decide), h10, if_neg (by rw [nI_leP (by omega) (by omega)]; omega), j3, j31, j32, j610, j630, j650, pj_gIn (n := 3 * i) (by omega) (by decide), pj_gIn (n := 610 + i) (by omega) (by decide), nI_clamp (n := 3 * i) (by omega), nI_clamp (n := 610 + i) (by omega), e4, pj_bI, pj_gIn (n := 3 * i + 1) (by omega) (by decide), pj_gIn (n := 630 + i) (by omega) (by decide), nI_clamp (n := 3 * i + 1) (by omega), nI_clamp (n := 630 + i) (by omega), e4b, pj_bI, pj_gIn (n := 3 * i + 2) (by omega) (by decide), pj_gIn (n := 650 + i) (by omega) (by decide), nI_clamp (n := 3 * i + 2) (by omega), nI_clamp (n := 650 + i) (by omega), e4c, pj_bI, j1, pj_bI]
    exact ih2
/-- the model's rows: steps -/
theorem text_steps {z : pj_S} {S : Nat} (hS : S ≤ 400) (h11 : z.1 0 11 = nI S) : ∀ d i q z', i + d = 2 * S → d < q → (∀ c, c ≠ 1 → z'.1 c = z.1 c) → (∀ a, (a < 670 ∨ 1470 ≤ a) → z'.1 1 a = z.1 1 a) → (∀ k, k < i → z'.1 1 (670 + k) = z.1 5 k) →
    ∃ z2, pj_lp1 Md_text_186 q (nI i) z' = Md_text_218 z2 ∧ (∀ c, c ≠ 1 → z2.1 c = z.1 c) ∧ (∀ a, (a < 670 ∨ 1470 ≤ a) → z2.1 1 a = z.1 1 a) ∧ (∀ k, k < 2 * S → z2.1 1 (670 + k) = z.1 5 k) := by
  intro d
  induction d with
  | zero =>
    intro i q z' hi hq c1 c2 c3
    obtain ⟨q, rfl⟩ : ∃ x, q = x + 1 := ⟨q - 1, by omega⟩
    have : i = 2 * S := by omega
    subst this
    refine ⟨z', ?_, c1, c2, c3⟩
    rw [pj_lp1_s]
    unfold Md_text_186
    rw [c1 0 (by decide), h11, pk_mul, if_pos (nI_le (Nat.le_refl _) (by omega))]
  | succ d ih =>
    intro i q z' hi hq c1 c2 c3
    obtain ⟨q, rfl⟩ : ∃ x, q = x + 1 := ⟨q - 1, by omega⟩
    have ih2 := ih (i + 1) q (pj_sI z' 1 (670 + i) (z.1 5 i)) (by omega) (by omega) (fun c hc => by rw [ag_n _ _ _ _ hc]; exact c1 c hc)
      (fun a ha => by rw [ag_1, upd_ne (by omega)]; exact c2 a ha) (fun k hk => by
        rw [ag_1]
        by_cases ck : k = i
        · subst ck; rw [upd_s]
        · rw [upd_ne (by omega)]; exact c3 k (by omega))
    have j670 : nI 670 + nI i = nI (670 + i) := by rw [nI_add]
    have j1 : nI i + nI 1 = nI (i + 1) := by rw [nI_add]
    rw [pj_lp1_s]
    generalize pj_lp1 Md_text_186 q = self at ih2 ⊢
    unfold Md_text_186
    rw [c1 0 (by decide), h11, pk_mul, if_neg (by rw [nI_leP (by omega) (by omega)]; omega), pj_gIn (n := i) (by omega) (by decide), j670, pj_gIn (n := 670 + i) (by omega) (by decide), nI_clamp (n := i) (by omega), nI_clamp (n := 670 + i) (by omega), c1 5 (by decide), pj_bI, j1, pj_bI]
    exact ih2
/-- the new law, in both -/
theorem new_law {r : List pa_Ln} {code : Nat → Int32} {w fl f5 : Nat → Int32} (h16 : r.length ≤ 16) (hO : (r.flatMap pa_ops).length ≤ 400) (hE : (r.flatMap pa_encL).length ≤ 400) (hok : ∀ x ∈ r, pa_okL x) (hc : ∀ j v, (r.flatMap pa_encL)[j]? = some v → code j = v)
    (w605 : w 605 = nI r.length) (hl : ∀ k, k < r.length → w (610 + k) = fl (3 * k) ∧ w (630 + k) = fl (3 * k + 1) ∧ w (650 + k) = fl (3 * k + 2)) (hf : flok r fl) (hs : ∀ k, k < 2 * (r.flatMap pa_ops).length → w (670 + k) = f5 k) (hlk : lok (r.flatMap pa_ops) f5) :
    pa_L r code (nI (r.flatMap pa_encL).length) (nI r.length) w := by
  refine ⟨h16, hO, hE, hok, rfl, rfl, hc, w605, fun i hi => ?_, fun j o hj => ?_⟩
  · obtain ⟨a1, a2, a3⟩ := hl i hi
    obtain ⟨b1, b2, b3⟩ := hf i hi
    rw [a1, a2, a3]
    exact ⟨b1, b2, b3⟩
  · have hj2 := (List.getElem?_eq_some_iff.mp hj).1
    obtain ⟨c1, c2⟩ := hlk j o hj
    rw [hs (2 * j) (by omega), show 671 + 2 * j = 670 + (2 * j + 1) by omega, hs (2 * j + 1) (by omega)]
    exact ⟨c1, c2⟩
theorem ok_text : pj_ok pa_I PJ_text Md_text := by
  intro zC zM h
  obtain ⟨⟨W, H, b, hr, nb, nl, pr, n, m, hA⟩, hK⟩ := id h
  obtain ⟨⟨hF, hH, hd, hBk, hU, hL⟩, h1, h2, h3, hP⟩ := id hA
  obtain ⟨hI, ⟨nt, t1, t2, n4, hby⟩, -, -⟩ := id hK
  -- the tape
  have hBy : ∀ i, i < nt → (zM.1 6 i).toNatClampNeg < 256 ∧ zC.1 23 i &&& nI 255 = nI (zM.1 6 i).toNatClampNeg ∧ zM.1 6 i = nI (zM.1 6 i).toNatClampNeg := fun i hi => by
    obtain ⟨c, c256, e1, e2⟩ := hby i hi
    rw [e2, nI_clamp (by omega)]
    exact ⟨c256, e1, rfl⟩
  generalize hBB : (fun i => (zM.1 6 i).toNatClampNeg) = B
  have hBe : ∀ i, (zM.1 6 i).toNatClampNeg = B i := fun i => by rw [← hBB]
  simp only [hBe] at hBy
  have hB : ∀ i, i < nt → B i < 256 := fun i hi => (hBy i hi).1
  obtain ⟨J, hJ, hJ1, hJ2⟩ := lJ hB
  have hV : ∀ j, lV B nt j < 2 ^ 31 := fun j => vlP_b hB _ (lP_b hB j)
  -- the class: scan
  have z5c : ∀ c, c ≠ 5 → (pj_sI (pj_sI (pj_sI (pj_sI (pj_sI zC 5 8 (nI 0)) 5 9 (-1)) 5 5 (nI 0)) 5 6 (nI 0)) 5 7 (nI 0)).1 c = zC.1 c := fun c hc => by rw [ag_n _ _ _ _ hc, ag_n _ _ _ _ hc, ag_n _ _ _ _ hc, ag_n _ _ _ _ hc, ag_n _ _ _ _ hc]
  have cb : cB B nt (pj_sI (pj_sI (pj_sI (pj_sI (pj_sI zC 5 8 (nI 0)) 5 9 (-1)) 5 5 (nI 0)) 5 6 (nI 0)) 5 7 (nI 0)) := by
    unfold cB
    rw [z5c 4 (by decide), z5c 23 (by decide)]
    exact ⟨n4, t1, fun i hi => ⟨(hBy i hi).1, (hBy i hi).2.1⟩⟩
  obtain ⟨zS, eS, s1, s2, s3, s4, s5⟩ := Reader_scan_eq cb hJ hJ1 hJ2
  have zSc : ∀ c, c ≠ 5 → c ≠ 24 → c ≠ 25 → c ≠ 26 → zS.1 c = zC.1 c := fun c a1 a2 a3 a4 => (s1 c a1 a2 a3 a4).trans (z5c c a1)
  have zS2 : zS.2 = zC.2 := s2
  have k58 : zS.1 5 8 = nI 0 := by rw [s3 8 (by decide)]; rfl
  have k59 : zS.1 5 9 = -1 := by rw [s3 9 (by decide)]; rfl
  have hkc : cTk (lT B nt) (lV B nt) (lP B nt) J zS := ⟨by omega, hJ1, fun j _ => tkP_v _, s4, fun j hj => s5 j (by omega)⟩
  have hcs : CS zS 0 0 [] zS := ⟨fun _ _ _ => rfl, rfl, rfl, by rw [s3 7 (by decide)]; rfl, rfl, rfl, by rw [s3 5 (by decide)]; rfl, by rw [s3 6 (by decide)]; rfl, fun i v q => by cases q⟩
  have rc := rc_text hkc hV 401 0 [] 4000 zS hcs (Nat.zero_le _) (by omega) (by decide) (by decide) (Nat.le_refl _)
  -- the model: the first token
  have mb : mB B nt (pj_sI (pj_sI (pj_sI (pj_sI zM 0 17 (nI 0)) 0 13 (nI 0)) 0 10 (nI 0)) 0 11 (nI 0)) := ⟨n4, t2, fun i hi => ⟨(hBy i hi).1, (hBy i hi).2.2⟩⟩
  obtain ⟨zN, eN, fN, g1, g2, g3, g4⟩ := next0_eq mb 0 (Nat.zero_le _) rfl
  have hkm := mTk_ok (mb.f fN) hJ hJ1
  have zNc : ∀ c, c ≠ 0 → zN.1 c = zM.1 c := fun c hc => by rw [fN.1 c hc, ag_n _ _ _ _ hc, ag_n _ _ _ _ hc, ag_n _ _ _ _ hc, ag_n _ _ _ _ hc]
  have zN0 : ∀ k, k ≠ 10 → k ≠ 11 → k ≠ 13 → k ≠ 14 → k ≠ 15 → k ≠ 16 → k ≠ 17 → zN.1 0 k = zM.1 0 k := fun k a1 a2 a3 a4 a5 a6 a7 => by rw [fN.2 k a3 a4 a5 a6, ag_1, upd_ne a2, ag_1, upd_ne a1, ag_1, upd_ne a3, ag_1, upd_ne a7]
  have m17 : zN.1 0 17 = nI 0 := by rw [fN.2 17 (by decide) (by decide) (by decide) (by decide)]; rfl
  have hms : MS (lT B nt) (lV B nt) (lP B nt) (lE B nt) zN 0 (zN.1 4) (zN.1 0 20).toBitVec.toNat 0 [] zN := ⟨⟨fun _ _ _ _ => rfl, fun _ _ _ _ _ _ _ _ _ _ => rfl⟩, ⟨g1, g2, g3, g4⟩, ⟨rfl, rfl⟩, by rw [fN.2 10 (by decide) (by decide) (by decide) (by decide)]; rfl, rfl, nI_self _, by rw [fN.2 11 (by decide) (by decide) (by decide) (by decide)]; rfl, fun i o q => by cases q⟩
  have rm := rm_text hkm hV 401 0 [] 4000 zN (zN.1 4) _ hms (fun i hi => absurd hi (by show ¬ i < 0; omega)) (Nat.zero_le _) (by omega) (by decide) (by decide) (Nat.le_refl _)
  unfold PJ_text Md_text Reader_read
  rw [pj_bI, pj_bI, pj_bI, pj_bI, pj_bI, eS, pj_cS, pj_bI, pj_bI, pj_bI, pj_bI, eN, pj_cS]
  cases et : textL (lT B nt) (lV B nt) 401 0 [] with
  | error e =>
    obtain ⟨k, jf⟩ := e
    rw [et] at rc rm
    obtain ⟨z2, e2, c1, c2, c3, c4⟩ := rc
    obtain ⟨y2, f2, ⟨d1, d2⟩, d3, d4⟩ := rm
    have e2 : pj_lp1 Reader_read_32 4000 (nI 0) zS = some (nI 0, z2) := e2
    rw [e2, pj_cS, pj_bI, if_pos (by decide), f2]
    unfold Md_text_63 Md_text_89
    rw [pj_bI, pj_bI, if_pos (by decide), pj_bI, if_pos (by decide)]
    have zf : ∀ c, c ≠ 4 → c ≠ 5 → c ≠ 24 → c ≠ 25 → c ≠ 26 → c ≠ 27 → (pj_sI z2 4 1 (nI 0)).1 c = zC.1 c := fun c a1 a2 a3 a4 a5 a6 => by rw [ag_n _ _ _ _ a1, c1 c a2 a6, zSc c a2 a3 a4 a5]
    have zf2 : (pj_sI z2 4 1 (nI 0)).2 = zC.2 := c2.trans zS2
    have e17 : (pj_sI y2 0 12 (nI 0)).1 0 17 = nI k := d3
    have e18 : (pj_sI (pj_sI y2 0 12 (nI 0)) 0 19 ((pj_sI y2 0 12 (nI 0)).1 0 17)).1 0 18 = nI (lP B nt jf) := d4
    rw [e18, e17]
    have yf : ∀ c, c ≠ 0 → c ≠ 4 → c ≠ 5 → (pj_sI (pj_sI (pj_sI y2 0 12 (nI 0)) 0 19 (nI k)) 0 21 (nI (lP B nt jf))).1 c = zM.1 c := fun c a1 a2 a3 => by rw [ag_n _ _ _ _ a1, ag_n _ _ _ _ a1, ag_n _ _ _ _ a1, d1 c a1 a2 a3, zNc c a1]
    have y3 : (pj_sI (pj_sI (pj_sI y2 0 12 (nI 0)) 0 19 (nI k)) 0 21 (nI (lP B nt jf))).1 0 3 = zM.1 0 3 := by
      rw [ag_1, upd_ne (by decide), ag_1, upd_ne (by decide), ag_1, upd_ne (by decide), d2 3 (by decide) (by decide) (by decide) (by decide) (by decide) (by decide) (by decide) (by decide) (by decide), zN0 3 (by decide) (by decide) (by decide) (by decide) (by decide) (by decide) (by decide)]
    have y4 : (pj_sI (pj_sI (pj_sI y2 0 12 (nI 0)) 0 19 (nI k)) 0 21 (nI (lP B nt jf))).1 0 4 = zM.1 0 4 := by
      rw [ag_1, upd_ne (by decide), ag_1, upd_ne (by decide), ag_1, upd_ne (by decide), d2 4 (by decide) (by decide) (by decide) (by decide) (by decide) (by decide) (by decide) (by decide) (by decide), zN0 4 (by decide) (by decide) (by decide) (by decide) (by decide) (by decide) (by decide)]
    refine ⟨-1, _, _, rfl, rfl, ⟨⟨W, H, b, hr, nb, nl, pr, n, m, ?_⟩, ?_, ⟨0, rfl, rfl, by omega, fun i hi => by omega⟩, ?_, ?_⟩⟩
    · unfold pa_A at hA ⊢
      rw [y3]
      simp (disch := decide) only [zf, zf2, yf]
      exact hA
    · rw [y4]
      simp (disch := decide) only [zf, zf2, yf]
      exact hI
    · exact c3
    · exact c4
  | ok r =>
    rw [et] at rc rm
    obtain ⟨z2, j2, e2, c1, lE, l16⟩ := rc
    obtain ⟨y2, j3, fl2, dp2, f2, ⟨⟨d1, d2⟩, d3, ⟨d4, d4b⟩, d5, d6, d7, d8, d9⟩, fk, lO⟩ := rm
    obtain ⟨x1, x2, x3, x4, x5, x6, x7, x8, x9⟩ := c1
    obtain ⟨okr, -⟩ := textL_ok hV 401 0 [] r et (fun x hx => by cases hx) (by decide)
    have e2 : pj_lp1 Reader_read_32 4000 (nI 0) zS = Reader_read_60 z2 := e2
    obtain ⟨z3, q1, q2, q3, q4, q5, q6⟩ := Law_take_eq z2 (r.flatMap pa_encL).length lE (nI r.length)
    rw [e2]
    unfold Reader_read_60
    rw [x8, x4, q1, pj_cS]
    have n10 : ¬ nI 1 = 0 := by decide
    rw [show pj_g (pj_bo (nI 1)) (some (nI 1, z3)) = some (nI 1, z3) from rfl, pj_cS, pj_bI, if_neg n10, f2]
    unfold Md_text_63 Md_text_89
    rw [pj_bI, pj_bI, if_neg n10, pj_bI, if_neg n10, pj_gIn (n := 605) (by decide) (by decide), nI_clamp (n := 605) (by decide), pj_bI]
    -- the model's state, before its rows are filled
    generalize hy : pj_sI (pj_sI (pj_sI (pj_sI y2 0 12 (nI 0)) 0 19 ((pj_sI y2 0 12 (nI 0)).1 0 17)) 0 21 (-1)) 1 605 ((pj_sI (pj_sI (pj_sI y2 0 12 (nI 0)) 0 19 ((pj_sI y2 0 12 (nI 0)).1 0 17)) 0 21 (-1)).1 0 10) = y5
    have u10 : y5.1 0 10 = nI r.length := by rw [← hy]; exact d5
    have u11 : y5.1 0 11 = nI (r.flatMap pa_ops).length := by rw [← hy]; exact d8
    have u12 : y5.1 0 12 = nI 0 := by rw [← hy]; rfl
    have u19 : y5.1 0 19 = nI 0 := by rw [← hy]; show y2.1 0 17 = _; rw [d4]; exact m17
    have u21 : y5.1 0 21 = -1 := by rw [← hy]; rfl
    have u605 : y5.1 1 605 = nI r.length := by rw [← hy]; exact d5
    have u4 : y5.1 4 = fl2 := by rw [← hy]; exact d6
    have u5 : y5.1 5 = y2.1 5 := by rw [← hy]; rfl
    have uc : ∀ c, c ≠ 0 → c ≠ 1 → c ≠ 4 → c ≠ 5 → y5.1 c = zM.1 c := fun c a1 a2 a3 a4 => by rw [← hy, ag_n _ _ _ _ a2, ag_n _ _ _ _ a1, ag_n _ _ _ _ a1, ag_n _ _ _ _ a1, d1 c a1 a3 a4, zNc c a1]
    have u1 : ∀ a, a ≠ 605 → y5.1 1 a = zM.1 1 a := fun a ha => by rw [← hy, ag_1, upd_ne ha, ag_n _ _ _ _ (by decide), ag_n _ _ _ _ (by decide), ag_n _ _ _ _ (by decide), d1 1 (by decide) (by decide) (by decide), zNc 1 (by decide)]
    have u03 : y5.1 0 3 = zM.1 0 3 := by
      rw [← hy, ag_n _ _ _ _ (by decide), ag_1, upd_ne (by decide), ag_1, upd_ne (by decide), ag_1, upd_ne (by decide), d2 3 (by decide) (by decide) (by decide) (by decide) (by decide) (by decide) (by decide) (by decide) (by decide), zN0 3 (by decide) (by decide) (by decide) (by decide) (by decide) (by decide) (by decide)]
    have u04 : y5.1 0 4 = zM.1 0 4 := by
      rw [← hy, ag_n _ _ _ _ (by decide), ag_1, upd_ne (by decide), ag_1, upd_ne (by decide), ag_1, upd_ne (by decide), d2 4 (by decide) (by decide) (by decide) (by decide) (by decide) (by decide) (by decide) (by decide) (by decide), zN0 4 (by decide) (by decide) (by decide) (by decide) (by decide) (by decide) (by decide)]
    obtain ⟨y6, e6, v1, v2, v3⟩ := text_lines l16 u10 r.length 0 4000 y5 (by omega) (by omega) (fun _ _ => rfl) (fun _ _ => rfl) (fun k hk => by omega)
    rw [e6]
    unfold Md_text_184
    have u11b : y6.1 0 11 = nI (r.flatMap pa_ops).length := by rw [v1 0 (by decide)]; exact u11
    obtain ⟨y7, e7, o1, o2, o3⟩ := text_steps lO u11b (2 * (r.flatMap pa_ops).length) 0 4000 y6 (by omega) (by omega) (fun _ _ => rfl) (fun _ _ => rfl) (fun k hk => by omega)
    rw [e7]
    unfold Md_text_218
    have w0 : y7.1 0 = y5.1 0 := (o1 0 (by decide)).trans (v1 0 (by decide))
    have wr : ∀ a, (a < 605 ∨ 1490 ≤ a) → y7.1 1 a = zM.1 1 a := fun a ha => by rw [o2 a (by omega), v2 a (by omega), u1 a (by omega)]
    have yc : ∀ c, c ≠ 0 → c ≠ 1 → c ≠ 4 → c ≠ 5 → y7.1 c = zM.1 c := fun c a1 a2 a3 a4 => by rw [o1 c a2, v1 c a2, uc c a1 a2 a3 a4]
    have zf : ∀ c, c ≠ 4 → c ≠ 5 → c ≠ 24 → c ≠ 25 → c ≠ 26 → c ≠ 27 → c ≠ 9 → c ≠ 29 → (pj_sI z3 4 1 (nI 0)).1 c = zC.1 c := fun c a1 a2 a3 a4 a5 a6 a7 a8 => by rw [ag_n _ _ _ _ a1, q2 c a7 a8, x1 c a2 a6, zSc c a2 a3 a4 a5]
    have zf2 : (pj_sI z3 4 1 (nI 0)).2 = zC.2 := (q3.trans x2).trans zS2
    have z93 : (pj_sI z3 4 1 (nI 0)).1 9 3 = nI r.length := by rw [ag_n _ _ _ _ (by decide)]; exact q5
    have z92 : (pj_sI z3 4 1 (nI 0)).1 9 2 = nI (r.flatMap pa_encL).length := by rw [ag_n _ _ _ _ (by decide)]; exact q4
    have z29 : (pj_sI z3 4 1 (nI 0)).1 29 = z3.1 29 := ag_n _ _ _ _ (by decide)
    have z58 : (pj_sI z3 4 1 (nI 0)).1 5 8 = nI 0 := by rw [ag_n _ _ _ _ (by decide), q2 5 (by decide) (by decide), x5]; exact k58
    have z59 : (pj_sI z3 4 1 (nI 0)).1 5 9 = -1 := by rw [ag_n _ _ _ _ (by decide), q2 5 (by decide) (by decide), x6]; exact k59
    have ret : y7.1 0 10 = nI r.length := by rw [w0]; exact u10
    have newL : pa_L r (z3.1 29) (nI (r.flatMap pa_encL).length) (nI r.length) (y7.1 1) := new_law (fl := fl2) (f5 := y6.1 5) l16 lO lE okr (fun j v hj => by rw [q6 j (List.getElem?_eq_some_iff.mp hj).1]; exact x9 j v hj) (by rw [o2 605 (by omega), v2 605 (by omega)]; exact u605)
      (fun k hk => by rw [o2 _ (by omega), o2 _ (by omega), o2 _ (by omega), ← u4]; exact v3 k hk) fk o3 (by rw [v1 5 (by decide), u5]; exact d9)
    rw [z93, ret]
    refine ⟨nI r.length, _, _, rfl, rfl, ⟨⟨W, H, b, hr, nb, nl, r, n, m, ?_⟩, ?_, ⟨0, rfl, by rw [w0]; exact u12, by omega, fun i hi => by omega⟩, ?_, ?_⟩⟩
    · unfold pa_A
      rw [z92, z93, z29, w0, u03]
      simp (disch := decide) only [zf, zf2, yc]
      exact ⟨⟨hF.w (fun i hi => wr i (by unfold rgF at hi; omega)), ⟨hH.1, hH.2.1, by rw [wr 5 (by omega)]; exact hH.2.2⟩, by rw [wr 6 (by omega)]; exact hd, hBk.w (fun i hi => wr i (by omega)), hU.w (fun i hi => wr i (by omega)), newL⟩, h1, h2, h3, hP⟩
    · rw [w0, u04]
      simp (disch := decide) only [zf, zf2, yc]
      exact hI
    · rw [z58, w0]; exact u19.symm
    · rw [z59, w0]; exact u21.symm
