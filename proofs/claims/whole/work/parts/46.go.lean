/-! a stitch goes: gone; a cut -/
theorem nI_inj0 {a : Bool} : (b2i a = 0) = (a = false) := by cases a <;> simp [b2i] <;> decide
/-- the class's state behind a going -/
def pc_go (z : pj_S) (s nb : Nat) (how : Int32) : pj_S :=
  let z1 := pj_sJ z 8 6 ((z.2 8 6) &&& ((pj_shlL (1 : Int64) (nI s)) ^^^ (-1 : Int64)))
  if nb < 100 then pj_sI (pj_sI (pj_sI (pj_sI z1 31 nb (z.1 1 4)) 32 nb (nI s)) 33 nb how) 10 3 (nI (nb + 1)) else z1
def pm_go (z : pj_S) (s nb : Nat) (how : Int32) : pj_S :=
  let z1 := pj_sI z 1 (74 + s) (nI 0)
  if nb < 100 then pj_sI (pj_sI (pj_sI (pj_sI z1 1 (300 + 3 * nb) (z.1 1 5)) 1 (300 + 3 * nb + 1) (nI s)) 1 (300 + 3 * nb + 2) how) 1 4 (nI (nb + 1)) else z1
theorem Whole_letGo_eq (z : pj_S) (s nb : Nat) (how : Int32) (hb : nb ≤ 100) (h : z.1 10 3 = nI nb) : Whole_letGo (nI s) how z = some ((), pc_go z s nb how) := by
  unfold Whole_letGo pc_go Book_note
  rw [pj_bI]
  have e : (pj_sJ z 8 6 ((z.2 8 6) &&& ((pj_shlL (1 : Int64) (nI s)) ^^^ (-1 : Int64)))).1 10 3 = nI nb := h
  rw [e, if_neg (nI_pos (by omega))]
  by_cases c : nb < 100
  · rw [if_pos (nI_lt c (by decide))]
    simp (disch := omega) only [pj_bI, pj_gIn, nI_clamp, if_pos c]
    have e1 : ∀ (v : Int32) (j : Nat), (pj_sI (pj_sJ z 8 6 ((z.2 8 6) &&& ((pj_shlL (1 : Int64) (nI s)) ^^^ (-1 : Int64)))) 31 j v).1 10 3 = nI nb := fun _ _ => h
    have e2 : ∀ (v v2 : Int32) (j j2 : Nat), (pj_sI (pj_sI (pj_sJ z 8 6 ((z.2 8 6) &&& ((pj_shlL (1 : Int64) (nI s)) ^^^ (-1 : Int64)))) 31 j v) 32 j2 v2).1 10 3 = nI nb := fun _ _ _ _ => h
    have e3 : ∀ (v v2 v3 : Int32) (j j2 j3 : Nat), (pj_sI (pj_sI (pj_sI (pj_sJ z 8 6 ((z.2 8 6) &&& ((pj_shlL (1 : Int64) (nI s)) ^^^ (-1 : Int64)))) 31 j v) 32 j2 v2) 33 j3 v3).1 10 3 = nI nb := fun _ _ _ _ _ _ => h
    simp (disch := omega) only [e1, e2, e3, pj_gIn, nI_clamp, nI_add, pj_cS]
    rfl
  · rw [if_neg (by rw [nI_ltP (by omega) (by decide)]; exact c), if_neg c]
    rfl
theorem Md_isGone_eq (z : pj_S) (s nb : Nat) (how : Int32) (hs : s < 64) (hb : nb ≤ 100) (h : z.1 1 4 = nI nb) : Md_isGone (nI s) how z = some ((), pm_go z s nb how) := by
  unfold Md_isGone pm_go
  simp (disch := omega) only [pj_bI, nI_add, pj_gIn, nI_clamp]
  have e : ∀ (v : Int32), (pj_sI z 1 (74 + s) v).1 1 4 = nI nb := fun v => by rw [ag_1, upd_ne (by omega)]; exact h
  have e5 : ∀ (v : Int32), (pj_sI z 1 (74 + s) v).1 1 5 = z.1 1 5 := fun v => by rw [ag_1, upd_ne (by omega)]
  simp only [e, e5]
  by_cases c : nb < 100
  · rw [if_neg (by rw [nI_P (by omega) (by decide)]; omega)]
    simp (disch := omega) only [pk_mul, nI_add, pj_gIn, nI_clamp, if_pos c]
    have e4 : ∀ (v v1 v2 v3 : Int32), (pj_sI (pj_sI (pj_sI (pj_sI z 1 (74 + s) v) 1 (300 + 3 * nb) v1) 1 (300 + 3 * nb + 1) v2) 1 (300 + 3 * nb + 2) v3).1 1 4 = nI nb := fun v v1 v2 v3 => by
      rw [ag_1, upd_ne (by omega), ag_1, upd_ne (by omega), ag_1, upd_ne (by omega)]; exact e v
    simp only [e4, nI_add]
  · rw [if_pos (by rw [nI_P (by omega) (by decide)]; omega), if_neg c]
/-- a stitch that is here goes, on both sides -/
theorem pa_F.go {W H : Nat} {b : Bool} {I : Nat → Int32} {J J2 : Nat → Int64} {w w2 : Nat → Int32} {s : Nat} (hF : pa_F W H b I J w) (hs : s < 64)
    (j6 : ∀ i, i < 64 → tb (J2 6) i = (tb (J 6) i && !decide (i = s))) (jo : ∀ k, k ≠ 6 → J2 k = J k) (e : ∀ i, rgF i → w2 i = if i = 74 + s then nI 0 else w i) : pa_F W H b I J2 w2 := by
  obtain ⟨h1, ⟨a1, a2, a3, a4, a5, a6⟩, h3, h4, h5, h6, h7, h8, h9, h10, h11⟩ := hF
  unfold rgF at e
  rw [← jo 3 (by decide)] at h3
  rw [← jo 4 (by decide), ← jo 5 (by decide)] at h4
  rw [← jo 7 (by decide)] at h6
  rw [← jo 8 (by decide)] at h7 h11
  rw [← jo 9 (by decide)] at h8 h10
  rw [← jo 4 (by decide), ← jo 5 (by decide), ← jo 7 (by decide), ← jo 8 (by decide)] at h9
  refine ⟨h1, ⟨a1, a2, a3, ?_, ?_, ?_⟩, h3, fun i hi => ?_, fun i hi => ?_, fun i hi => ?_, fun i hi => ?_, fun i hi => ?_, fun i hi g => ?_, h10, fun i hi g => ?_⟩
  · rw [e 0 (by omega), if_neg (by omega)]; exact a4
  · rw [e 1 (by omega), if_neg (by omega)]; exact a5
  · rw [e 2 (by omega), if_neg (by omega)]; exact a6
  · rw [e _ (by omega), if_neg (by omega)]; exact h4 i hi
  · rw [e _ (by omega), j6 i hi]
    by_cases c : i = s
    · subst c; simp [b2i]
    · rw [if_neg (by omega), h5 i hi]; simp [c]
  · rw [e _ (by omega), if_neg (by omega)]; exact h6 i hi
  · rw [e _ (by omega), if_neg (by omega)]; exact h7 i hi
  · rw [e _ (by omega), if_neg (by omega)]; exact h8 i hi
  · obtain ⟨g1, g2, g3, g4, g5⟩ := h9 i hi g
    exact ⟨g1, g2, by rw [j6 i hi, g3]; rfl, g4, g5⟩
  · rw [j6 i hi, h11 i hi g]; rfl
theorem pa_go {W H : Nat} {b : Bool} {hr nb nl : Nat} {pr : List pa_Ln} {n m : Nat} {zC zM : pj_S} (h : pa_A W H b hr nb nl pr n m zC zM) (hK : pa_K zC zM) (s : Nat) (hs : s < 64) (how : Int32) :
    Whole_letGo (nI s) how zC = some ((), pc_go zC s nb how) ∧ Md_isGone (nI s) how zM = some ((), pm_go zM s nb how) ∧ pa_A W H b hr (min (nb + 1) 100) nl pr n m (pc_go zC s nb how) (pm_go zM s nb how) ∧ pa_K (pc_go zC s nb how) (pm_go zM s nb how) := by
  obtain ⟨⟨hF, hH, hd, ⟨b1, b2, b3, b4⟩, hU, hL⟩, h1, h2, h3, hP⟩ := h
  refine ⟨Whole_letGo_eq zC s nb how b1 b2, Md_isGone_eq zM s nb how hs b1 b3, ?_, ?_⟩
  · have j6 : ∀ i, i < 64 → tb ((zC.2 8 6) &&& ((pj_shlL (1 : Int64) (nI s)) ^^^ (-1 : Int64))) i = (tb (zC.2 8 6) i && !decide (i = s)) := fun i hi => by
      rw [tb_and, tb_not _ _ hi, tb_bit s hs]
    unfold pc_go pm_go
    dsimp only
    by_cases c : nb < 100
    · rw [if_pos c, if_pos c, Nat.min_eq_left (by omega)]
      have ew : ∀ (v v1 v2 v3 v4 : Int32) (i : Nat), (pj_sI (pj_sI (pj_sI (pj_sI (pj_sI zM 1 (74 + s) v) 1 (300 + 3 * nb) v1) 1 (300 + 3 * nb + 1) v2) 1 (300 + 3 * nb + 2) v3) 1 4 v4).1 1 i = if i = 4 then v4 else if i = 300 + 3 * nb + 2 then v3 else if i = 300 + 3 * nb + 1 then v2 else if i = 300 + 3 * nb then v1 else if i = 74 + s then v else zM.1 1 i := fun v v1 v2 v3 v4 i => by
        simp only [ag_1, pj_upd]
      refine ⟨⟨?_, ⟨hH.1, hH.2.1, ?_⟩, ?_, ?_, ?_, ?_⟩, h1, h2, h3, hP.mono (by omega) (by omega)⟩
      · refine hF.go hs j6 (fun k hk => ?_) (fun i hi => ?_)
        · show (vp_updL (zC.2 8) 6 _) k = _; rw [pj_updL, if_neg hk]
        · unfold rgF at hi
          rw [ew, if_neg (by omega), if_neg (by omega), if_neg (by omega), if_neg (by omega)]
      · rw [ew, if_neg (by omega), if_neg (by omega), if_neg (by omega), if_neg (by omega), if_neg (by omega)]; exact hH.2.2
      · rw [ew, if_neg (by omega), if_neg (by omega), if_neg (by omega), if_neg (by omega), if_neg (by omega)]; exact hd
      · refine ⟨by omega, rfl, by rw [ew, if_pos rfl], fun i hi => ?_⟩
        have d1 : (pj_sI (pj_sI (pj_sI (pj_sI (pj_sJ zC 8 6 ((zC.2 8 6) &&& ((pj_shlL (1 : Int64) (nI s)) ^^^ (-1 : Int64)))) 31 nb (zC.1 1 4)) 32 nb (nI s)) 33 nb how) 10 3 (nI (nb + 1))).1 31 i = upd (zC.1 31) nb (zC.1 1 4) i := rfl
        have d2 : (pj_sI (pj_sI (pj_sI (pj_sI (pj_sJ zC 8 6 ((zC.2 8 6) &&& ((pj_shlL (1 : Int64) (nI s)) ^^^ (-1 : Int64)))) 31 nb (zC.1 1 4)) 32 nb (nI s)) 33 nb how) 10 3 (nI (nb + 1))).1 32 i = upd (zC.1 32) nb (nI s) i := rfl
        have d3 : (pj_sI (pj_sI (pj_sI (pj_sI (pj_sJ zC 8 6 ((zC.2 8 6) &&& ((pj_shlL (1 : Int64) (nI s)) ^^^ (-1 : Int64)))) 31 nb (zC.1 1 4)) 32 nb (nI s)) 33 nb how) 10 3 (nI (nb + 1))).1 33 i = upd (zC.1 33) nb how i := rfl
        rw [d1, d2, d3, ew, ew, ew]
        by_cases ci : i = nb
        · subst ci
          rw [upd_s, upd_s, upd_s, if_neg (by omega), if_neg (by omega), if_neg (by omega), if_pos rfl, if_neg (by omega), if_neg (by omega), if_pos (by omega), if_neg (by omega), if_pos (by omega)]
          exact ⟨hH.2.1.trans hH.2.2.symm, rfl, rfl⟩
        · rw [upd_ne ci, upd_ne ci, upd_ne ci, if_neg (by omega), if_neg (by omega), if_neg (by omega), if_neg (by omega), if_neg (by omega), if_neg (by omega), if_neg (by omega), if_neg (by omega), if_neg (by omega), if_neg (by omega), if_neg (by omega), if_neg (by omega), if_neg (by omega), if_neg (by omega), if_neg (by omega)]
          exact b4 i (by omega)
      · refine hU.w (fun i hi => ?_)
        rw [ew, if_neg (by omega), if_neg (by omega), if_neg (by omega), if_neg (by omega), if_neg (by omega)]
      · refine hL.w (fun i i1 i2 => ?_)
        rw [ew, if_neg (by omega), if_neg (by omega), if_neg (by omega), if_neg (by omega), if_neg (by omega)]
    · rw [if_neg c, if_neg c]
      have cb : min (nb + 1) 100 = nb := by omega
      rw [cb]
      have ew : ∀ i, (pj_sI zM 1 (74 + s) (nI 0)).1 1 i = if i = 74 + s then nI 0 else zM.1 1 i := fun i => by rw [ag_1, pj_upd]
      refine ⟨⟨?_, ⟨hH.1, hH.2.1, ?_⟩, ?_, ?_, ?_, ?_⟩, h1, h2, h3, hP⟩
      · refine hF.go hs j6 (fun k hk => ?_) (fun i hi => ew i)
        show (vp_updL (zC.2 8) 6 _) k = _; rw [pj_updL, if_neg hk]
      · rw [ew, if_neg (by omega)]; exact hH.2.2
      · rw [ew, if_neg (by omega)]; exact hd
      · exact pa_B.w ⟨b1, b2, b3, b4⟩ (fun i hi => by rw [ew, if_neg (by omega)])
      · exact hU.w (fun i hi => by rw [ew, if_neg (by omega)])
      · exact hL.w (fun i i1 i2 => by rw [ew, if_neg (by omega)])
  · unfold pc_go pm_go
    dsimp only
    by_cases c : nb < 100
    · rw [if_pos c, if_pos c]; exact hK
    · rw [if_neg c, if_neg c]; exact hK
theorem ok_gone (a : Int32) : pj_ok pa_I (PJ_gone a) (Md_gone a) := by
  intro zC zM h
  obtain ⟨⟨W, H, b, hr, nb, nl, pr, n, m, hA⟩, hK⟩ := id h
  obtain ⟨⟨hF, hH, hd, hB, hU, hL⟩, h1, h2, h3, hP⟩ := id hA
  unfold PJ_gone Md_gone
  rw [Fabric_isHere_eq hF, pj_cS, Md_isStitch_eq hF.2.1.2.2.2.1 hF.2.1.2.2.2.2.1 ⟨hF.1.2.1, hF.1.2.2.2⟩, pj_cS, ib0, ib0]
  cases hs : stI W H a
  · rw [if_neg (by simp), if_neg (by simp)]
    exact ⟨_, _, _, rfl, rfl, h⟩
  · obtain ⟨k, hk, rfl, hst⟩ := stI_t hs
    rw [if_pos rfl, nI_add, pj_gIn (by omega) (by decide), nI_clamp (by omega), nI_clamp (by omega), hF.2.2.2.2.1 k hk, ib0, Bool.true_and]
    cases ht : tb (zC.2 8 6) k
    · rw [if_neg (by simp), if_neg (by simp)]
      exact ⟨_, _, _, rfl, rfl, h⟩
    · rw [if_pos rfl, if_pos rfl]
      obtain ⟨zM2, e1, e2, hA2, hK2, -⟩ := pa_keep hA hK
      obtain ⟨e3, e4, hA3, hK3⟩ := pa_go hA2 hK2 k hk (nI 0)
      rw [e1, e2, pj_cS, pj_cS, e3, e4]
      exact ⟨_, _, _, rfl, rfl, pa_I.of hA3 hK3⟩
