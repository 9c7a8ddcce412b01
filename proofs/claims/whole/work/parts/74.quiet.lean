/-! quiet -/
/-- nothing of the model differs but the pile and the facts -/
def pmO (z z2 : pj_S) : Prop := ∀ c, c ≠ 7 → c ≠ 8 → z2.1 c = z.1 c
theorem pm_lay.o {W : Nat} {kd : Nat → Nat} {he ca : Nat → Bool} {z z2 : pj_S} (h : pm_lay W kd he ca z) (o : pmO z z2) : pm_lay W kd he ca z2 := by
  unfold pm_lay
  rw [o 9 (by decide) (by decide), o 10 (by decide) (by decide), o 11 (by decide) (by decide)]
  exact h
section QUIET
variable {W H : Nat} {b : Bool} {hr nb nl : Nat} {pr : List pa_Ln} {n m : Nat} {zC zM : pj_S}
def lo (W H : Nat) (b : Bool) (zC : pj_S) (t : Nat) : Bool := tb (zC.2 8 6) t && !hl W H b (kdb (tb (zC.2 8 4)) (tb (zC.2 8 5))) (tb (zC.2 8 7)) (tb (zC.2 8 6)) t
theorem lo_48 {w : Nat → Int32} (hF : pa_F W H b (zC.1 8) (zC.2 8) w) {t : Nat} (h : lo W H b zC t = true) : t < 48 := by
  unfold lo at h
  simp only [Bool.and_eq_true] at h
  exact stit_48 hF.1.2.2.2 (hF.here t h.1)
theorem Md_loose_at (h : pa_A W H b hr nb nl pr n m zC zM) {z5 : pj_S} (e9 : ∀ c, c < 7 → z5.1 c = zM.1 c) (L : pm_lay W (kdb (tb (zC.2 8 4)) (tb (zC.2 8 5))) (tb (zC.2 8 6)) (tb (zC.2 8 7)) z5) (t : Nat) (ht : t < 64) :
    Md_isLoose (nI t) z5 = some (b2i (lo W H b zC t), z5) := by
  obtain ⟨⟨hF, -⟩, -⟩ := id h
  obtain ⟨g1, ⟨g2, g3, g4, g5, g6, g7⟩, -⟩ := id hF
  exact Md_isLoose_eq (b := b) (by rw [e9 1 (by decide)]; exact g6) (by rw [e9 1 (by decide)]; exact g7) g1.2.2 L t ht
theorem quiet_tail (h : pa_A W H b hr nb nl pr n m zC zM) {z5 : pj_S} (e9 : ∀ c, c < 7 → z5.1 c = zM.1 c) (L : pm_lay W (kdb (tb (zC.2 8 4)) (tb (zC.2 8 5))) (tb (zC.2 8 6)) (tb (zC.2 8 7)) z5) (v : Int32) :
    ∀ d k nM, 48 ≤ k → k + d = 64 → d < nM → pj_lp2 Md_quiet_14 nM v (nI k) z5 = some (v, z5)
  | 0, k, nM, h48, hk, hn => by
    obtain ⟨q, rfl⟩ : ∃ q, nM = q + 1 := ⟨nM - 1, by omega⟩
    rw [pj_lp2_s]
    unfold Md_quiet_14
    rw [if_pos (nI_le (by omega) (by omega))]
  | d + 1, k, nM, h48, hk, hn => by
    obtain ⟨q, rfl⟩ : ∃ q, nM = q + 1 := ⟨nM - 1, by omega⟩
    rw [pj_lp2_s]
    unfold Md_quiet_14 Md_quiet_44
    have : lo W H b zC k = false := by
      cases e : lo W H b zC k
      · rfl
      · have := lo_48 h.1.1 e; omega
    rw [if_neg (by rw [nI_leP (by decide) (by omega)]; omega), Md_loose_at h e9 L k (by omega), pj_cS, this, ib0, if_neg Bool.false_ne_true, nI_add, pj_bI]
    exact quiet_tail h e9 L v d (k + 1) q (by omega) (by omega) (by omega)
theorem quiet_run {rr : Int64} (hrr : ∀ t, t < 64 → tb rr t = lo W H b zC t) : ∀ d k nC nM (v : Int32) zc zm, k + d = 48 → d < nC → d + 16 < nM → pa_A W H b hr nb nl pr n m zc zM → pcO zC zc → (∀ c, c < 7 → zm.1 c = zM.1 c) →
    pm_lay W (kdb (tb (zC.2 8 4)) (tb (zC.2 8 5))) (tb (zC.2 8 6)) (tb (zC.2 8 7)) zm →
    ∃ r zc2 zm2, pj_lp3 Whole_likelyQuiet_14 nC rr v (nI k) zc = some (r, zc2) ∧ pj_lp2 Md_quiet_14 nM v (nI k) zm = some (r, zm2) ∧ pcO zC zc2 ∧ (∀ c, c < 7 → zm2.1 c = zM.1 c)
  | 0, k, nC, nM, v, zc, zm, hk, hC, hM, h, oc, om, L => by
    obtain ⟨q, rfl⟩ : ∃ q, nC = q + 1 := ⟨nC - 1, by omega⟩
    have ez : zc.2 = zC.2 := oc.2.1
    refine ⟨v, zc, zm, ?_, quiet_tail h om (by rw [ez]; exact L) v 16 k nM (by omega) (by omega) (by omega), oc, om⟩
    rw [pj_lp3_s]
    unfold Whole_likelyQuiet_14
    rw [if_pos (nI_le (by omega) (by omega))]
  | d + 1, k, nC, nM, v, zc, zm, hk, hC, hM, h, oc, om, L => by
    obtain ⟨q, rfl⟩ : ∃ q, nC = q + 1 := ⟨nC - 1, by omega⟩
    obtain ⟨p, rfl⟩ : ∃ p, nM = p + 1 := ⟨nM - 1, by omega⟩
    have ez : zc.2 = zC.2 := oc.2.1
    have el : lo W H b zc k = lo W H b zC k := by unfold lo; rw [ez]
    have L2 := L
    rw [← ez] at L2
    rw [pj_lp3_s, pj_lp2_s]
    unfold Whole_likelyQuiet_14 Md_quiet_14 Md_quiet_44 Whole_likelyQuiet_59
    rw [if_neg (by rw [nI_leP (by decide) (by omega)]; omega), if_neg (by rw [nI_leP (by decide) (by omega)]; omega), Md_loose_at h om L2 k (by omega), pj_cS, PJ_bitOf_eq _ k (by omega), pj_cS, hrr k (by omega), ib0, ib1, el]
    have i1 : nI k + nI 1 = nI (k + 1) := by rw [nI_add]
    cases lo W H b zC k
    · rw [if_neg Bool.false_ne_true, if_neg Bool.false_ne_true, i1, pj_bI, pj_bI]
      exact quiet_run hrr d (k + 1) q p v zc zm (by omega) (by omega) (by omega) h oc om L
    · obtain ⟨o, ho, ⟨zC2, ec, oc2⟩, zM2, em, om2⟩ := odds_both (h.cm (pcO.rf zc) om) k (by omega)
      rw [if_pos rfl, if_pos rfl, ec, em, pj_cS, pj_cS, pj_gNz (n := 1000) (by decide) (by decide), pj_gNz (n := 1000) (by decide) (by decide), pj_bI, pj_bI, i1, pj_bI, pj_bI]
      exact quiet_run hrr d (k + 1) q p _ zC2 zM2 (by omega) (by omega) (by omega) (h.cm oc2 (fun _ _ => rfl)) (oc.tr oc2) (fun c hc => by rw [om2 c (by omega) (by omega), om c hc]) (L.o om2)
end QUIET
theorem ok_quiet : pj_ok pa_I PJ_quiet Md_quiet := by
  intro zC zM h
  obtain ⟨⟨W, H, b, hr, nb, nl, pr, n, m, hA⟩, hK⟩ := id h
  obtain ⟨z1, z2, y1, v1, e9, L2⟩ := lay_both hA
  obtain ⟨r, e, er⟩ := Fabric_loose_eq hA.1.1
  unfold PJ_quiet Md_quiet Whole_likelyQuiet
  obtain ⟨x, zc2, zm2, f1, f2, f3, f4⟩ := quiet_run (W := W) (H := H) (b := b) (rr := r) er 48 0 4000 4000 (nI 1000000) zC z2 rfl (by decide) (by decide) hA (pcO.rf zC) (fun c hc => e9 c (by omega)) L2
  rw [e, pj_cS, f1, pj_cS, y1, pj_cS, v1, pj_cS, f2]
  exact ⟨_, _, _, rfl, rfl, pa_I.of (hA.cm f3 f4) (hK.cm f3 f4)⟩
