/-! an hour passes -/
section HOURS
variable {W H : Nat} {b : Bool} {hr nb nl : Nat} {pr : List pa_Ln} {n m : Nat} {zC zM : pj_S}
theorem pa_A.w1 (h : pa_A W H b hr nb nl pr n m zC zM) {j v : _} (hj : j = 5 ∨ j = 6) (w : Nat → Int32) (ew : w = upd (zM.1 1) j v) (i4 i5 : Int32) (hr2 : Nat) (h9 : hr2 ≤ 9999 ∧ i4 = nI hr2 ∧ w 5 = nI hr2) (h6 : i5 = w 6) :
    pa_W W H b hr2 nb nl pr i4 i5 (zC.1 8) (zC.2 8) (zC.1 9 2) (zC.1 9 3) (zC.1 29) (zC.1 10 3) (zC.1 31) (zC.1 32) (zC.1 33) (zC.1 11 1) (zC.1 34) w := by
  obtain ⟨⟨hF, hH, hd, hB, hU, hL⟩, -⟩ := h
  have e : ∀ i, i ≠ 5 → i ≠ 6 → w i = zM.1 1 i := fun i a b => by rw [ew, upd_ne (by omega)]
  refine ⟨hF.w (fun i hi => e i ?_ ?_), h9, h6, hB.w (fun i hi => e i (by omega) (by omega)), hU.w (fun i hi => e i (by omega) (by omega)), hL.w (fun i i1 i2 => e i (by omega) (by omega))⟩
  · unfold rgF at hi; omega
  · unfold rgF at hi; omega
theorem pa_A.draw (h : pa_A W H b hr nb nl pr n m zC zM) (d : Int32) : pa_A W H b hr nb nl pr n m (pj_sI zC 1 5 d) (pj_sI zM 1 6 d) := by
  obtain ⟨-, h1, h2, h3, hP⟩ := id h
  exact ⟨h.w1 (j := 6) (v := d) (Or.inr rfl) _ rfl _ _ hr ⟨h.1.2.1.1, h.1.2.1.2.1, h.1.2.1.2.2⟩ rfl, h1, h2, h3, hP⟩
theorem pa_A.hour (h : pa_A W H b hr nb nl pr n m zC zM) (hr9 : hr + 1 ≤ 9999) : pa_A W H b (hr + 1) nb nl pr n m (pj_sI zC 1 4 (nI (hr + 1))) (pj_sI zM 1 5 (nI (hr + 1))) := by
  obtain ⟨-, h1, h2, h3, hP⟩ := id h
  exact ⟨h.w1 (j := 5) (v := nI (hr + 1)) (Or.inl rfl) _ rfl _ _ (hr + 1) ⟨hr9, rfl, rfl⟩ h.1.2.2.1, h1, h2, h3, hP⟩
theorem pa_K.draw (h : pa_K zC zM) (d : Int32) : pa_K (pj_sI zC 1 5 d) (pj_sI zM 1 6 d) := h
theorem pa_K.hour (h : pa_K zC zM) (d : Int32) : pa_K (pj_sI zC 1 4 d) (pj_sI zM 1 5 d) := h
def nxd (d : Int32) : Int32 := (nI 1664525) * d + (nI 1013904223)
theorem Whole_draw_eq (z : pj_S) : Whole_draw (nI 1000) z = some (pj_rem (pj_ushr (nxd (z.1 1 5)) (nI 8)) (nI 1000), pj_sI z 1 5 (nxd (z.1 1 5))) := by
  unfold Whole_draw
  rw [pj_bI, if_neg (by decide), pj_gNz (n := 1000) (by decide) (by decide)]; rfl
theorem Md_draw_eq (z : pj_S) : Md_draw (nI 1000) z = some (pj_rem (pj_ushr (nxd (z.1 1 6)) (nI 8)) (nI 1000), pj_sI z 1 6 (nxd (z.1 1 6))) := by
  unfold Md_draw
  rw [pj_gIn (n := 6) (by decide) (by decide), pj_gIn (n := 6) (by decide) (by decide), nI_clamp (n := 6) (by decide), pj_bI, pj_gIn (n := 6) (by decide) (by decide), pj_gNz (n := 1000) (by decide) (by decide)]; rfl
/-- the choice: which go -/
theorem hour_pick {rr : Int64} {g : Nat → Int64} (hrr : ∀ t, t < 64 → tb rr t = lo W H b zC t) (hg : g = zC.2 8) : ∀ d k nC nM (x : Int64) zc zm, k + d = 64 → 64 < nC + k → d < nM → pa_A W H b hr nb nl pr n m zc zm → pa_K zc zm → zc.2 8 = g →
    pm_lay W (kdb (tb (g 4)) (tb (g 5))) (tb (g 6)) (tb (g 7)) zm → (∀ t, t < 64 → k ≤ t → tb x t = false) → (∀ t, t < k → zm.1 13 t = b2i (tb x t)) → (∀ t, 48 ≤ t → t < 64 → tb x t = false) →
    ∃ x2 zc2 zm2, (k ≤ 48 → pj_lp3 Whole_passHour_13 nC rr x (nI k) zc = Whole_passHour_79 x2 zc2) ∧ (48 < k → x2 = x ∧ zc2 = zc) ∧ pj_lp1 Md_anHour_10 nM (nI k) zm = Md_anHour_66 zm2 ∧ pa_A W H b hr nb nl pr n m zc2 zm2 ∧ pa_K zc2 zm2 ∧ (∀ t, t < 64 → zm2.1 13 t = b2i (tb x2 t)) ∧ (∀ t, 48 ≤ t → t < 64 → tb x2 t = false)
  | 0, k, nC, nM, x, zc, zm, hk, hC, hM, h, hK, ez, L, x0, x1, x2 => by
    obtain ⟨p, rfl⟩ : ∃ p, nM = p + 1 := ⟨nM - 1, by omega⟩
    refine ⟨x, zc, zm, fun c => absurd c (by omega), fun _ => ⟨rfl, rfl⟩, ?_, h, hK, fun t ht => x1 t (by omega), x2⟩
    rw [pj_lp1_s]
    unfold Md_anHour_10
    rw [if_pos (nI_le (by omega) (by omega))]
  | d + 1, k, nC, nM, x, zc, zm, hk, hC, hM, h, hK, ez, L, x0, x1, x2 => by
    obtain ⟨p, rfl⟩ : ∃ p, nM = p + 1 := ⟨nM - 1, by omega⟩
    have i1 : nI k + nI 1 = nI (k + 1) := by rw [nI_add]
    have el : lo W H b zc k = lo W H b zC k := by unfold lo; rw [ez, hg]
    have Lz : pm_lay W (kdb (tb (zc.2 8 4)) (tb (zc.2 8 5))) (tb (zc.2 8 6)) (tb (zc.2 8 7)) zm := by rw [ez]; exact L
    have ml := Md_loose_at h (fun _ _ => rfl) Lz k (by omega)
    rw [el] at ml
    -- the model writes a 0
    have wr : ∀ (zm' : pj_S) (v : Bool), Md_anHour_59 (pj_lp1 Md_anHour_10 p) (nI k) (b2i v) (nI k) zm' = pj_lp1 Md_anHour_10 p (nI (k + 1)) (pj_sI zm' 13 k (b2i v)) := fun zm' v => by
      unfold Md_anHour_59
      rw [pj_gIn (n := k) (by omega) (by decide), nI_clamp (n := k) (by omega), pj_bI, i1, pj_bI]
    have A13 : ∀ (zc' zm' : pj_S) (v : Int32), pa_A W H b hr nb nl pr n m zc' zm' → pa_A W H b hr nb nl pr n m zc' (pj_sI zm' 13 k v) := fun zc' zm' v q => q.cm (pcO.rf _) (fun c hc => ag_n _ _ _ _ (by omega))
    have K13 : ∀ (zc' zm' : pj_S) (v : Int32), pa_K zc' zm' → pa_K zc' (pj_sI zm' 13 k v) := fun zc' zm' v q => q.cm (pcO.rf _) (fun c hc => ag_n _ _ _ _ (by omega))
    have r13 : ∀ (zm' : pj_S) (y : Int64), zm'.1 13 = zm.1 13 → (∀ t, t < k → tb y t = tb x t) → ∀ t, t < k + 1 → (pj_sI zm' 13 k (b2i (tb y k))).1 13 t = b2i (tb y t) := fun zm' y e ey t ht => by
      rw [ag_1]
      by_cases c : t = k
      · subst c; rw [upd_s]
      · rw [upd_ne c, e, ey t (by omega)]; exact x1 t (by omega)
    have lay13 : ∀ (zm' : pj_S) (v : Int32), pm_lay W (kdb (tb (g 4)) (tb (g 5))) (tb (g 6)) (tb (g 7)) zm' → pm_lay W (kdb (tb (g 4)) (tb (g 5))) (tb (g 6)) (tb (g 7)) (pj_sI zm' 13 k v) := fun zm' v q => q
    rw [pj_lp1_s]
    by_cases c48 : 48 ≤ k
    · -- behind the cloth
      have lf : lo W H b zC k = false := by
        cases e : lo W H b zC k
        · rfl
        · rw [← el] at e; have := lo_48 h.1.1 e; omega
      rw [lf] at ml
      have em : Md_anHour_10 (pj_lp1 Md_anHour_10 p) (nI k) zm = pj_lp1 Md_anHour_10 p (nI (k + 1)) (pj_sI zm 13 k (b2i (tb x k))) := by
        unfold Md_anHour_10 Md_anHour_33 Md_anHour_58
        rw [if_neg (by rw [nI_leP (by decide) (by omega)]; omega), ml, pj_cS, ib0, if_neg Bool.false_ne_true, if_pos (by decide), x0 k (by omega) (Nat.le_refl _)]
        exact wr zm false
      obtain ⟨y, zc2, zm2, f1, f2, f3, f4⟩ := hour_pick hrr hg d (k + 1) nC p x zc _ (by omega) (by omega) (by omega) (A13 zc zm (b2i (tb x k)) h) (K13 zc zm _ hK) ez (lay13 zm _ L) (fun t t1 t2 => x0 t t1 (by omega)) (r13 zm x rfl (fun _ _ => rfl)) x2
      obtain ⟨rfl, rfl⟩ := f2 (by omega)
      refine ⟨y, zc2, zm2, fun c => ?_, fun _ => ⟨rfl, rfl⟩, by rw [em]; exact f3, f4⟩
      have : k = 48 := by omega
      subst this
      obtain ⟨q, rfl⟩ : ∃ q, nC = q + 1 := ⟨nC - 1, by omega⟩
      rw [pj_lp3_s]
      unfold Whole_passHour_13
      rw [if_pos (nI_le (by omega) (by omega))]
    · obtain ⟨q, rfl⟩ : ∃ q, nC = q + 1 := ⟨nC - 1, by omega⟩
      -- one step of both
      have st : ∃ (y : Int64) (zc' zm' : pj_S), Whole_passHour_13 (pj_lp3 Whole_passHour_13 q) rr x (nI k) zc = pj_lp3 Whole_passHour_13 q rr y (nI (k + 1)) zc' ∧ Md_anHour_10 (pj_lp1 Md_anHour_10 p) (nI k) zm = pj_lp1 Md_anHour_10 p (nI (k + 1)) (pj_sI zm' 13 k (b2i (tb y k))) ∧
          pa_A W H b hr nb nl pr n m zc' zm' ∧ pa_K zc' zm' ∧ zc'.2 8 = g ∧ pm_lay W (kdb (tb (g 4)) (tb (g 5))) (tb (g 6)) (tb (g 7)) zm' ∧ zm'.1 13 = zm.1 13 ∧ (∀ t, t < 64 → t ≠ k → tb y t = tb x t) := by
        unfold Whole_passHour_13 Md_anHour_10 Whole_passHour_73
        rw [if_neg (by rw [nI_leP (by decide) (by omega)]; omega), if_neg (by rw [nI_leP (by decide) (by omega)]; omega), ml, pj_cS, PJ_bitOf_eq _ k (by omega), pj_cS, hrr k (by omega), ib0, ib1]
        cases lo W H b zC k
        · rw [if_neg Bool.false_ne_true, if_neg Bool.false_ne_true, i1, pj_bI]
          unfold Md_anHour_33 Md_anHour_58
          rw [if_pos (by decide)]
          refine ⟨x, zc, zm, rfl, ?_, h, hK, ez, L, rfl, fun _ _ _ => rfl⟩
          rw [x0 k (by omega) (Nat.le_refl _)]
          exact wr zm false
        · obtain ⟨o, ho, ⟨zC2, ec, oc⟩, zM2, emm, om⟩ := odds_both h k (by omega)
          have h' := h.cm (zM2 := zM2) oc (fun c hc => om c (by omega) (by omega))
          have hK' := hK.cm (zM2 := zM2) oc (fun c hc => om c (by omega) (by omega))
          have L' := L.o om
          have ez' : zC2.2 8 = g := by rw [oc.2.1]; exact ez
          rw [if_pos rfl, if_pos rfl, ec, emm, pj_cS, pj_cS]
          unfold Md_anHour_33 Md_anHour_58
          by_cases o0 : nI o ≤ 0
          · rw [if_pos o0, if_pos o0, i1, pj_bI]
            refine ⟨x, zC2, zM2, rfl, ?_, h', hK', ez', L.o om, om 13 (by decide) (by decide), fun _ _ _ => rfl⟩
            rw [x0 k (by omega) (Nat.le_refl _)]
            exact wr zM2 false
          · rw [if_neg o0, if_neg o0, Whole_draw_eq, Md_draw_eq, pj_cS, pj_cS]
            have dd : zM2.1 1 6 = zC2.1 1 5 := h'.1.2.2.1.symm
            rw [dd]
            by_cases cd : nI o ≤ pj_rem (pj_ushr (nxd (zC2.1 1 5)) (nI 8)) (nI 1000)
            · rw [if_pos cd, if_pos cd, i1, pj_bI]
              refine ⟨x, _, pj_sI zM2 1 6 (nxd (zC2.1 1 5)), rfl, ?_, h'.draw _, hK'.draw _, ez', L', om 13 (by decide) (by decide), fun _ _ _ => rfl⟩
              rw [x0 k (by omega) (Nat.le_refl _)]
              exact wr _ false
            · rw [if_neg cd, if_neg cd, i1, pj_bI, pj_bI]
              have ty : ∀ t, tb (x ||| pj_shlL (1 : Int64) (nI k)) t = (tb x t || decide (t = k)) := fun t => by rw [tb_or, tb_bit k (by omega)]
              refine ⟨x ||| pj_shlL (1 : Int64) (nI k), _, pj_sI zM2 1 6 (nxd (zC2.1 1 5)), rfl, ?_, h'.draw _, hK'.draw _, ez', L', om 13 (by decide) (by decide), fun t _ tk => by rw [ty, decide_eq_false tk, Bool.or_false]⟩
              rw [ty, decide_eq_true rfl, Bool.or_true]
              exact wr _ true
      obtain ⟨y, zc', zm', s1, s2, s3, s4, s5, s6, s7, s8⟩ := st
      obtain ⟨y2, zc2, zm2, f1, f2, f3, f4⟩ := hour_pick hrr hg d (k + 1) q p y zc' _ (by omega) (by omega) (by omega) (A13 zc' zm' (b2i (tb y k)) s3) (K13 zc' zm' _ s4) s5 (lay13 zm' _ s6) (fun t t1 t2 => by rw [s8 t t1 (by omega)]; exact x0 t t1 (by omega)) (r13 zm' y s7 (fun t ht => s8 t (by omega) (by omega))) (fun t t1 t2 => by rw [s8 t t2 (by omega)]; exact x2 t t1 t2)
      refine ⟨y2, zc2, zm2, fun _ => ?_, fun c => absurd c (by omega), by rw [s2]; exact f3, f4⟩
      rw [pj_lp3_s, s1]
      exact f1 (by omega)
/-- they go -/
theorem hour_go {x : Int64} (hx : ∀ t, 48 ≤ t → t < 64 → tb x t = false) : ∀ d k nC nM nb zc zm, k + d = 64 → 64 < nC + k → d < nM → pa_A W H b hr nb nl pr n m zc zm → pa_K zc zm → (∀ t, t < 64 → zm.1 13 t = b2i (tb x t)) →
    ∃ nb2 zc2 zm2, (k ≤ 48 → pj_lp2 Whole_passHour_82 nC x (nI k) zc = Whole_passHour_112 x zc2) ∧ (48 < k → zc2 = zc) ∧ pj_lp2 Md_anHour_70 nM (nI (cnt (tb x) k)) (nI k) zm = Md_anHour_103 (nI (cnt (tb x) 64)) zm2 ∧ pa_A W H b hr nb2 nl pr n m zc2 zm2 ∧ pa_K zc2 zm2
  | 0, k, nC, nM, nb, zc, zm, hk, hC, hM, h, hK, x1 => by
    obtain ⟨p, rfl⟩ : ∃ p, nM = p + 1 := ⟨nM - 1, by omega⟩
    have : k = 64 := by omega
    subst this
    refine ⟨nb, zc, zm, fun c => absurd c (by omega), fun _ => rfl, ?_, h, hK⟩
    rw [pj_lp2_s]
    unfold Md_anHour_70
    rw [if_pos (nI_le (by omega) (by omega))]
  | d + 1, k, nC, nM, nb, zc, zm, hk, hC, hM, h, hK, x1 => by
    obtain ⟨p, rfl⟩ : ∃ p, nM = p + 1 := ⟨nM - 1, by omega⟩
    have i1 : nI k + nI 1 = nI (k + 1) := by rw [nI_add]
    have cs : cnt (tb x) (k + 1) = cnt (tb x) k + (tb x k).toNat := rfl
    have em : Md_anHour_70 (pj_lp2 Md_anHour_70 p) (nI (cnt (tb x) k)) (nI k) zm = (if tb x k then pj_c (Md_isGone (nI k) (nI 1) zm) (fun _ z2 => pj_lp2 Md_anHour_70 p (nI (cnt (tb x) (k + 1))) (nI (k + 1)) z2) else pj_lp2 Md_anHour_70 p (nI (cnt (tb x) (k + 1))) (nI (k + 1)) zm) := by
      unfold Md_anHour_70 Md_anHour_97
      have i2 : nI (cnt (tb x) k) + nI 1 = nI (cnt (tb x) k + 1) := by rw [nI_add]
      rw [if_neg (by rw [nI_leP (by decide) (by omega)]; omega), pj_gIn (n := k) (by omega) (by decide), nI_clamp (n := k) (by omega), x1 k (by omega), ib0, i1, i2, cs]
      cases tb x k
      · rw [if_neg Bool.false_ne_true, if_neg Bool.false_ne_true]; rfl
      · rw [if_pos rfl, if_pos rfl]; rfl
    rw [pj_lp2_s, em]
    by_cases c48 : 48 ≤ k
    · rw [if_neg (by rw [hx k c48 (by omega)]; exact Bool.false_ne_true)]
      obtain ⟨nb2, zc2, zm2, f1, f2, f3, f4⟩ := hour_go hx d (k + 1) nC p nb zc zm (by omega) (by omega) (by omega) h hK x1
      have := f2 (by omega)
      subst this
      refine ⟨nb2, zc2, zm2, fun c => ?_, fun _ => rfl, f3, f4⟩
      have : k = 48 := by omega
      subst this
      obtain ⟨q, rfl⟩ : ∃ q, nC = q + 1 := ⟨nC - 1, by omega⟩
      rw [pj_lp2_s]
      unfold Whole_passHour_82
      rw [if_pos (nI_le (by omega) (by omega))]
    · obtain ⟨q, rfl⟩ : ∃ q, nC = q + 1 := ⟨nC - 1, by omega⟩
      have ec : pj_lp2 Whole_passHour_82 (q + 1) x (nI k) zc = (if tb x k then pj_c (Whole_letGo (nI k) (nI 1) zc) (fun _ z2 => pj_lp2 Whole_passHour_82 q x (nI (k + 1)) z2) else pj_lp2 Whole_passHour_82 q x (nI (k + 1)) zc) := by
        rw [pj_lp2_s]
        unfold Whole_passHour_82 Whole_passHour_106
        rw [if_neg (by rw [nI_leP (by decide) (by omega)]; omega), PJ_bitOf_eq _ k (by omega), pj_cS, ib1, i1]
        rfl
      cases xk : tb x k
      · rw [xk] at ec
        rw [if_neg Bool.false_ne_true] at ec ⊢
        obtain ⟨nb2, zc2, zm2, f1, f2, f3, f4⟩ := hour_go hx d (k + 1) q p nb zc zm (by omega) (by omega) (by omega) h hK x1
        exact ⟨nb2, zc2, zm2, fun _ => by rw [ec]; exact f1 (by omega), fun c => absurd c (by omega), f3, f4⟩
      · rw [xk] at ec
        rw [if_pos rfl] at ec ⊢
        obtain ⟨g1, g2, g3, g4⟩ := pa_go h hK k (by omega) (nI 1)
        have k13 : (pm_go zm k nb (nI 1)).1 13 = zm.1 13 := by
          unfold pm_go
          dsimp only
          split <;> rfl
        obtain ⟨nb2, zc2, zm2, f1, f2, f3, f4⟩ := hour_go hx d (k + 1) q p _ _ _ (by omega) (by omega) (by omega) g3 g4 (by rw [k13]; exact x1)
        exact ⟨nb2, zc2, zm2, fun _ => by rw [ec, g1, pj_cS]; exact f1 (by omega), fun c => absurd c (by omega), by rw [g2, pj_cS]; exact f3, f4⟩
theorem hour_both (h : pa_A W H b hr nb nl pr n m zC zM) (hK : pa_K zC zM) (hr9 : hr + 1 ≤ 9999) :
    ∃ r nb2 zc2 zm2, Whole_passHour zC = some (r, zc2) ∧ Md_anHour zM = some (r, zm2) ∧ pa_A W H b (hr + 1) nb2 nl pr n m zc2 zm2 ∧ pa_K zc2 zm2 := by
  obtain ⟨z1, z2, y1, v1, e9, L2⟩ := lay_both h
  obtain ⟨r, e, er⟩ := Fabric_loose_eq h.1.1
  obtain ⟨x, zc, zm, f1, -, f3, f4, f5, f6, f7⟩ := hour_pick (W := W) (H := H) (b := b) (zC := zC) (rr := r) (g := zC.2 8) er rfl 64 0 4000 4000 0 zC z2 rfl (by decide) (by decide) (h.cm (pcO.rf _) (fun c hc => e9 c (by omega))) (hK.cm (pcO.rf _) (fun c hc => e9 c (by omega))) rfl L2 (fun t _ _ => tb_0 t) (fun t ht => absurd ht (by omega)) (fun t _ _ => tb_0 t)
  obtain ⟨nb2, zc2, zm2, k1, -, k3, k4, k5⟩ := hour_go f7 64 0 4000 4000 nb zc zm rfl (by decide) (by decide) f4 f5 f6
  have k3 : pj_lp2 Md_anHour_70 4000 (nI 0) (nI 0) zm = _ := k3
  refine ⟨nI (cnt (tb x) 64), nb2, _, _, ?_, ?_, k4.hour hr9, k5.hour _⟩
  · unfold Whole_passHour
    rw [e, pj_cS, f1 (by decide)]
    unfold Whole_passHour_79
    rw [k1 (by decide)]
    unfold Whole_passHour_112
    rw [k4.1.2.1.2.1, nI_add, pj_bI, JLong_bitCount_eq, pj_cS]
  · unfold Md_anHour
    rw [y1, pj_cS, v1, pj_cS, f3]
    unfold Md_anHour_66
    rw [k3]
    unfold Md_anHour_103
    rw [pj_gIn (n := 5) (by decide) (by decide), pj_gIn (n := 5) (by decide) (by decide), nI_clamp (n := 5) (by decide), k4.1.2.1.2.2, nI_add, pj_bI]
end HOURS
theorem hours_run {W H : Nat} {b : Bool} {nl : Nat} {pr : List pa_Ln} (a : Nat) (ha : a ≤ 100) : ∀ d k nC nM (v : Int32) hr nb n m zC zM, k + d = a → d < nC → d < nM → hr + d ≤ 9999 → pa_A W H b hr nb nl pr n m zC zM → pa_K zC zM →
    ∃ r zc2 zm2, pj_lp3 PJ_hours_32 nC (nI a) v (nI k) zC = some (r, zc2) ∧ pj_lp3 Md_hours_30 nM (nI a) v (nI k) zM = some (r, zm2) ∧ pa_I zc2 zm2
  | 0, k, nC, nM, v, hr, nb, n, m, zC, zM, hk, hC, hM, h9, h, hK => by
    obtain ⟨q, rfl⟩ : ∃ q, nC = q + 1 := ⟨nC - 1, by omega⟩
    obtain ⟨p, rfl⟩ : ∃ p, nM = p + 1 := ⟨nM - 1, by omega⟩
    refine ⟨v, zC, zM, ?_, ?_, pa_I.of h hK⟩
    · rw [pj_lp3_s]
      unfold PJ_hours_32
      rw [if_pos (nI_le (by omega) (by omega))]
    · rw [pj_lp3_s]
      unfold Md_hours_30
      rw [if_pos (nI_le (by omega) (by omega))]
  | d + 1, k, nC, nM, v, hr, nb, n, m, zC, zM, hk, hC, hM, h9, h, hK => by
    obtain ⟨q, rfl⟩ : ∃ q, nC = q + 1 := ⟨nC - 1, by omega⟩
    obtain ⟨p, rfl⟩ : ∃ p, nM = p + 1 := ⟨nM - 1, by omega⟩
    obtain ⟨zM2, e1, e2, a3, a4, -⟩ := pa_keep h hK
    obtain ⟨r, nb2, zc2, zm2, b1, b2, b3, b4⟩ := hour_both a3 a4 (by omega)
    obtain ⟨r2, zc3, zm3, c1, c2, c3⟩ := hours_run a ha d (k + 1) q p (v + r) (hr + 1) nb2 _ _ zc2 zm2 (by omega) (by omega) (by omega) (by omega) b3 b4
    have i1 : nI k + nI 1 = nI (k + 1) := by rw [nI_add]
    refine ⟨r2, zc3, zm3, ?_, ?_, c3⟩
    · rw [pj_lp3_s]
      unfold PJ_hours_32
      rw [if_neg (by rw [nI_leP (by omega) (by omega)]; omega), e1, pj_cS, b1, pj_cS, pj_bI, i1, pj_bI]
      exact c1
    · rw [pj_lp3_s]
      unfold Md_hours_30
      rw [if_neg (by rw [nI_leP (by omega) (by omega)]; omega), e2, pj_cS, b2, pj_cS, pj_bI, i1, pj_bI]
      exact c2
theorem ok_hours (a : Int32) : pj_ok pa_I (PJ_hours a) (Md_hours a) := by
  intro zC zM h
  obtain ⟨⟨W, H, b, hr, nb, nl, pr, n, m, hA⟩, hK⟩ := id h
  have hH := hA.1.2.1
  have fin : ∀ r : Int32, ∃ r2 zC2 zM2, some (r, zC) = some (r2, zC2) ∧ some (r, zM) = some (r2, zM2) ∧ pa_I zC2 zM2 := fun r => ⟨r, zC, zM, rfl, rfl, h⟩
  unfold PJ_hours Md_hours
  rw [Md_isIn_eq, pj_cS, ib0, nI_toInt (n := 1) (by decide), nI_toInt (n := 100) (by decide), pj_gIn (n := 5) (by decide) (by decide), nI_clamp (n := 5) (by decide), hH.2.1, hH.2.2]
  rcases nI_or a with ⟨k, hk, rfl⟩ | hn
  · by_cases c1 : k < 1
    · have : isin (nI k) ((1 : Nat) : Int) ((100 : Nat) : Int) = false := by
        unfold isin; rw [nI_toInt hk]; simp; omega
      rw [if_pos (nI_lt c1 (by decide)), this, if_neg Bool.false_ne_true]; exact fin _
    · by_cases c2 : 100 < k
      · have : isin (nI k) ((1 : Nat) : Int) ((100 : Nat) : Int) = false := by
          unfold isin; rw [nI_toInt hk]; simp; omega
        rw [if_neg (by rw [nI_ltP hk (by decide)]; exact c1), if_pos (nI_lt c2 hk), this, if_neg Bool.false_ne_true]; exact fin _
      · have : isin (nI k) ((1 : Nat) : Int) ((100 : Nat) : Int) = true := by
          unfold isin; rw [nI_toInt hk]; simp; omega
        rw [if_neg (by rw [nI_ltP hk (by decide)]; exact c1), if_neg (by rw [nI_ltP (by decide) hk]; exact c2), this, if_pos rfl, nI_add]
        by_cases c3 : hr + k ≤ 9999
        · rw [if_pos (nI_le c3 (by decide)), if_pos (nI_le c3 (by decide))]
          exact hours_run k (by omega) k 0 4000 4000 (nI 0) hr nb n m zC zM (by omega) (by omega) (by omega) c3 hA hK
        · have : ¬ nI (hr + k) ≤ nI 9999 := by rw [nI_leP (by omega) (by decide)]; exact c3
          rw [if_neg this, if_neg this]; exact fin _
  · have l1 : a < nI 1 := by
      rw [Int32.lt_iff_toInt_lt, nI_toInt (by decide)]
      omega
    have : isin a ((1 : Nat) : Int) ((100 : Nat) : Int) = false := by
      rw [Int32.lt_iff_toInt_lt] at l1
      rw [nI_toInt (by decide)] at l1
      unfold isin; simp; omega
    rw [if_pos l1, this, if_neg Bool.false_ne_true]; exact fin _
