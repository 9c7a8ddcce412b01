/-! an end is pulled -/
/-- nothing of the class differs but the puller's own -/
def agP (z z2 : pj_S) : Prop := ∀ c, c ≠ 6 → c ≠ 28 → z2.1 c = z.1 c ∧ z2.2 c = z.2 c
theorem agP.rf (z : pj_S) : agP z z := fun _ _ _ => ⟨rfl, rfl⟩
theorem agP.tr {z z2 z3 : pj_S} (h : agP z z2) (g : agP z2 z3) : agP z z3 := fun c a b => ⟨(g c a b).1.trans (h c a b).1, (g c a b).2.trans (h c a b).2⟩
theorem agP.I {z z2 : pj_S} (h : agP z z2) {c j : Nat} {v : Int32} (hc : c = 6 ∨ c = 28) : agP z (pj_sI z2 c j v) := fun d a b => ⟨by rw [ag_n _ _ _ _ (by omega)]; exact (h d a b).1, (h d a b).2⟩
theorem agP.J {z z2 : pj_S} (h : agP z z2) {c j : Nat} {v : Int64} (hc : c = 6 ∨ c = 28) : agP z (pj_sJ z2 c j v) := fun d a b => ⟨(h d a b).1, by rw [sJ_n _ _ _ _ (by omega)]; exact (h d a b).2⟩
section CONG
variable {W H : Nat} {b : Bool} {hr nb nl : Nat} {pr : List pa_Ln} {n m : Nat} {zC zM zC2 zM2 : pj_S}
theorem pa_A.pc (h : pa_A W H b hr nb nl pr n m zC zM) (k : agP zC zC2) : pa_A W H b hr nb nl pr n m zC2 zM := by
  unfold pa_A at h ⊢
  have k1 : ∀ c, c ≠ 6 → c ≠ 28 → zC2.1 c = zC.1 c := fun c x y => (k c x y).1
  have k2 : ∀ c, c ≠ 6 → c ≠ 28 → zC2.2 c = zC.2 c := fun c x y => (k c x y).2
  simp (disch := decide) only [k1, k2]
  exact h
theorem pa_K.pc (h : pa_K zC zM) (k : agP zC zC2) : pa_K zC2 zM := by
  unfold pa_K at h ⊢
  have k1 : ∀ c, c ≠ 6 → c ≠ 28 → zC2.1 c = zC.1 c := fun c x y => (k c x y).1
  have k2 : ∀ c, c ≠ 6 → c ≠ 28 → zC2.2 c = zC.2 c := fun c x y => (k c x y).2
  simp (disch := decide) only [k1, k2]
  exact h
theorem pa_A.pm (h : pa_A W H b hr nb nl pr n m zC zM) (e : ∀ c, 1 ≤ c → c < 7 → zM2.1 c = zM.1 c) (e0 : ∀ j, j < 26 → zM2.1 0 j = zM.1 0 j) : pa_A W H b hr nb nl pr n m zC zM2 := by
  unfold pa_A at h ⊢
  rw [e 1 (by decide) (by decide), e 3 (by decide) (by decide), e0 3 (by decide)]
  exact h
theorem pa_K.pm (h : pa_K zC zM) (e : ∀ c, 1 ≤ c → c < 7 → zM2.1 c = zM.1 c) (e0 : ∀ j, j < 26 → zM2.1 0 j = zM.1 0 j) : pa_K zC zM2 := by
  unfold pa_K at h ⊢
  rw [e 2 (by decide) (by decide), e 6 (by decide) (by decide), e0 4 (by decide), e0 12 (by decide), e0 19 (by decide), e0 21 (by decide)]
  exact h
end CONG
def goF (p : pj_S × Nat) (s : Nat) : pj_S × Nat := (pc_go p.1 s p.2 (nI 2), min (p.2 + 1) 100)
def pl (dir : Bool) (k0 j : Nat) : Nat := if dir then k0 + j else k0 - j
def plJ (dir : Bool) (P k0 : Nat) : Nat := if dir then P - k0 else k0 + 1
/-- does the thread go on beyond place k? -/
def gon (dir : Bool) (P : Nat) (cu : Nat → Bool) (k : Nat) : Bool := if dir then decide (k + 1 < P) && !cu k else decide (0 < k) && !cu (k - 1)
def dI (dir : Bool) : Int32 := b2i dir
/-- how far both have come: j places passed, l has gone, e the stop -/
def WI (W H : Nat) (b : Bool) (hr nl : Nat) (pr : List pa_Ln) (n m : Nat) (real : Bool) (zC : pj_S) (nb : Nat) (dir : Bool) (k0 j : Nat) (l : List Nat) (e : Int32) (zc zm : pj_S) : Prop :=
  agP zC zc ∧ (zc.1 6 1 = nI l.length ∧ zc.1 6 2 = e ∧ ∀ i s, l[i]? = some s → zc.1 28 i = nI s) ∧
  (∀ t, t < 64 → (tb (zc.2 6 4) t = true ↔ ∃ i, i < j ∧ t = stA W (pl dir k0 i))) ∧
  pm_lay W (kdb (tb (zC.2 8 4)) (tb (zC.2 8 5))) (tb (zc.2 6 3)) (tb (zC.2 8 7)) zm ∧
  (zm.1 0 26 = nI l.length ∧ zm.1 0 27 = nI j ∧ zm.1 0 28 = e) ∧
  (∀ t, t < 64 → tb (zc.2 6 3) t = (tb (zC.2 8 6) t && !decide (t ∈ l))) ∧ (l.length ≤ j ∧ cnt (tb (zc.2 6 3)) 64 + l.length = cnt (tb (zC.2 8 6)) 64) ∧ (∀ t, t < 64 → tb (zc.2 6 4) t = true → tb (zc.2 6 3) t = false) ∧ (∀ s, s ∈ l → s < 64 ∧ tb (zc.2 6 4) s = true ∧ tb (zC.2 8 6) s = true) ∧
  ∃ p : pj_S × Nat, p = (if real then l.foldl goF (zC, nb) else (zC, nb)) ∧ (∀ c, c ≠ 6 → p.1.2 8 c = zC.2 8 c) ∧ pa_A W H b hr p.2 nl pr n m p.1 zm ∧ pa_K p.1 zm
/-! one step -/
theorem Puller_undone_eq {W H : Nat} {b : Bool} {w : Nat → Int32} {zC zc : pj_S} (hF : pa_F W H b (zC.1 8) (zC.2 8) w) (ha : agP zC zc) {c : Nat} (hc : c < 36) (h61 : zc.1 6 1 = nI c) (hx : ∀ t, t < 64 → tb (zc.2 6 3) t = true → stit W H t = true) (s : Nat) (hs : s < 64) :
    Puller_comesUndone (nI s) zc = (if hl W H b (kdb (tb (zC.2 8 4)) (tb (zC.2 8 5))) (tb (zC.2 8 7)) (tb (zc.2 6 3)) s then some (nI 0, zc) else if tb (zc.2 6 3) s then
      some (nI 1, pj_sI (pj_sI (pj_sJ zc 6 3 ((zc.2 6 3) &&& ((pj_shlL (1 : Int64) (nI s)) ^^^ (-1 : Int64)))) 28 c (nI s)) 6 1 (nI (c + 1))) else some (nI 1, zc)) := by
  have e81 := (ha 8 (by decide) (by decide)).1
  have e82 := (ha 8 (by decide) (by decide)).2
  have hFc : pa_F W H b (zc.1 8) (zc.2 8) w := by rw [e81, e82]; exact hF
  obtain ⟨r, e, er⟩ := Fabric_heldOf_eq hFc (zc.2 6 3) (zc.2 8 7) hx
  unfold Puller_comesUndone
  rw [PJ_bitOf_eq _ s hs, pj_cS, ib0]
  cases q : tb (zc.2 6 3) s
  · have : hl W H b (kdb (tb (zC.2 8 4)) (tb (zC.2 8 5))) (tb (zC.2 8 7)) (tb (zc.2 6 3)) s = false := by unfold hl; rw [q]; rfl
    rw [if_neg Bool.false_ne_true, this, if_neg Bool.false_ne_true, if_neg Bool.false_ne_true]; rfl
  · rw [if_pos rfl, e, pj_cS, PJ_bitOf_eq _ s hs, pj_cS, er s hs, e82, ib1]
    cases hl W H b (kdb (tb (zC.2 8 4)) (tb (zC.2 8 5))) (tb (zC.2 8 7)) (tb (zc.2 6 3)) s
    · rw [if_neg Bool.false_ne_true, if_neg Bool.false_ne_true, if_pos rfl, h61, if_pos (nI_lt hc (by decide)), pj_bI]
      have i1 : (pj_sJ zc 6 3 ((zc.2 6 3) &&& ((pj_shlL (1 : Int64) (nI s)) ^^^ (-1 : Int64)))).1 6 1 = nI c := h61
      have i2 : ∀ z : pj_S, (pj_sI z 28 c (nI s)).1 6 1 = z.1 6 1 := fun z => by rw [ag_n _ _ _ _ (by decide)]
      rw [i1, pj_gIn (n := c) hc (by decide), nI_clamp (n := c) (by omega), pj_bI, i2, i1, nI_add, pj_bI]; rfl
    · rw [if_pos rfl, if_pos rfl]; rfl
theorem thread_c {W H : Nat} {b : Bool} {w : Nat → Int32} {zc : pj_S} (hF : pa_F W H b (zc.1 8) (zc.2 8) w) (dir : Bool) (k : Nat) (hk : k < W * H) :
    Fabric_hasThreadBetween (nI k) (if dir then nI k + nI 1 else nI k - nI 1) zc = some (b2i (gon dir (W * H) (tb (zc.2 8 9)) k), zc) := by
  obtain ⟨p1, p2⟩ := wh_b hF.1
  unfold gon
  cases dir
  · rw [if_neg Bool.false_ne_true, if_neg Bool.false_ne_true]
    by_cases c : 0 < k
    · rw [pk_sub (by omega), Fabric_hasThread_eq hF k (k - 1) hk (by omega), Nat.min_eq_right (by omega), decide_eq_true c, Bool.true_and]
    · have : k = 0 := by omega
      subst this
      unfold Fabric_hasThreadBetween
      rw [if_neg (by decide), if_pos (by decide)]; rfl
  · rw [if_pos rfl, if_pos rfl, nI_add]
    by_cases c : k + 1 < W * H
    · rw [Fabric_hasThread_eq hF k (k + 1) hk c, Nat.min_eq_left (by omega), decide_eq_true c, Bool.true_and]
    · unfold Fabric_hasThreadBetween
      rw [if_neg (nI_pos (by omega)), if_neg (nI_pos (by omega)), Fabric_places_eq hF, pj_cS, if_neg (by rw [nI_leP (by omega) (by omega)]; omega), Fabric_places_eq hF, pj_cS, if_pos (nI_le (by omega) (by omega)), decide_eq_false c]; rfl
theorem end_gon {P : Nat} {cu : Nat → Bool} (dir : Bool) (k : Nat) (hk : k < P) (hP : P ≤ 36) : endI P cu (nI k) (if dir then nI 0 else nI 1) = !gon dir P cu k := by
  unfold endI gon
  rw [isin_P (by omega), nI_clamp (by omega), decide_eq_true hk, Bool.true_and]
  cases dir
  · rw [if_neg Bool.false_ne_true, if_pos rfl, if_neg Bool.false_ne_true]
    by_cases c : 0 < k
    · rw [decide_eq_true c, decide_eq_false (nI_ne0 c (by omega))]; simp
    · have : k = 0 := by omega
      subst this
      rw [decide_eq_false c]; rfl
  · rw [if_pos rfl, if_neg (nn 0 1), if_pos (by decide), if_pos rfl]
    by_cases c : k + 1 < P
    · rw [decide_eq_true c, decide_eq_false (by rw [nI_eq (by omega) (by omega)]; omega)]; simp
    · have : k = P - 1 := by omega
      rw [decide_eq_false c, this, decide_eq_true rfl]; simp
