/-! save: the model -/
def mO (z0 z : pj_S) : Prop := (∀ c, 1 ≤ c → c < 9 → z.1 c = z0.1 c) ∧ ∀ j, j ≠ 32 → z.1 0 j = z0.1 0 j
def stM (M : Nat) (z : pj_S) (st : svS) : Prop := (∀ i, M ≤ i → i < 3 → z.1 15 i = -1) ∧ match st with
  | none => z.1 0 32 = -1
  | some (k, l) => l.length = M ∧ k ≤ 64 ∧ z.1 0 32 = nI k ∧ ∀ i t, l[i]? = some t → z.1 15 i = nI t
theorem stM.c {M : Nat} {z z2 : pj_S} {st : svS} (h : stM M z st) (e0 : z2.1 0 = z.1 0) (e15 : z2.1 15 = z.1 15) : stM M z2 st := by
  unfold stM at h ⊢
  rw [e0, e15]
  exact h
section SM
variable {W H : Nat} {b : Bool} {kd : Nat → Nat} {he ca : Nat → Bool} {z0 : pj_S} {M : Nat}
theorem saves_catch {ch : List Nat} (hM : ch.length = M) (hM3 : M ≤ 3) (hch : ∀ t, t ∈ ch → t < 64) (sR : Int32 → Int32 → Int32 → pj_S → Option (Unit × pj_S)) {z1 : pj_S} (h14 : ∀ i t, ch[i]? = some t → z1.1 14 i = nI t) (h10 : ∀ t, t < 64 → z1.1 10 t = b2i (ca t)) :
    ∀ d i q z', i + d = M → d < q → (∀ c, c ≠ 10 → z'.1 c = z1.1 c) → (∀ t, t < 64 → z'.1 10 t = b2i (ca t || decide (t ∈ ch.take i))) →
    ∃ z2, pj_lp2 (Md_saves_12 sR) q (nI M) (nI i) z' = Md_saves_37 sR (nI M) z2 ∧ (∀ c, c ≠ 10 → z2.1 c = z1.1 c) ∧ (∀ t, t < 64 → z2.1 10 t = b2i (cac ca ch t)) := by
  intro d
  induction d with
  | zero =>
    intro i q z' hi hq e1 e2
    obtain ⟨q, rfl⟩ : ∃ p, q = p + 1 := ⟨q - 1, by omega⟩
    have : i = M := by omega
    subst this
    refine ⟨z', ?_, e1, fun t ht => ?_⟩
    · rw [pj_lp2_s]
      unfold Md_saves_12
      rw [if_pos (nI_le (Nat.le_refl _) (by omega))]
    · rw [e2 t ht, List.take_of_length_le (by omega)]; rfl
  | succ d ih =>
    intro i q z' hi hq e1 e2
    obtain ⟨q, rfl⟩ : ∃ p, q = p + 1 := ⟨q - 1, by omega⟩
    have hi2 : i < ch.length := by omega
    obtain ⟨s, hs⟩ : ∃ s, ch[i]? = some s := ⟨ch[i], List.getElem?_eq_getElem hi2⟩
    have s64 := hch s (List.mem_of_getElem? hs)
    have r14 : z'.1 14 i = nI s := by rw [e1 14 (by decide)]; exact h14 i s hs
    have := ih (i + 1) q (pj_sI z' 10 s (nI 1)) (by omega) (by omega) (fun c hc => by rw [ag_n _ _ _ _ hc]; exact e1 c hc) (fun t ht => by
      rw [ag_1, List.take_add_one, hs]
      by_cases c : t = s
      · subst c; rw [upd_s]; simp; rfl
      · rw [upd_ne c, e2 t ht]; simp [c])
    rw [pj_lp2_s]
    generalize pj_lp2 (Md_saves_12 sR) q = self at this ⊢
    unfold Md_saves_12
    rw [if_neg (by rw [nI_leP (by omega) (by omega)]; omega), pj_gIn (n := i) (by omega) (by decide), nI_clamp (n := i) (by omega), r14, pj_gIn (n := s) s64 (by decide), nI_clamp (n := s) (by omega), pj_bI, nI_add, pj_bI]
    exact this
theorem saves_put {ch : List Nat} (hM : ch.length = M) (hM3 : M ≤ 3) (sR : Int32 → Int32 → Int32 → pj_S → Option (Unit × pj_S)) {z1 : pj_S} (h14 : ∀ i t, ch[i]? = some t → z1.1 14 i = nI t) :
    ∀ d i q z', i + d = M → d < q → (∀ c, c ≠ 15 → z'.1 c = z1.1 c) → (∀ j, M ≤ j → z'.1 15 j = z1.1 15 j) → (∀ j t, j < i → ch[j]? = some t → z'.1 15 j = nI t) →
    ∃ z2, pj_lp2 (Md_saves_74 sR) q (nI M) (nI i) z' = some ((), z2) ∧ (∀ c, c ≠ 15 → z2.1 c = z1.1 c) ∧ (∀ j, M ≤ j → z2.1 15 j = z1.1 15 j) ∧ (∀ j t, ch[j]? = some t → z2.1 15 j = nI t) := by
  intro d
  induction d with
  | zero =>
    intro i q z' hi hq e1 e2 e3
    obtain ⟨q, rfl⟩ : ∃ p, q = p + 1 := ⟨q - 1, by omega⟩
    refine ⟨z', ?_, e1, e2, fun j t hj => e3 j t (by have := (List.getElem?_eq_some_iff.mp hj).1; omega) hj⟩
    rw [pj_lp2_s]
    unfold Md_saves_74
    rw [if_pos (nI_le (by omega) (by omega))]
  | succ d ih =>
    intro i q z' hi hq e1 e2 e3
    obtain ⟨q, rfl⟩ : ∃ p, q = p + 1 := ⟨q - 1, by omega⟩
    have hi2 : i < ch.length := by omega
    obtain ⟨s, hs⟩ : ∃ s, ch[i]? = some s := ⟨ch[i], List.getElem?_eq_getElem hi2⟩
    have r14 : z'.1 14 i = nI s := by rw [e1 14 (by decide)]; exact h14 i s hs
    have := ih (i + 1) q (pj_sI z' 15 i (nI s)) (by omega) (by omega) (fun c hc => by rw [ag_n _ _ _ _ hc]; exact e1 c hc) (fun j hj => by rw [ag_1, upd_ne (by omega)]; exact e2 j hj) (fun j t hj ht => by
      rw [ag_1]
      by_cases c : j = i
      · subst c
        rw [hs] at ht
        cases ht
        rw [upd_s]
      · rw [upd_ne c]; exact e3 j t (by omega) ht)
    rw [pj_lp2_s]
    generalize pj_lp2 (Md_saves_74 sR) q = self at this ⊢
    unfold Md_saves_74
    rw [if_neg (by rw [nI_leP (by omega) (by omega)]; omega), pj_gIn (n := i) (by omega) (by decide), pj_gIn (n := i) (by omega) (by decide), nI_clamp (n := i) (by omega), r14, pj_bI, nI_add, pj_bI]
    exact this
theorem saves_run (hH : 2 ≤ H ∧ H ≤ 6) (hW : W ≤ 6) (w0 : z0.1 1 0 = nI W) (w1 : z0.1 1 1 = nI H) (w2 : z0.1 1 2 = b2i b) (hkd : ∀ s, s < 64 → z0.1 1 (10 + s) = nI (kd s)) (hk4 : ∀ s, kd s < 4) (h74 : ∀ s, s < 64 → z0.1 1 (74 + s) = b2i (he s)) (h138 : ∀ s, s < 64 → z0.1 1 (138 + s) = b2i (ca s))
    (hX : ∀ s, he s = true → stit W H s = true) (hM3 : M ≤ 3) : ∀ r q ch k zm st, r < q → ch.length + r = M → k ≤ 64 → mO z0 zm → (∀ i t, ch[i]? = some t → zm.1 14 i = nI t) → (∀ t, t ∈ ch → t < 64) → stM M zm st →
    ∃ zm2, pj_lp3 Md_saves_B q (nI ch.length) (nI M) (nI k) zm = some ((), zm2) ∧ mO z0 zm2 ∧ (∀ i, i < ch.length → zm2.1 14 i = zm.1 14 i) ∧ stM M zm2 (sv (fun t => he t && !ca t) (svN W H b kd ca he) r ch k st)
  | 0, q, ch, k, zm, st, hq, hl, hk, ho, h14, hch, hst => by
    obtain ⟨q, rfl⟩ : ∃ p, q = p + 1 := ⟨q - 1, by omega⟩
    have hl : ch.length = M := by omega
    obtain ⟨z1, e1, c1, l1⟩ := Md_laysNow_eq zm
    have q1 : z1.1 1 = z0.1 1 := (c1 1 (by decide) (by decide)).trans (ho.1 1 (by decide) (by decide))
    have qm : zm.1 1 = z0.1 1 := ho.1 1 (by decide) (by decide)
    rw [pj_lp3_s]
    generalize pj_lp3 Md_saves_B q = sR
    obtain ⟨z2, e2, c2, l2⟩ := saves_catch (ca := ca) hl hM3 hch sR (z1 := z1) (fun i t hi => by rw [c1 14 (by decide) (by decide)]; exact h14 i t hi) (fun t ht => by rw [(l1 t ht).2, qm]; exact h138 t ht) M 0 4000 z1 (by omega) (by omega) (fun _ _ => rfl) (fun t ht => by rw [(l1 t ht).2, qm, h138 t ht]; simp)
    have q2 : z2.1 1 = z0.1 1 := (c2 1 (by decide)).trans q1
    obtain ⟨z3, e3, c3, l3⟩ := Md_laysHolders_eq (W := W) (kd := kd) (he := he) (z := z2) (by rw [q2]; exact w0) hW (by rw [q2]; exact hkd) hk4 (fun i hi => by rw [c2 9 (by decide), (l1 i hi).1, qm]; exact h74 i hi)
    have q3 : z3.1 1 = z0.1 1 := (c3 1 (by decide)).trans q2
    have L3 : pm_lay W kd he (cac ca ch) z3 := ⟨fun i hi => by rw [c3 9 (by decide), c2 9 (by decide), (l1 i hi).1, qm]; exact h74 i hi, fun i hi => by rw [c3 10 (by decide)]; exact l2 i hi, l3⟩
    obtain ⟨qq, n, z4, f1, f2, f3, f4, f5, f6, f7, f8⟩ := Md_allRun_eq (b := b) (z := z3) hH hW (by rw [q3]; exact w0) (by rw [q3]; exact w1) (by rw [q3]; exact w2) (by rw [q3]; exact hkd) hk4 L3 hX
    have eN : n = svN W H b kd ca he ch := by
      have a1 := memq_cnt n f5 f6
      rw [← a1]
      refine cnt_congr 64 (fun t ht => ?_)
      rw [Bool.eq_iff_iff, memq_iff, f7 t]
      unfold gng
      simp only [Bool.and_eq_true, Bool.not_eq_true']
    -- the way so far changes neither 0, 14 nor 15
    have cc : ∀ c, c ≠ 9 → c ≠ 10 → c ≠ 11 → c ≠ 12 → z4.1 c = zm.1 c := fun c h9 h10 h11 h12 => by rw [f2 c h9 h11 h12, c3 c h11, c2 c h10, c1 c h9 h10]
    have r32 : z4.1 0 32 = zm.1 0 32 := by rw [cc 0 (by decide) (by decide) (by decide) (by decide)]
    have mo4 : mO z0 z4 := ⟨fun c a b => by rw [cc c (by omega) (by omega) (by omega) (by omega)]; exact ho.1 c a b, fun j hj => by rw [cc 0 (by decide) (by decide) (by decide) (by decide)]; exact ho.2 j hj⟩
    have put : ∃ zm2, Md_saves_65 sR (nI M) (nI n) z4 = some ((), zm2) ∧ mO z0 zm2 ∧ (∀ i, i < ch.length → zm2.1 14 i = zm.1 14 i) ∧ stM M zm2 (some (svN W H b kd ca he ch, ch)) := by
      unfold Md_saves_65
      rw [pj_bI]
      obtain ⟨z6, g1, g2, g3, g4⟩ := saves_put (ch := ch) hl hM3 sR (z1 := pj_sI z4 0 32 (nI n)) (fun i t hi => by rw [ag_n _ _ _ _ (by decide), cc 14 (by decide) (by decide) (by decide) (by decide)]; exact h14 i t hi) M 0 4000 _ (by omega) (by omega) (fun _ _ => rfl) (fun _ _ => rfl) (fun j t hj => by omega)
      refine ⟨z6, g1, ⟨fun c a b => by rw [g2 c (by omega), ag_n _ _ _ _ (by omega)]; exact mo4.1 c a b, fun j hj => by rw [g2 0 (by decide), ag_1, upd_ne hj]; exact mo4.2 j hj⟩, fun i _ => by rw [g2 14 (by decide), ag_n _ _ _ _ (by decide), cc 14 (by decide) (by decide) (by decide) (by decide)], fun i hi i3 => ?_, hl, ?_, ?_, g4⟩
      · rw [g3 i hi, ag_n _ _ _ _ (by decide), cc 15 (by decide) (by decide) (by decide) (by decide)]
        exact hst.1 i hi i3
      · rw [← eN]; exact f3
      · rw [g2 0 (by decide), ← eN]; rfl
    unfold Md_saves_B
    rw [if_pos (by rw [hl]), e1, pj_cS, e2]
    unfold Md_saves_37
    rw [e3, pj_cS, f1, pj_cS, r32]
    obtain ⟨s0, s1⟩ := id hst
    cases st with
    | none =>
      have s1 : zm.1 0 32 = -1 := s1
      rw [s1, if_pos rfl]
      exact put
    | some p =>
      obtain ⟨a, l⟩ := p
      have s1 : l.length = M ∧ a ≤ 64 ∧ zm.1 0 32 = nI a ∧ ∀ i t, l[i]? = some t → zm.1 15 i = nI t := s1
      have ne : ¬ nI a = -1 := fun e => by
        have : (nI a).toInt = (-1 : Int32).toInt := by rw [e]
        rw [nI_toInt (by omega)] at this
        have e1 : (-1 : Int32).toInt = -1 := by decide
        omega
      rw [s1.2.2.1, if_neg ne]
      show ∃ zm2, _ ∧ mO z0 zm2 ∧ _ ∧ stM M zm2 (if svN W H b kd ca he ch < a then some (svN W H b kd ca he ch, ch) else some (a, l))
      by_cases c : n < a
      · rw [if_pos (nI_lt c (by omega)), if_pos (by rw [← eN]; exact c)]
        exact put
      · rw [if_neg (by rw [nI_ltP (by omega) (by omega)]; exact c), if_neg (by rw [← eN]; exact c)]
        exact ⟨z4, rfl, mo4, fun i _ => by rw [cc 14 (by decide) (by decide) (by decide) (by decide)], hst.c (cc 0 (by decide) (by decide) (by decide) (by decide)) (cc 15 (by decide) (by decide) (by decide) (by decide))⟩
  | r + 1, q, ch, k, zm, st, hq, hl, hk, ho, h14, hch, hst => by
    obtain ⟨q, rfl⟩ : ∃ p, q = p + 1 := ⟨q - 1, by omega⟩
    have rc := fun ch k zm st => saves_run hH hW w0 w1 w2 hkd hk4 h74 h138 hX hM3 r q ch k zm st (by omega)
    rw [pj_lp3_s]
    generalize pj_lp3 Md_saves_B q = sR at rc ⊢
    unfold Md_saves_B
    rw [if_neg (by rw [nI_eq (by omega) (by omega)]; omega), sv_s]
    have loop : ∀ d j p zm' st, j + d = 64 → d < p → mO z0 zm' → (∀ i, i < ch.length → zm'.1 14 i = zm.1 14 i) → stM M zm' st → ∃ zm2, pj_lp3 (Md_saves_104 sR) p (nI ch.length) (nI M) (nI j) zm' = some ((), zm2) ∧ mO z0 zm2 ∧ (∀ i, i < ch.length → zm2.1 14 i = zm.1 14 i) ∧
        stM M zm2 (svL (fun t st => if he t && !ca t then sv (fun t => he t && !ca t) (svN W H b kd ca he) r (ch ++ [t]) (t + 1) st else st) d j st) := fun d => by
      induction d with
      | zero =>
        intro j p zm' st hj hp ho' h14' hst'
        obtain ⟨p, rfl⟩ : ∃ x, p = x + 1 := ⟨p - 1, by omega⟩
        refine ⟨zm', ?_, ho', h14', hst'⟩
        rw [pj_lp3_s]
        unfold Md_saves_104
        rw [if_pos (nI_le (by omega) (by omega))]
      | succ d ih =>
        intro j p zm' st hj hp ho' h14' hst'
        obtain ⟨p, rfl⟩ : ∃ x, p = x + 1 := ⟨p - 1, by omega⟩
        have i1 : nI j + nI 1 = nI (j + 1) := by rw [nI_add]
        have i2 : nI ch.length + nI 1 = nI (ch ++ [j]).length := by rw [nI_add, List.length_append]; rfl
        have cq : Md_canCatch (nI j) zm' = some (b2i (he j && !ca j), zm') := by
          unfold Md_canCatch
          have i74 : nI 74 + nI j = nI (74 + j) := by rw [nI_add]
          have i138 : nI 138 + nI j = nI (138 + j) := by rw [nI_add]
          rw [i74, i138, pj_gIn (n := 74 + j) (by omega) (by decide), nI_clamp (n := 74 + j) (by omega), ho'.1 1 (by decide) (by decide), h74 j (by omega), ib1, pj_gIn (n := 138 + j) (by omega) (by decide), nI_clamp (n := 138 + j) (by omega), h138 j (by omega), ib0]
          cases he j <;> cases ca j <;> rfl
        have ih2 := fun zm' st => ih (j + 1) p zm' st (by omega) (by omega)
        rw [pj_lp3_s]
        generalize pj_lp3 (Md_saves_104 sR) p = self at ih2 ⊢
        unfold Md_saves_104 Md_saves_143
        rw [if_neg (by rw [nI_leP (by decide) (by omega)]; omega), cq, pj_cS, ib0, i1]
        show ∃ zm2, _ ∧ mO z0 zm2 ∧ _ ∧ stM M zm2 (svL _ d (j + 1) (if he j && !ca j then sv (fun t => he t && !ca t) (svN W H b kd ca he) r (ch ++ [j]) (j + 1) st else st))
        cases hc : (he j && !ca j)
        · rw [if_neg Bool.false_ne_true, if_neg Bool.false_ne_true, pj_bI]
          exact ih2 zm' st ho' h14' hst'
        · rw [if_pos rfl, if_pos rfl, pj_gIn (n := ch.length) (by omega) (by decide), nI_clamp (n := ch.length) (by omega), pj_bI, i2]
          obtain ⟨z5, e5, o5, k5, s5⟩ := rc (ch ++ [j]) (j + 1) (pj_sI zm' 14 ch.length (nI j)) st (by rw [List.length_append]; show ch.length + 1 + r = M; omega) (by omega) ⟨fun c a b => by rw [ag_n _ _ _ _ (by omega)]; exact ho'.1 c a b, ho'.2⟩ (fun i t hi => by
            rw [ag_1]
            by_cases c : i = ch.length
            · subst c
              rw [List.getElem?_append_right (Nat.le_refl _), Nat.sub_self] at hi
              have hi : some j = some t := hi
              cases hi
              rw [upd_s]
            · have := (List.getElem?_eq_some_iff.mp hi).1
              rw [List.length_append] at this
              have : i < ch.length + 1 := this
              rw [List.getElem?_append_left (by omega)] at hi
              rw [upd_ne c, h14' i (by omega)]
              exact h14 i t hi) (fun t ht => by
            rw [List.mem_append, List.mem_singleton] at ht
            rcases ht with ht | rfl
            · exact hch t ht
            · omega) (hst'.c rfl rfl)
          rw [e5, pj_cS, pj_bI]
          refine ih2 z5 _ o5 (fun i hi => ?_) s5
          rw [k5 i (by rw [List.length_append]; show i < ch.length + 1; omega), ag_1, upd_ne (by omega)]
          exact h14' i hi
    exact loop (64 - k) k 4000 zm st (by omega) (by omega) ho (fun _ _ => rfl) hst
end SM
