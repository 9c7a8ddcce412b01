/-! all has run: the model's loops -/
def q12 (q : Nat → Nat) (n : Nat) (z : pj_S) : Prop := ∀ i, i < n → z.1 12 i = nI (q i)
section AR
variable {W H : Nat} {b : Bool} {kd : Nat → Nat} {ca X he : Nat → Bool} {q : Nat → Nat} {n k : Nat} {exc : Nat → Prop} {z : pj_S}
theorem pm_lay.c {z2 : pj_S} (h : pm_lay W kd he ca z) (e : ∀ c, c ≠ 12 → z2.1 c = z.1 c) : pm_lay W kd he ca z2 := by
  unfold pm_lay at h ⊢
  rw [e 9 (by decide), e 10 (by decide), e 11 (by decide)]
  exact h
theorem ar_chk {α : Type} (w1 : z.1 1 1 = nI H) (w2 : z.1 1 2 = b2i b) (hH : 2 ≤ H ∧ H ≤ 6) (hL : pm_lay W kd he ca z) (hq : q12 q n z) (hS : qS W H b kd ca X q n k he exc) (o : Option Nat) (ho : ∀ t, o = some t → t < 64) (K : Int32 → pj_S → Option α) :
    ∃ q2 n2 z2, (if oI o = (-1 : Int32) then K (nI n) z else pj_c (Md_isLoose (oI o) z) fun r3 z2 => if r3 = (0) then K (nI n) z2 else pj_c (Md_isQueued (oI o) (nI n) z2) fun r6 z5 => if r6 = (0) then pj_g (pj_in (nI n) 64) (pj_b (pj_sI z5 12 (Int32.toNatClampNeg (nI n)) (oI o)) fun z7 => pj_b (nI n + nI 1) fun x8 => K x8 z7) else K (nI n) z5) = K (nI n2) z2 ∧
      qS W H b kd ca X q2 n2 k he (fun t => exc t ∧ o ≠ some t) ∧ q12 q2 n2 z2 ∧ ∀ c, c ≠ 12 → z2.1 c = z.1 c := by
  cases o with
  | none =>
    rw [if_pos oI_n]
    exact ⟨q, n, z, rfl, hS.exc_mono (fun t h => ⟨h, by simp⟩), hq, fun _ _ => rfl⟩
  | some t =>
    have ht := ho t rfl
    have nl := hS.le
    rw [if_neg (oI_ne ht), oI_s, Md_isLoose_eq w1 w2 hH hL t ht, pj_cS, ib0]
    cases r : (he t && !hl W H b kd ca he t)
    · rw [if_neg Bool.false_ne_true]
      exact ⟨q, n, z, rfl, (hS.pass (v := t) (Or.inl r)).exc_mono (fun u h => ⟨h.1, fun e => h.2 (Option.some.inj e).symm⟩), hq, fun _ _ => rfl⟩
    · rw [if_pos rfl]
      obtain ⟨c, e, ec⟩ := Md_isQueued_eq (z := z) q n t nl ht (fun i hi => ⟨(hS.2.1 i hi).1, hq i hi⟩)
      rw [e, pj_cS, ib0]
      cases c
      · rw [if_neg Bool.false_ne_true]
        have nm : ¬ ∃ i, i < n ∧ q i = t := fun h => by have := ec.mpr h; cases this
        simp only [Bool.and_eq_true, Bool.not_eq_true'] at r
        have P := hS.push (v := t) ht r.1 r.2 nm (q2 := fun i => if i = n then t else q i) (fun i hi => if_neg (by omega)) (if_pos rfl)
        have n64 := P.le
        rw [pj_gIn (n := n) (by omega) (by decide), nI_clamp (n := n) (by omega), pj_bI, nI_add, pj_bI]
        refine ⟨_, n + 1, _, rfl, P.exc_mono (fun u h => ⟨h.1, fun e => h.2 (Option.some.inj e).symm⟩), fun i hi => ?_, fun c hc => ag_n _ _ _ _ hc⟩
        rw [ag_1]
        by_cases ci : i = n
        · subst ci; rw [upd_s]; exact congrArg nI (if_pos rfl).symm
        · rw [upd_ne ci]; exact (hq i (by omega)).trans (congrArg nI (if_neg ci).symm)
      · rw [if_pos rfl]
        exact ⟨q, n, z, rfl, (hS.pass (v := t) (Or.inr (ec.mp rfl))).exc_mono (fun u h => ⟨h.1, fun e => h.2 (Option.some.inj e).symm⟩), hq, fun _ _ => rfl⟩
/-- the second loop -/
theorem Md_allRun_37_eq (hH : 2 ≤ H ∧ H ≤ 6) (hW : W ≤ 6) (w0 : z.1 1 0 = nI W) (w1 : z.1 1 1 = nI H) (w2 : z.1 1 2 = b2i b) (hk : ∀ s, s < 64 → z.1 1 (10 + s) = nI (kd s)) (hk4 : ∀ s, kd s < 4)
    (hL : pm_lay W kd X ca z) (hq : q12 q n z) (hS : qS W H b kd ca X q n 0 X (fun _ => False)) :
    ∃ q2 n2 z2 he2, Md_allRun_37 (nI n) z = some (nI n2, z2) ∧ qS W H b kd ca X q2 n2 n2 he2 (fun _ => False) ∧ q12 q2 n2 z2 ∧ pm_lay W kd he2 ca z2 ∧ ∀ c, c ≠ 9 → c ≠ 11 → c ≠ 12 → z2.1 c = z.1 c := by
  unfold Md_allRun_37
  obtain ⟨a, p, z2, ⟨q2, n2, he2, rfl, e1, e2, e3, e4⟩, e⟩ := pj_loop2 (F := Md_allRun_39)
    (P := fun d a p z' => ∃ q n k he, k + d = 64 ∧ a = nI n ∧ p = nI k ∧ qS W H b kd ca X q n k he (fun _ => False) ∧ q12 q n z' ∧ pm_lay W kd he ca z' ∧ ∀ c, c ≠ 9 → c ≠ 11 → c ≠ 12 → z'.1 c = z.1 c)
    (E := fun a _ z' => ∃ q n he, a = nI n ∧ qS W H b kd ca X q n n he (fun _ => False) ∧ q12 q n z' ∧ pm_lay W kd he ca z' ∧ ∀ c, c ≠ 9 → c ≠ 11 → c ≠ 12 → z'.1 c = z.1 c)
    (G := fun a _ z' => some (a, z')) (by
      rintro self d a p z' ⟨q, n, k, he, hd, rfl, rfl, h1, h2, h3, h4⟩
      have nl := h1.le
      unfold Md_allRun_39
      by_cases c : n ≤ k
      · left
        have : k = n := by have := h1.1; omega
        subst this
        exact ⟨⟨q, k, he, rfl, h1, h2, h3, h4⟩, by rw [if_pos (nI_le c (by omega))]⟩
      · right
        have r1 := h4 1 (by decide) (by decide) (by decide)
        obtain ⟨g1, g2⟩ := h1.go (by omega)
        have qk := (h1.2.1 k (by omega)).1
        obtain ⟨z3, y, y1, y2⟩ := Md_goes_eq (z := z') (by rw [r1]; exact w0) hW (by rw [r1]; exact hk) hk4 h3 (q k) qk g1
        have s1 : z3.1 1 = z.1 1 := (y1 1 (by decide) (by decide)).trans r1
        rw [if_neg (by rw [nI_leP (by omega) (by omega)]; exact c), pj_gIn (n := k) (by omega) (by decide), nI_clamp (n := k) (by omega), h2 k (by omega), pj_bI, nI_add, pj_bI, y, pj_cS, Md_drawnOne_eq (W := W) (kd := kd) (z := z3) (by rw [s1]; exact w0) hW (q k) qk (by rw [s1]; exact hk _ qk) (hk4 _), pj_cS, Md_drawnOther_eq (W := W) (kd := kd) (z := z3) (by rw [s1]; exact w0) hW (q k) qk (by rw [s1]; exact hk _ qk) (hk4 _), pj_cS]
        have h2' : q12 q n z3 := fun i hi => by rw [y1 12 (by decide) (by decide)]; exact h2 i hi
        obtain ⟨q4, n4, z4, e4, S4, Q4, c4⟩ := ar_chk (z := z3) (by rw [s1]; exact w1) (by rw [s1]; exact w2) hH y2 h2' g2 (d1 W kd (q k)) (fun t ht => d1_lt qk ht) (fun v1 z10 => Md_allRun_109 self v1 (nI (k + 1)) (oI (d2 W kd (q k))) z10)
        rw [e4]
        have t1 : z4.1 1 = z.1 1 := (c4 1 (by decide)).trans s1
        unfold Md_allRun_109 Md_allRun_145
        obtain ⟨q5, n5, z5, e5, S5, Q5, c5⟩ := ar_chk (z := z4) (by rw [t1]; exact w1) (by rw [t1]; exact w2) hH (y2.c c4) Q4 S4 (d2 W kd (q k)) (fun t ht => d2_lt qk ht) (fun v1 z10 => self v1 (nI (k + 1)) z10)
        rw [e5]
        refine ⟨d - 1, _, _, z5, by omega, ⟨q5, n5, k + 1, _, by omega, rfl, rfl, S5.exc_mono (fun t h => ?_), Q5, (y2.c c4).c c5, fun c c9 c11 c12 => ?_⟩, rfl⟩
        · obtain ⟨⟨h | h, h'⟩, h''⟩ := h
          · exact h' h
          · exact h'' h
        · rw [c5 c c12, c4 c c12, y1 c c9 c11]; exact h4 c c9 c11 c12)
    4000 64 (nI n) (nI 0) z ⟨q, n, 0, X, by omega, rfl, rfl, hS, hq, hL, fun _ _ _ _ => rfl⟩ (by decide)
  exact ⟨q2, n2, z2, he2, e, e1, e2, e3, e4⟩
/-- all has run -/
theorem Md_allRun_eq (hH : 2 ≤ H ∧ H ≤ 6) (hW : W ≤ 6) (w0 : z.1 1 0 = nI W) (w1 : z.1 1 1 = nI H) (w2 : z.1 1 2 = b2i b) (hk : ∀ s, s < 64 → z.1 1 (10 + s) = nI (kd s)) (hk4 : ∀ s, kd s < 4)
    (hL : pm_lay W kd X ca z) (hX : ∀ s, X s = true → stit W H s = true) :
    ∃ q n z2, Md_allRun z = some (nI n, z2) ∧ (∀ c, c ≠ 9 → c ≠ 11 → c ≠ 12 → z2.1 c = z.1 c) ∧ n ≤ 64 ∧ q12 q n z2 ∧ (∀ i, i < n → q i < 64) ∧ (∀ i j, i < j → j < n → q i ≠ q j) ∧
      (∀ t, (∃ i, i < n ∧ q i = t) ↔ (X t = true ∧ itr W H b kd ca H X t = false)) ∧ pm_lay W kd (itr W H b kd ca H X) ca z2 := by
  unfold Md_allRun
  obtain ⟨a, p, z1, ⟨q1, n1, rfl, S1, Q1, L1, c1⟩, e⟩ := pj_loop2 (F := Md_allRun_4)
    (P := fun d a p z' => ∃ q n k, k + d = 64 ∧ a = nI n ∧ p = nI k ∧ qS W H b kd ca X q n 0 X (fun t => k ≤ t) ∧ (∀ i, i < n → q i < k) ∧ q12 q n z' ∧ pm_lay W kd X ca z' ∧ ∀ c, c ≠ 12 → z'.1 c = z.1 c)
    (E := fun a _ z' => ∃ q n, a = nI n ∧ qS W H b kd ca X q n 0 X (fun _ => False) ∧ q12 q n z' ∧ pm_lay W kd X ca z' ∧ ∀ c, c ≠ 12 → z'.1 c = z.1 c)
    (G := fun a _ z' => Md_allRun_37 a z') (by
      rintro self d a p z' ⟨q, n, k, hd, rfl, rfl, h1, h2, h3, h4, h5⟩
      unfold Md_allRun_4 Md_allRun_31
      by_cases c : 64 ≤ k
      · left
        have hS : qS W H b kd ca X q n 0 X (fun _ => False) := by
          obtain ⟨a1, a2, a3, a4, a5, a6, a7⟩ := h1
          refine ⟨a1, a2, a3, a4, fun t ht p1 p2 => ?_, a6, a7⟩
          rcases a5 t ht p1 p2 with e | e
          · exact Or.inl e
          · omega
        exact ⟨⟨q, n, rfl, hS, h3, h4, h5⟩, by rw [if_pos (nI_le c (by omega))]⟩
      · right
        have r1 := h5 1 (by decide)
        rw [if_neg (by rw [nI_leP (by decide) (by omega)]; exact c), Md_isLoose_eq (by rw [r1]; exact w1) (by rw [r1]; exact w2) hH h4 k (by omega), pj_cS, ib0, nI_add]
        cases r : (X k && !hl W H b kd ca X k)
        · rw [if_neg Bool.false_ne_true, nI_add, pj_bI]
          exact ⟨d - 1, _, _, z', by omega, ⟨q, n, k + 1, by omega, rfl, rfl, (h1.pass (v := k) (Or.inl r)).exc_mono (fun t h => by omega), fun i hi => by have := h2 i hi; omega, h3, h4, h5⟩, rfl⟩
        · have nm : ¬ ∃ i, i < n ∧ q i = k := fun ⟨i, hi, e⟩ => by have := h2 i hi; omega
          simp only [Bool.and_eq_true, Bool.not_eq_true'] at r
          have P := h1.push (v := k) (by omega) r.1 r.2 nm (q2 := fun i => if i = n then k else q i) (fun i hi => if_neg (by omega)) (if_pos rfl)
          have n64 := P.le
          rw [if_pos rfl, pj_gIn (n := n) (by omega) (by decide), nI_clamp (n := n) (by omega), pj_bI, nI_add, pj_bI, pj_bI]
          refine ⟨d - 1, _, _, _, by omega, ⟨_, n + 1, k + 1, by omega, rfl, rfl, P.exc_mono (fun t h => by omega), fun i hi => ?_, fun i hi => ?_, h4.c (fun c hc => ag_n _ _ _ _ hc), fun c hc => ?_⟩, rfl⟩
          · show (if i = n then k else q i) < k + 1
            by_cases ci : i = n
            · rw [if_pos ci]; omega
            · rw [if_neg ci]; have := h2 i (by omega); omega
          · rw [ag_1]
            by_cases ci : i = n
            · subst ci; rw [upd_s]; exact congrArg nI (if_pos rfl).symm
            · rw [upd_ne ci]; exact (h3 i (by omega)).trans (congrArg nI (if_neg ci).symm)
          · rw [ag_n _ _ _ _ hc]; exact h5 c hc)
    4000 64 (nI 0) (nI 0) z ⟨fun _ => 0, 0, 0, by omega, rfl, rfl, ⟨by omega, fun i hi => absurd hi (by omega), fun i j _ hj => absurd hj (by omega), fun t => ⟨fun h => ⟨h, fun i hi => absurd hi (by omega)⟩, fun h => h.1⟩, fun t _ _ _ => Or.inr (by omega), fun i _ hi => absurd hi (by omega), fun _ _ _ i hi => absurd hi (by omega)⟩, fun i hi => absurd hi (by omega), fun i hi => absurd hi (by omega), hL, fun _ _ => rfl⟩ (by decide)
  rw [e]
  have r1 := c1 1 (by decide)
  obtain ⟨q2, n2, z2, he2, f, S2, Q2, L2, c2⟩ := Md_allRun_37_eq (z := z1) hH hW (by rw [r1]; exact w0) (by rw [r1]; exact w1) (by rw [r1]; exact w2) (by rw [r1]; exact hk) hk4 L1 Q1 S1
  obtain ⟨a1, a2, a3, a4, a5, a6, a7⟩ := S2
  have fix : he2 = itr W H b kd ca H X := by
    funext t
    refine itr_uniq hW hX (fun s hs => ((a4 s).mp hs).1) (fun s hs => ?_) (fun Y y1 y2 s hs => (a4 s).mpr ⟨y1 s hs, fun i hi e => ?_⟩) t
    · cases p : hl W H b kd ca he2 s
      · have st := stit_48 hH.2 (hX s ((a4 s).mp hs).1)
        rcases a5 s (by omega) hs p with ⟨i, hi, e⟩ | e
        · exact absurd e (((a4 s).mp hs).2 i hi)
        · exact e.elim
      · rfl
    · have := a7 Y y1 y2 i hi
      rw [e, hs] at this; cases this
  refine ⟨q2, n2, z2, f, fun c c9 c11 c12 => (c2 c c9 c11 c12).trans (c1 c c12), memq_le (fun i hi => (a2 i hi).1) a3, Q2, fun i hi => (a2 i hi).1, a3, fun t => ?_, by rw [← fix]; exact L2⟩
  rw [← fix]
  constructor
  · rintro ⟨i, hi, rfl⟩
    refine ⟨(a2 i hi).2, ?_⟩
    cases p : he2 (q2 i)
    · rfl
    · exact absurd rfl (((a4 _).mp p).2 i hi)
  · rintro ⟨h1, h2⟩
    cases p : memq q2 n2 t
    · exfalso
      have : he2 t = true := (a4 t).mpr ⟨h1, fun i hi e => by
        have := (memq_iff n2).mpr ⟨i, hi, e⟩
        rw [p] at this; cases this⟩
      rw [h2] at this; cases this
    · exact (memq_iff n2).mp p
end AR
