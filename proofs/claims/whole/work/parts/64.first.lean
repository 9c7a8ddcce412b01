/-! first -/
def eqN (X Y : Nat → Bool) : Nat → Bool
  | 0 => true
  | n + 1 => eqN X Y n && (X n == Y n)
theorem eqN_iff {X Y : Nat → Bool} : ∀ n, eqN X Y n = true ↔ ∀ u, u < n → X u = Y u
  | 0 => ⟨fun _ u hu => absurd hu (Nat.not_lt_zero u), fun _ => rfl⟩
  | n + 1 => by
    unfold eqN
    rw [Bool.and_eq_true, eqN_iff n, beq_iff_eq]
    constructor
    · rintro ⟨h1, h2⟩ u hu
      by_cases c : u = n
      · subst c; exact h2
      · exact h1 u (by omega)
    · intro h
      exact ⟨fun u hu => h u (by omega), h n (by omega)⟩
/-- the cloth would stand so if t had gone first -/
def FS (W H : Nat) (b : Bool) (kd : Nat → Nat) (ca he : Nat → Bool) (t : Nat) : Bool := eqN (itr W H b kd ca H (fun i => stit W H i && !decide (i = t))) he 64
theorem Md_isSoBy_53_eq {z : pj_S} {X he : Nat → Bool} (h9 : ∀ i, i < 64 → z.1 9 i = b2i (X i)) (h1 : ∀ i, i < 64 → z.1 1 (74 + i) = b2i (he i)) : pj_lp1 Md_isSoBy_53 4000 (nI 0) z = some (b2i (eqN X he 64), z) := by
  obtain ⟨p, z2, ⟨rfl, k, rfl, e1, e2⟩, e⟩ := pj_loop1 (F := Md_isSoBy_53)
    (P := fun d p z' => z' = z ∧ ∃ k, k + d = 64 ∧ p = nI k ∧ ∀ u, u < k → X u = he u)
    (E := fun p z' => z' = z ∧ ∃ k, p = nI k ∧ (∀ u, u < k → X u = he u) ∧ (k = 64 ∨ (k < 64 ∧ X k ≠ he k)))
    (G := fun p z' => if nI 64 ≤ p then some (nI 1, z') else some (nI 0, z')) (by
      rintro self d p z' ⟨rfl, k, hk, rfl, h2⟩
      unfold Md_isSoBy_53
      by_cases c : 64 ≤ k
      · left
        refine ⟨⟨rfl, k, rfl, h2, Or.inl (by omega)⟩, ?_⟩
        rw [if_pos (nI_le c (by omega)), if_pos (nI_le c (by omega))]; rfl
      · have nle : ¬ nI 64 ≤ nI k := by rw [nI_leP (by decide) (by omega)]; exact c
        have i1 : nI 74 + nI k = nI (74 + k) := by rw [nI_add]
        rw [if_neg nle, pj_gIn (n := k) (by omega) (by decide), i1, pj_gIn (n := 74 + k) (by omega) (by decide), nI_clamp (n := k) (by omega), nI_clamp (n := 74 + k) (by omega), h9 k (by omega), h1 k (by omega)]
        by_cases c2 : X k = he k
        · right
          rw [if_pos (by rw [c2]), nI_add, pj_bI]
          refine ⟨d - 1, _, _, by omega, ⟨rfl, k + 1, by omega, rfl, fun u hu => ?_⟩, rfl⟩
          by_cases cu : u = k
          · subst cu; exact c2
          · exact h2 u (by omega)
        · left
          refine ⟨⟨rfl, k, rfl, h2, Or.inr ⟨by omega, c2⟩⟩, ?_⟩
          rw [if_neg (by rw [b2i_inj]; exact c2), if_neg nle]; rfl)
    4000 64 (nI 0) z ⟨rfl, 0, by omega, rfl, fun u hu => absurd hu (by omega)⟩ (by decide)
  rw [e]
  rcases e2 with rfl | ⟨e2, e3⟩
  · rw [if_pos (nI_le (by decide) (by decide)), (eqN_iff 64).mpr e1]; rfl
  · have ne : eqN X he 64 = false := by
      cases c : eqN X he 64
      · rfl
      · exact absurd ((eqN_iff 64).mp c k e2) e3
    rw [if_neg (by rw [nI_leP (by decide) (by omega)]; omega), ne]; rfl
theorem Md_isSoBy_eq {W H : Nat} {b : Bool} {kd : Nat → Nat} {ca he : Nat → Bool} {z : pj_S} (hW : 2 ≤ W ∧ W ≤ 6 ∧ 2 ≤ H ∧ H ≤ 6) (w0 : z.1 1 0 = nI W) (w1 : z.1 1 1 = nI H) (w2 : z.1 1 2 = b2i b) (hk : ∀ s, s < 64 → z.1 1 (10 + s) = nI (kd s)) (hk4 : ∀ s, kd s < 4)
    (h6 : ∀ i, i < 64 → z.1 1 (74 + i) = b2i (he i)) (h7 : ∀ i, i < 64 → z.1 1 (138 + i) = b2i (ca i)) (s : Nat) (hs : s < 64) (st : stit W H s = true) :
    ∃ z2, Md_isSoBy (nI s) z = some (b2i (FS W H b kd ca he s), z2) ∧ ∀ c, c < 9 → z2.1 c = z.1 c := by
  unfold Md_isSoBy
  obtain ⟨z1, y1, y2, y3⟩ := Md_laysNow_eq z
  rw [y1, pj_cS]
  have q1 : z1.1 1 = z.1 1 := y2 1 (by decide) (by decide)
  obtain ⟨a, p, z2, ⟨rfl, e1, e2⟩, e⟩ := pj_loop2 (F := Md_isSoBy_6)
    (P := fun d a p z' => a = nI s ∧ ∃ k, k + d = 64 ∧ p = nI k ∧ (∀ c, c ≠ 9 → z'.1 c = z1.1 c) ∧ ∀ i, i < k → z'.1 9 i = b2i (stit W H i))
    (E := fun a _ z' => a = nI s ∧ (∀ c, c ≠ 9 → z'.1 c = z1.1 c) ∧ ∀ i, i < 64 → z'.1 9 i = b2i (stit W H i))
    (G := fun a _ z' => Md_isSoBy_37 a z') (by
      rintro self d a p z' ⟨rfl, k, hk', rfl, h1, h2⟩
      unfold Md_isSoBy_6 Md_isSoBy_30
      by_cases c : 64 ≤ k
      · left
        have : k = 64 := by omega
        subst this
        exact ⟨⟨rfl, h1, h2⟩, by rw [if_pos (nI_le c (by decide))]⟩
      · right
        have r1 := (h1 1 (by decide)).trans q1
        rw [if_neg (by rw [nI_leP (by decide) (by omega)]; exact c), Md_isStitch_eq (by rw [r1]; exact w0) (by rw [r1]; exact w1) ⟨hW.2.1, hW.2.2.2⟩, pj_cS, ib0, stI_k (by omega), pj_gIn (n := k) (by omega) (by decide), pj_gIn (n := k) (by omega) (by decide), nI_clamp (n := k) (by omega), nI_add]
        have t : decide (k < 64) = true := by simp; omega
        rw [t, Bool.true_and]
        have key : ∀ v : Int32, v = b2i (stit W H k) → ∃ (d2 : Nat) (b0 b1 : Int32) (z2 : pj_S), d2 < d ∧ (b0 = nI s ∧ ∃ k, k + d2 = 64 ∧ b1 = nI k ∧ (∀ c, c ≠ 9 → z2.1 c = z1.1 c) ∧ ∀ i, i < k → z2.1 9 i = b2i (stit W H i)) ∧ self (nI s) (nI (k + 1)) (pj_sI z' 9 k v) = self b0 b1 z2 := fun v hv => by
          refine ⟨d - 1, _, _, _, by omega, ⟨rfl, k + 1, by omega, rfl, fun c hc => ?_, fun i hi => ?_⟩, rfl⟩
          · rw [ag_n _ _ _ _ hc]; exact h1 c hc
          · rw [ag_1]
            by_cases ci : i = k
            · subst ci; rw [upd_s, hv]
            · rw [upd_ne ci]; exact h2 i (by omega)
        cases q : stit W H k
        · rw [if_neg Bool.false_ne_true]
          exact key (nI 0) (by rw [q]; rfl)
        · rw [if_pos rfl]
          exact key (nI 1) (by rw [q]; rfl))
    4000 64 (nI s) (nI 0) z1 ⟨rfl, 0, by omega, rfl, fun _ _ => rfl, fun i hi => absurd hi (by omega)⟩ (by decide)
  rw [e]
  unfold Md_isSoBy_37
  have q2 : z2.1 1 = z.1 1 := (e1 1 (by decide)).trans q1
  obtain ⟨z3, v1, v2, v3⟩ := Md_laysHolders_eq (W := W) (kd := kd) (he := stit W H) (z := z2) (by rw [q2]; exact w0) hW.2.1 (by rw [q2]; exact hk) hk4 e2
  have q3 : z3.1 1 = z.1 1 := (v2 1 (by decide)).trans q2
  have L3 : pm_lay W kd (stit W H) ca z3 := ⟨fun i hi => by rw [v2 9 (by decide)]; exact e2 i hi, fun i hi => by rw [v2 10 (by decide), e1 10 (by decide), (y3 i hi).2]; exact h7 i hi, v3⟩
  obtain ⟨z4, u1, u2, u3⟩ := Md_goes_eq (z := z3) (by rw [q3]; exact w0) hW.2.1 (by rw [q3]; exact hk) hk4 L3 s hs st
  have q4 : z4.1 1 = z.1 1 := (u2 1 (by decide) (by decide)).trans q3
  obtain ⟨q, k, z5, f1, f2, f3, f4, f5, f6, f7, f8⟩ := Md_allRun_eq (b := b) (z := z4) hW.2.2 hW.2.1 (by rw [q4]; exact w0) (by rw [q4]; exact w1) (by rw [q4]; exact w2) (by rw [q4]; exact hk) hk4 u3 (fun i hi => by simp only [Bool.and_eq_true] at hi; exact hi.1)
  have q5 : z5.1 1 = z.1 1 := (f2 1 (by decide) (by decide) (by decide)).trans q4
  rw [v1, pj_cS, u1, pj_cS, f1, pj_cS, Md_isSoBy_53_eq f8.1 (fun i hi => by rw [q5]; exact h6 i hi)]
  exact ⟨z5, rfl, fun c hc => by rw [f2 c (by omega) (by omega) (by omega), u2 c (by omega) (by omega), v2 c (by omega), e1 c (by omega), y2 c (by omega) (by omega)]⟩
theorem Fabric_firsts_eq {W H : Nat} {b : Bool} {z : pj_S} {w : Nat → Int32} (hF : pa_F W H b (z.1 8) (z.2 8) w) : ∃ r, Fabric_firsts z = some (r, z) ∧ ∀ t, t < 64 → tb r t = (stit W H t && FS W H b (kdb (tb (z.2 8 4)) (tb (z.2 8 5))) (tb (z.2 8 7)) (tb (z.2 8 6)) t) := by
  unfold Fabric_firsts
  obtain ⟨r, p, z2, ⟨rfl, e1⟩, e⟩ := pj_loop2 (F := Fabric_firsts_4)
    (P := fun d v p z' => z' = z ∧ ∃ k, k + d = 48 ∧ p = nI k ∧ ∀ t, t < 64 → tb v t = (decide (t < k) && (stit W H t && FS W H b (kdb (tb (z.2 8 4)) (tb (z.2 8 5))) (tb (z.2 8 7)) (tb (z.2 8 6)) t)))
    (E := fun v _ z' => z' = z ∧ ∀ t, t < 64 → tb v t = (stit W H t && FS W H b (kdb (tb (z.2 8 4)) (tb (z.2 8 5))) (tb (z.2 8 7)) (tb (z.2 8 6)) t))
    (G := fun v _ z' => some (v, z')) (by
      rintro self d v p z' ⟨rfl, k, hk, rfl, h1⟩
      unfold Fabric_firsts_4 Fabric_firsts_61 Fabric_firsts_55
      by_cases c : 48 ≤ k
      · left
        refine ⟨⟨rfl, fun t ht => ?_⟩, by rw [if_pos (nI_le c (by omega))]⟩
        rw [h1 t ht]
        cases q : stit W H t
        · simp
        · have := stit_48 hF.1.2.2.2 q
          have t' : decide (t < k) = true := by simp; omega
          rw [t', Bool.true_and]
      · right
        rw [if_neg (by rw [nI_leP (by decide) (by omega)]; exact c), pj_bI, Fabric_has_eq hF, pj_cS, ib0, stI_k (by omega), nI_add]
        have t : decide (k < 64) = true := by simp; omega
        rw [t, Bool.true_and]
        have key : ∀ v2 : Int64, (∀ t, t < 64 → tb v2 t = if t = k then (stit W H k && FS W H b (kdb (tb (z'.2 8 4)) (tb (z'.2 8 5))) (tb (z'.2 8 7)) (tb (z'.2 8 6)) k) else tb v t) → ∃ (d2 : Nat) (b0 : Int64) (b1 : Int32) (z2 : pj_S), d2 < d ∧ (z2 = z' ∧ ∃ k, k + d2 = 48 ∧ b1 = nI k ∧ ∀ t, t < 64 → tb b0 t = (decide (t < k) && (stit W H t && FS W H b (kdb (tb (z'.2 8 4)) (tb (z'.2 8 5))) (tb (z'.2 8 7)) (tb (z'.2 8 6)) t))) ∧ self v2 (nI (k + 1)) z' = self b0 b1 z2 := fun v2 hv => by
          refine ⟨d - 1, _, _, _, by omega, ⟨rfl, k + 1, by omega, rfl, fun t ht => ?_⟩, rfl⟩
          rw [hv t ht]
          by_cases ct : t = k
          · subst ct
            rw [if_pos rfl]
            simp
          · rw [if_neg ct, h1 t ht]
            have : decide (t < k) = decide (t < k + 1) := by by_cases l : t < k <;> simp [l] <;> omega
            rw [this]
        have old : tb v k = false := by rw [h1 k (by omega)]; simp
        cases q : stit W H k
        · rw [if_neg Bool.false_ne_true, pj_bI]
          refine key v (fun t ht => ?_)
          by_cases ct : t = k
          · subst ct; rw [if_pos rfl, q, old]; rfl
          · rw [if_neg ct]
        · rw [if_pos rfl]
          have hx4 : ∀ i, i < 64 → tb ((z'.2 8 3) &&& ((pj_shlL (1 : Int64) (nI k)) ^^^ (-1 : Int64))) i = (stit W H i && !decide (i = k)) := fun i hi => by
            rw [tb_and, tb_not _ _ hi, tb_bit k (by omega), hF.2.2.1 i hi]
          obtain ⟨r7, e7, er7⟩ := Fabric_inTheEnd_eq hF ((z'.2 8 3) &&& ((pj_shlL (1 : Int64) (nI k)) ^^^ (-1 : Int64))) (z'.2 8 7) (fun i hi p => by
            rw [hx4 i hi] at p
            simp only [Bool.and_eq_true] at p
            exact p.1)
          have xe : tb ((z'.2 8 3) &&& ((pj_shlL (1 : Int64) (nI k)) ^^^ (-1 : Int64))) = fun i => stit W H i && !decide (i = k) := by
            funext i
            by_cases c : i < 64
            · exact hx4 i c
            · rw [tb_ge (by omega)]
              cases s : stit W H i
              · rfl
              · have := stit_48 hF.1.2.2.2 s; omega
          rw [xe] at er7
          have fs : (r7 = z'.2 8 6) ↔ FS W H b (kdb (tb (z'.2 8 4)) (tb (z'.2 8 5))) (tb (z'.2 8 7)) (tb (z'.2 8 6)) k = true := by
            unfold FS
            rw [eqN_iff]
            constructor
            · intro e u hu
              rw [← er7 u hu, e]
            · intro e
              apply tb_ext
              intro i hi
              rw [er7 i hi, e i hi]
          rw [e7, pj_cS]
          cases f : FS W H b (kdb (tb (z'.2 8 4)) (tb (z'.2 8 5))) (tb (z'.2 8 7)) (tb (z'.2 8 6)) k
          · rw [if_neg (fun p => by have := fs.mp ((lg_cmp_eq _ _).mp p); rw [f] at this; cases this), pj_bI]
            refine key v (fun t ht => ?_)
            by_cases ct : t = k
            · subst ct; rw [if_pos rfl, q, f, old]; rfl
            · rw [if_neg ct]
          · rw [if_pos ((lg_cmp_eq _ _).mpr (fs.mpr f)), pj_bI, pj_bI]
            refine key _ (fun t ht => ?_)
            rw [tb_set _ k (by omega), q, f]
            rfl)
    4000 48 0 (nI 0) z ⟨rfl, 0, by omega, rfl, fun t ht => by rw [tb_0]; simp⟩ (by decide)
  exact ⟨r, e, e1⟩
