/-! what is left in the end -/
theorem cnt_mono {f g : Nat → Bool} : ∀ n, (∀ i, i < n → f i = true → g i = true) → cnt f n ≤ cnt g n
  | 0, _ => Nat.le_refl _
  | n + 1, h => by
    have ih := cnt_mono n (fun i hi => h i (by omega))
    unfold cnt
    cases q : f n
    · simp; omega
    · rw [h n (by omega) q]; simp; omega
theorem hc_mono {W : Nat} {kd : Nat → Nat} {X Y : Nat → Bool} (h : ∀ s, X s = true → Y s = true) (t n : Nat) : hc W kd X t n ≤ hc W kd Y t n := by
  unfold hc
  have a := cnt_mono (f := fun s => X s && decide (d1 W kd s = some t)) (g := fun s => Y s && decide (d1 W kd s = some t)) n (fun i _ hi => by
    simp only [Bool.and_eq_true] at hi ⊢; exact ⟨h i hi.1, hi.2⟩)
  have b := cnt_mono (f := fun s => X s && decide (d2 W kd s = some t)) (g := fun s => Y s && decide (d2 W kd s = some t)) n (fun i _ hi => by
    simp only [Bool.and_eq_true] at hi ⊢; exact ⟨h i hi.1, hi.2⟩)
  omega
theorem hl_mono {W H : Nat} {b : Bool} {kd : Nat → Nat} {ca X Y : Nat → Bool} (h : ∀ s, X s = true → Y s = true) (t : Nat) (ht : hl W H b kd ca X t = true) : hl W H b kd ca Y t = true := by
  unfold hl at ht ⊢
  have := hc_mono (W := W) (kd := kd) h t 64
  simp only [Bool.and_eq_true, Bool.or_eq_true, decide_eq_true_eq] at ht ⊢
  refine ⟨h t ht.1, ?_⟩
  rcases ht.2 with q | q
  · exact Or.inl q
  · exact Or.inr (by omega)
theorem hl_sub {W H : Nat} {b : Bool} {kd : Nat → Nat} {ca X : Nat → Bool} (t : Nat) (ht : hl W H b kd ca X t = true) : X t = true := by
  unfold hl at ht
  simp only [Bool.and_eq_true] at ht
  exact ht.1
def itr (W H : Nat) (b : Bool) (kd : Nat → Nat) (ca : Nat → Bool) : Nat → (Nat → Bool) → Nat → Bool
  | 0, X => X
  | n + 1, X => hl W H b kd ca (itr W H b kd ca n X)
theorem itr_sub {W H : Nat} {b : Bool} {kd : Nat → Nat} {ca X : Nat → Bool} : ∀ n t, itr W H b kd ca n X t = true → X t = true
  | 0, _, h => h
  | n + 1, t, h => itr_sub n t (hl_sub t h)
/-- what keeps itself is kept -/
theorem itr_up {W H : Nat} {b : Bool} {kd : Nat → Nat} {ca X Y : Nat → Bool} (h1 : ∀ s, Y s = true → X s = true) (h2 : ∀ s, Y s = true → hl W H b kd ca Y s = true) : ∀ n t, Y t = true → itr W H b kd ca n X t = true
  | 0, t, h => h1 t h
  | n + 1, t, h => hl_mono (itr_up h1 h2 n) t (h2 t h)
theorem d1_row {W : Nat} {kd : Nat → Nat} {s t : Nat} (hW : W ≤ 6) (hs : s % 8 < W) (h : d1 W kd s = some t) : s / 8 = t / 8 + 1 := by
  unfold d1 at h
  by_cases c8 : s < 8
  · rw [if_pos c8] at h; cases h
  · rw [if_neg c8] at h
    by_cases c2 : kd s = 2
    · rw [if_pos c2] at h; cases h
    · rw [if_neg c2] at h
      by_cases c1 : kd s = 1
      · rw [if_pos c1] at h
        by_cases co : s % 8 % 2 = 1
        · rw [if_pos co] at h; have := Option.some.inj h; omega
        · rw [if_neg co] at h
          by_cases cw : W ≤ s % 8 + 1
          · rw [if_pos cw] at h; have := Option.some.inj h; omega
          · rw [if_neg cw] at h; have := Option.some.inj h; omega
      · rw [if_neg c1] at h; have := Option.some.inj h; omega
theorem d2_row {W : Nat} {kd : Nat → Nat} {s t : Nat} (hW : W ≤ 6) (hs : s % 8 < W) (h : d2 W kd s = some t) : s / 8 = t / 8 + 1 := by
  unfold d2 at h
  by_cases c8 : s < 8
  · rw [if_pos c8] at h; cases h
  · rw [if_neg c8] at h
    by_cases c3 : kd s = 3
    · rw [if_pos c3] at h
      by_cases cw : W ≤ s % 8 + 1
      · rw [if_pos cw] at h; cases h
      · rw [if_neg cw] at h; have := Option.some.inj h; omega
    · rw [if_neg c3] at h; cases h
theorem hc_row {W H : Nat} (hW : W ≤ 6) {kd : Nat → Nat} {X Y : Nat → Bool} (hX : ∀ s, X s = true → stit W H s = true) (hY : ∀ s, Y s = true → stit W H s = true) (t : Nat) (h : ∀ s, s / 8 = t / 8 + 1 → X s = Y s) : hc W kd X t 64 = hc W kd Y t 64 := by
  have key : ∀ s, s % 8 < W ∨ (X s = false ∧ Y s = false) := fun s => by
    by_cases c : s % 8 < W
    · exact Or.inl c
    · right
      constructor
      · cases q : X s
        · rfl
        · have := hX s q; unfold stit at this; simp only [Bool.and_eq_true, decide_eq_true_eq] at this; exact absurd this.1 c
      · cases q : Y s
        · rfl
        · have := hY s q; unfold stit at this; simp only [Bool.and_eq_true, decide_eq_true_eq] at this; exact absurd this.1 c
  unfold hc
  congr 1
  · apply cnt_congr
    intro s _
    rcases key s with k | ⟨k1, k2⟩
    · by_cases c : d1 W kd s = some t
      · rw [h s (d1_row hW k c)]
      · simp [c]
    · rw [k1, k2]
  · apply cnt_congr
    intro s _
    rcases key s with k | ⟨k1, k2⟩
    · by_cases c : d2 W kd s = some t
      · rw [h s (d2_row hW k c)]
      · simp [c]
    · rw [k1, k2]
theorem itr_st {W H : Nat} {b : Bool} (hW : W ≤ 6) {kd : Nat → Nat} {ca X : Nat → Bool} (hX : ∀ s, X s = true → stit W H s = true) : ∀ n t, H ≤ t / 8 + n → itr W H b kd ca (n + 1) X t = itr W H b kd ca n X t
  | 0, t, h => by
    have x0 : X t = false := by
      cases q : X t
      · rfl
      · have := hX t q
        unfold stit at this
        simp only [Bool.and_eq_true, decide_eq_true_eq] at this
        omega
    show hl W H b kd ca X t = X t
    unfold hl
    rw [x0]
    rfl
  | n + 1, t, h => by
    have ih := fun s (hs : s / 8 = t / 8 + 1) => itr_st (b := b) (kd := kd) (ca := ca) hW hX n s (by omega)
    have e := hc_row (kd := kd) hW (fun s hs => hX s (itr_sub (b := b) (kd := kd) (ca := ca) (n + 1) s hs)) (fun s hs => hX s (itr_sub (b := b) (kd := kd) (ca := ca) n s hs)) t ih
    show hl W H b kd ca (itr W H b kd ca (n + 1) X) t = itr W H b kd ca (n + 1) X t
    unfold hl
    rw [e]
    have e2 : itr W H b kd ca (n + 1) X t = (itr W H b kd ca n X t && (ca t || (b && decide (t / 8 + 1 = H)) || decide (0 < hc W kd (itr W H b kd ca n X) t 64))) := rfl
    rw [e2]
    cases itr W H b kd ca n X t <;> cases (ca t || (b && decide (t / 8 + 1 = H)) || decide (0 < hc W kd (itr W H b kd ca n X) t 64)) <;> rfl
/-- the greatest set that keeps itself -/
theorem itr_fix {W H : Nat} {b : Bool} (hW : W ≤ 6) {kd : Nat → Nat} {ca X : Nat → Bool} (hX : ∀ s, X s = true → stit W H s = true) (t : Nat) : hl W H b kd ca (itr W H b kd ca H X) t = itr W H b kd ca H X t := itr_st hW hX H t (by omega)
theorem itr_uniq {W H : Nat} {b : Bool} (hW : W ≤ 6) {kd : Nat → Nat} {ca X R : Nat → Bool} (hX : ∀ s, X s = true → stit W H s = true) (h1 : ∀ s, R s = true → X s = true) (h2 : ∀ s, R s = true → hl W H b kd ca R s = true)
    (h3 : ∀ Y : Nat → Bool, (∀ s, Y s = true → X s = true) → (∀ s, Y s = true → hl W H b kd ca Y s = true) → ∀ s, Y s = true → R s = true) (t : Nat) : R t = itr W H b kd ca H X t := by
  rw [Bool.eq_iff_iff]
  constructor
  · exact itr_up h1 h2 H t
  · exact h3 _ (itr_sub H) (fun s hs => by rw [itr_fix hW hX]; exact hs) t
theorem hl_congr {W H : Nat} {b : Bool} {kd : Nat → Nat} {ca ca2 X Y : Nat → Bool} (h : ∀ s, s < 64 → X s = Y s) (hc' : ∀ s, s < 64 → ca s = ca2 s) (t : Nat) (ht : t < 64) : hl W H b kd ca X t = hl W H b kd ca2 Y t := by
  unfold hl
  rw [h t ht, hc' t ht]
  have : hc W kd X t 64 = hc W kd Y t 64 := by
    unfold hc
    congr 1
    · exact cnt_congr 64 (fun i hi => by rw [h i hi])
    · exact cnt_congr 64 (fun i hi => by rw [h i hi])
  rw [this]
theorem Fabric_inTheEnd_eq {W H : Nat} {b : Bool} {z : pj_S} {w : Nat → Int32} (hF : pa_F W H b (z.1 8) (z.2 8) w) (x y : Int64) (hx : ∀ s, s < 64 → tb x s = true → stit W H s = true) :
    ∃ r, Fabric_inTheEnd x y z = some (r, z) ∧ ∀ t, t < 64 → tb r t = itr W H b (kdb (tb (z.2 8 4)) (tb (z.2 8 5))) (tb y) H (tb x) t := by
  have hX : ∀ s, tb x s = true → stit W H s = true := fun s hs => by
    by_cases c : s < 64
    · exact hx s c hs
    · rw [tb_ge (by omega)] at hs; cases hs
  have hb := hF.1
  unfold Fabric_inTheEnd
  obtain ⟨a, r, k, z2, ⟨rfl, e1⟩, e⟩ := pj_loop3 (F := Fabric_inTheEnd_6)
    (P := fun d v3 v5 v7 z' => z' = z ∧ v3 = y ∧ ∃ k, k + d = H ∧ v7 = nI k ∧ ∀ t, t < 64 → tb v5 t = itr W H b (kdb (tb (z.2 8 4)) (tb (z.2 8 5))) (tb y) k (tb x) t)
    (E := fun _ v5 _ z' => z' = z ∧ ∀ t, t < 64 → tb v5 t = itr W H b (kdb (tb (z.2 8 4)) (tb (z.2 8 5))) (tb y) H (tb x) t)
    (G := fun _ v5 _ z' => some (v5, z')) (by
      rintro self d v3 v5 v7 z' ⟨rfl, rfl, k, hk, rfl, h1⟩
      unfold Fabric_inTheEnd_6 Fabric_inTheEnd_45 Fabric_inTheEnd_32
      rw [hF.2.1.2.1]
      by_cases c : H ≤ k
      · left
        have : k = H := by omega
        subst this
        exact ⟨⟨rfl, h1⟩, by rw [if_pos (nI_le c (by omega))]⟩
      · have hv : ∀ s, s < 64 → tb v5 s = true → stit W H s = true := fun s hs q => by
          rw [h1 s hs] at q
          exact hX s (itr_sub k s q)
        obtain ⟨r, e, er⟩ := Fabric_heldOf_eq hF v5 v3 hv
        have er2 : ∀ t, t < 64 → tb r t = itr W H b (kdb (tb (z'.2 8 4)) (tb (z'.2 8 5))) (tb v3) (k + 1) (tb x) t := fun t ht => by
          rw [er t ht]
          exact hl_congr h1 (fun _ _ => rfl) t ht
        rw [if_neg (by rw [nI_leP (by omega) (by omega)]; exact c), e, pj_cS]
        by_cases c2 : r = v5
        · left
          rw [if_pos ((lg_cmp_eq _ _).mpr c2)]
          refine ⟨⟨rfl, fun t ht => ?_⟩, rfl⟩
          subst c2
          refine itr_uniq hb.2.1 hX (fun s hs => ?_) (fun s hs => ?_) (fun Y y1 y2 s hs => ?_) t
          · by_cases c64 : s < 64
            · rw [h1 s c64] at hs; exact itr_sub k s hs
            · rw [tb_ge (by omega)] at hs; cases hs
          · by_cases c64 : s < 64
            · rw [← er s c64]; exact hs
            · rw [tb_ge (by omega)] at hs; cases hs
          · have st := stit_48 hb.2.2.2 (hX s (y1 s hs))
            rw [h1 s (by omega)]
            exact itr_up y1 y2 k s hs
        · right
          rw [if_neg (fun q => c2 ((lg_cmp_eq _ _).mp q)), nI_add, pj_bI]
          exact ⟨d - 1, _, _, _, _, by omega, ⟨rfl, rfl, k + 1, by omega, rfl, er2⟩, rfl⟩)
    4000 H y x (nI 0) z ⟨rfl, rfl, 0, by omega, rfl, fun _ _ => rfl⟩ (by omega)
  exact ⟨r, e, e1⟩
