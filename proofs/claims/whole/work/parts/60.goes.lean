/-! a stitch goes in the model's rows; the queue -/
theorem hc_del {W : Nat} {kd : Nat → Nat} {X Y : Nat → Bool} {s : Nat} (hs : s < 64) (h : X s = true) (hY : ∀ i, Y i = (X i && !decide (i = s))) (t : Nat) :
    hc W kd X t 64 = hc W kd Y t 64 + (if d1 W kd s = some t then 1 else 0) + (if d2 W kd s = some t then 1 else 0) := by
  have key : ∀ D : Nat → Option Nat, cnt (fun i => X i && decide (D i = some t)) 64 = cnt (fun i => Y i && decide (D i = some t)) 64 + (if D s = some t then 1 else 0) := fun D => by
    by_cases c : D s = some t
    · rw [if_pos c, cnt_set (f := fun i => Y i && decide (D i = some t)) (b := s) (by rw [hY s]; simp) (fun i => ?_), if_pos hs]
      skip
      rw [hY i]
      by_cases ci : i = s
      · subst ci; simp [h, c]
      · simp [ci]
    · rw [if_neg c, Nat.add_zero]
      apply cnt_congr
      intro i _
      rw [hY i]
      by_cases ci : i = s
      · subst ci; simp [c]
      · simp [ci]
  unfold hc
  rw [key (d1 W kd), key (d2 W kd)]
  omega
theorem nI_dec {c : Nat} (h : 1 ≤ c) : nI c + (-1) = nI (c - 1) := by
  have e : (-1 : Int32) = 0 - nI 1 := by decide
  have : nI c + (-1) = nI c - nI 1 := by
    rw [e, Int32.sub_eq_add_neg, Int32.sub_eq_add_neg, Int32.zero_add]
  rw [this, pk_sub h]
theorem Md_goes_eq {W : Nat} {kd : Nat → Nat} {he ca : Nat → Bool} {z : pj_S} (w0 : z.1 1 0 = nI W) (hW : W ≤ 6) (hk : ∀ s, s < 64 → z.1 1 (10 + s) = nI (kd s)) (hk4 : ∀ s, kd s < 4) (hl' : pm_lay W kd he ca z) (s : Nat) (hs : s < 64) (h : he s = true) :
    ∃ z2, Md_goes (nI s) z = some ((), z2) ∧ (∀ c, c ≠ 9 → c ≠ 11 → z2.1 c = z.1 c) ∧ pm_lay W kd (fun i => he i && !decide (i = s)) ca z2 := by
  obtain ⟨l1, l2, l3⟩ := hl'
  unfold Md_goes
  rw [pj_gIn (n := s) hs (by decide), nI_clamp (n := s) (by omega), pj_bI]
  obtain ⟨z2, e, e1, e2⟩ := Md_holds_eq (W := W) (kd := kd) (z := pj_sI z 9 s (nI 0)) w0 hW s hs (hk s hs) (hk4 s) (-1)
  rw [e, pj_cS]
  have hd := fun t => hc_del (W := W) (kd := kd) (X := he) (Y := fun i => he i && !decide (i = s)) hs h (fun _ => rfl) t
  refine ⟨z2, rfl, fun c c9 c11 => ?_, fun i hi => ?_, fun i hi => ?_, fun t ht => ?_⟩
  · rw [e1 c c11, ag_n _ _ _ _ c9]
  · rw [e1 9 (by decide), ag_1]
    by_cases ci : i = s
    · subst ci; rw [upd_s]; simp [b2i]
    · rw [upd_ne ci, l1 i hi]; simp [ci]
  · rw [e1 10 (by decide), ag_n _ _ _ _ (by decide)]; exact l2 i hi
  · have := hd t
    rw [e2 t ht, ag_n _ _ _ _ (by decide), l3 t ht]
    by_cases c1 : d1 W kd s = some t
    · by_cases c2 : d2 W kd s = some t
      · rw [if_pos c1, if_pos c2] at this
        rw [if_pos c2, if_pos c1, nI_dec (by omega), nI_dec (by omega), this]
        congr 1
      · rw [if_pos c1, if_neg c2] at this
        rw [if_neg c2, if_pos c1, nI_dec (by omega), this]
        congr 1
    · by_cases c2 : d2 W kd s = some t
      · rw [if_neg c1, if_pos c2] at this
        rw [if_pos c2, if_neg c1, nI_dec (by omega), this]
        congr 1
      · rw [if_neg c1, if_neg c2] at this
        rw [if_neg c2, if_neg c1, this]
        congr 1
theorem Md_isQueued_eq {z : pj_S} (q : Nat → Nat) (n v : Nat) (hn : n ≤ 64) (hv : v < 64) (hq : ∀ i, i < n → q i < 64 ∧ z.1 12 i = nI (q i)) : ∃ c : Bool, Md_isQueued (nI v) (nI n) z = some (b2i c, z) ∧ (c = true ↔ ∃ i, i < n ∧ q i = v) := by
  unfold Md_isQueued
  obtain ⟨a, b, k, z2, ⟨rfl, rfl, rfl, k', rfl, e1, e2⟩, e⟩ := pj_loop3 (F := Md_isQueued_2)
    (P := fun d a b p z' => a = nI v ∧ b = nI n ∧ z' = z ∧ ∃ k, k + d = n ∧ p = nI k ∧ ∀ i, i < k → q i ≠ v)
    (E := fun a b p z' => a = nI v ∧ b = nI n ∧ z' = z ∧ ∃ k, p = nI k ∧ (∀ i, i < k → q i ≠ v) ∧ (k = n ∨ (k < n ∧ q k = v)))
    (G := fun _ b p z' => if b ≤ p then some (nI 0, z') else some (nI 1, z')) (by
      rintro self d a b p z' ⟨rfl, rfl, rfl, k, hk, rfl, h1⟩
      unfold Md_isQueued_2
      rw [pj_gB0, pj_gB1]
      by_cases c : n ≤ k
      · left
        refine ⟨⟨rfl, rfl, rfl, k, rfl, h1, Or.inl (by omega)⟩, ?_⟩
        rw [if_pos (nI_le c (by omega)), if_pos (nI_le c (by omega))]
      · obtain ⟨q1, q2⟩ := hq k (by omega)
        have nle : ¬ nI n ≤ nI k := by rw [nI_leP (by omega) (by omega)]; exact c
        rw [if_neg nle, pj_gIn (n := k) (by omega) (by decide), nI_clamp (n := k) (by omega), q2]
        by_cases c2 : q k = v
        · left
          refine ⟨⟨rfl, rfl, rfl, k, rfl, h1, Or.inr ⟨by omega, c2⟩⟩, ?_⟩
          rw [if_pos (by rw [c2]), if_neg nle]
        · right
          rw [if_neg (by rw [nI_P (by omega) (by omega)]; exact c2), nI_add, pj_bI]
          refine ⟨d - 1, _, _, _, _, by omega, ⟨rfl, rfl, rfl, k + 1, by omega, rfl, fun i hi => ?_⟩, rfl⟩
          by_cases ci : i = k
          · subst ci; exact c2
          · exact h1 i (by omega))
    4000 n (nI v) (nI n) (nI 0) z ⟨rfl, rfl, rfl, 0, by omega, rfl, fun i hi => absurd hi (by omega)⟩ (by omega)
  rcases e2 with rfl | ⟨e2, e3⟩
  · refine ⟨false, ?_, ?_⟩
    · rw [e, if_pos (nI_le (Nat.le_refl _) (by omega))]; rfl
    · constructor
      · intro h; cases h
      · rintro ⟨i, hi, h⟩; exact absurd h (e1 i hi)
  · refine ⟨true, ?_, ?_⟩
    · rw [e, if_neg (by rw [nI_leP (by omega) (by omega)]; omega)]; rfl
    · exact ⟨fun _ => ⟨k', e2, e3⟩, fun _ => rfl⟩
