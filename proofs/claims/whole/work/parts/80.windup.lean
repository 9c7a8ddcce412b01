/-! those that came out go, one by one -/
theorem agP.go {z z2 : pj_S} (h : agP z z2) (s nb : Nat) (how : Int32) : agP (pc_go z s nb how) (pc_go z2 s nb how) := fun c a b => by
  have e8 := (h 8 (by decide) (by decide)).2
  have e1 := (h 1 (by decide) (by decide)).1
  have h1 := (h c a b).1
  have h2 := (h c a b).2
  unfold pc_go
  dsimp only
  rw [e8, e1]
  by_cases q : nb < 100
  · rw [if_pos q, if_pos q]
    refine ⟨?_, ?_⟩
    · simp only [pj_sI1, pj_sJ1, h1]
    · simp only [pj_sI2, pj_sJ2, h2]
  · rw [if_neg q, if_neg q]
    refine ⟨h1, ?_⟩
    simp only [pj_sJ2, h2]
theorem agP.gos : ∀ (l : List Nat) {z z2 : pj_S} (nb : Nat), agP z z2 → agP (l.foldl goF (z, nb)).1 (l.foldl goF (z2, nb)).1 ∧ (l.foldl goF (z2, nb)).2 = (l.foldl goF (z, nb)).2
  | [], _, _, _, h => ⟨h, rfl⟩
  | s :: l, _, _, nb, h => agP.gos l (min (nb + 1) 100) (h.go s nb (nI 2))
theorem pc_go_c (z : pj_S) (s nb : Nat) (how : Int32) {c : Nat} (h : c ≠ 31 ∧ c ≠ 32 ∧ c ≠ 33 ∧ c ≠ 10) : (pc_go z s nb how).1 c = z.1 c := by
  unfold pc_go
  dsimp only
  by_cases q : nb < 100
  · rw [if_pos q, ag_n _ _ _ _ h.2.2.2, ag_n _ _ _ _ h.2.2.1, ag_n _ _ _ _ h.2.1, ag_n _ _ _ _ h.1]; rfl
  · rw [if_neg q]; rfl
theorem pc_go_2 (z : pj_S) (s nb : Nat) (how : Int32) {c : Nat} (h : c ≠ 8) : (pc_go z s nb how).2 c = z.2 c := by
  unfold pc_go
  dsimp only
  by_cases q : nb < 100
  · rw [if_pos q]; exact sJ_n _ _ _ _ h
  · rw [if_neg q]; exact sJ_n _ _ _ _ h
theorem pc_go_n (z : pj_S) (s nb : Nat) (how : Int32) (hb : nb ≤ 100) (h : z.1 10 3 = nI nb) : (pc_go z s nb how).1 10 3 = nI (min (nb + 1) 100) := by
  unfold pc_go
  dsimp only
  by_cases q : nb < 100
  · rw [if_pos q, Nat.min_eq_left (by omega)]; rfl
  · rw [if_neg q, show min (nb + 1) 100 = nb by omega]; exact h
theorem gos_here : ∀ (l : List Nat) (z : pj_S) (nb : Nat), (∀ s, s ∈ l → s < 64) → ∀ t, t < 64 → tb ((l.foldl goF (z, nb)).1.2 8 6) t = (tb (z.2 8 6) t && !decide (t ∈ l))
  | [], _, _, _, t, _ => by simp
  | s :: l, z, nb, h, t, ht => by
    have e : (pc_go z s nb (nI 2)).2 8 6 = (z.2 8 6) &&& ((pj_shlL (1 : Int64) (nI s)) ^^^ (-1 : Int64)) := by
      unfold pc_go
      dsimp only
      split <;> rfl
    have := gos_here l (pc_go z s nb (nI 2)) (min (nb + 1) 100) (fun s hs => h s (List.mem_cons_of_mem _ hs)) t ht
    rw [e, tb_and, tb_not _ _ ht, tb_bit s (h s List.mem_cons_self)] at this
    refine this.trans ?_
    rw [Bool.and_assoc]
    congr 1
    simp
theorem windUp_run : ∀ (r : List Nat) (i : Nat) (z : pj_S) (nb q : Nat), (∀ t s, r[t]? = some s → z.1 28 (i + t) = nI s) → z.1 6 1 = nI (i + r.length) → i + r.length ≤ 36 → z.1 10 3 = nI nb → nb ≤ 100 → r.length < q →
    pj_lp1 Whole_windUp_2 q (nI i) z = Whole_windUp_36 (r.foldl goF (z, nb)).1
  | [], i, z, nb, q, h1, h2, h3, h4, h5, hq => by
    obtain ⟨q, rfl⟩ : ∃ p, q = p + 1 := ⟨q - 1, by omega⟩
    rw [pj_lp1_s]
    unfold Whole_windUp_2
    have h2 : z.1 6 1 = nI i := h2
    rw [h2, if_pos (nI_le (Nat.le_refl _) (by have : i + 0 ≤ 36 := h3
                                              omega))]
    rfl
  | s :: r, i, z, nb, q, h1, h2, h3, h4, h5, hq => by
    obtain ⟨q, rfl⟩ : ∃ p, q = p + 1 := ⟨q - 1, by omega⟩
    have hlen : (s :: r).length = r.length + 1 := rfl
    rw [hlen] at h2 h3 hq
    rw [pj_lp1_s]
    have e0 : z.1 28 i = nI s := h1 0 s rfl
    have ih := windUp_run r (i + 1) (pc_go z s nb (nI 2)) (min (nb + 1) 100) q (fun t u hu => by
      rw [pc_go_c _ _ _ _ (by decide), Nat.add_assoc, Nat.add_comm 1 t]
      exact h1 (t + 1) u hu) (by rw [pc_go_c _ _ _ _ (by decide), h2]; congr 1; omega) (by omega) (pc_go_n z s nb _ h5 h4) (by omega) (by omega)
    unfold Whole_windUp_2
    rw [h2, if_neg (by rw [nI_leP (by omega) (by omega)]; omega), if_neg (by rw [nI_leP (by omega) (by omega)]; omega), pj_gIn (n := i) (by omega) (by decide), nI_clamp (n := i) (by omega), e0, Whole_letGo_eq z s nb _ h5 h4, pj_cS, nI_add, pj_bI]
    exact ih
theorem gos_6 : ∀ (l : List Nat) (z : pj_S) (nb : Nat), (l.foldl goF (z, nb)).1.1 6 = z.1 6 ∧ (l.foldl goF (z, nb)).1.2 6 = z.2 6
  | [], _, _ => ⟨rfl, rfl⟩
  | s :: l, z, nb => by
    have := gos_6 l (pc_go z s nb (nI 2)) (min (nb + 1) 100)
    rw [pc_go_c _ _ _ _ (by decide), pc_go_2 _ _ _ _ (by decide)] at this
    exact this
/-! the places passed: no stitch twice -/
theorem stA_inj {W k k2 : Nat} (hW : 2 ≤ W ∧ W ≤ 6) (h : stA W k = stA W k2) (hk : k / W < 8) (hk2 : k2 / W < 8) : k = k2 := by
  have q1 : k % W < W := Nat.mod_lt _ (by omega)
  have q2 : k2 % W < W := Nat.mod_lt _ (by omega)
  unfold stA at h
  have d1 := Nat.div_add_mod k W
  have d2 := Nat.div_add_mod k2 W
  have : k / W = k2 / W := by
    split at h <;> split at h <;> omega
  have : k % W = k2 % W := by
    rw [this] at h
    split at h <;> omega
  rw [← d1, ← d2]
  congr 1
  congr 1
def tch (W : Nat) (dir : Bool) (k0 : Nat) : Nat → Nat → Bool
  | 0, _ => false
  | i + 1, s => tch W dir k0 i s || decide (s = stA W (pl dir k0 i))
theorem tch_iff {W : Nat} {dir : Bool} {k0 s : Nat} : ∀ j, (tch W dir k0 j s = true ↔ ∃ i, i < j ∧ s = stA W (pl dir k0 i))
  | 0 => ⟨fun h => (Bool.false_ne_true h).elim, fun ⟨i, hi, _⟩ => absurd hi (by omega)⟩
  | j + 1 => by
    unfold tch
    rw [Bool.or_eq_true, tch_iff j, decide_eq_true_eq]
    constructor
    · rintro (⟨i, hi, e⟩ | e)
      · exact ⟨i, by omega, e⟩
      · exact ⟨j, by omega, e⟩
    · rintro ⟨i, hi, e⟩
      by_cases c : i = j
      · subst c; exact Or.inr e
      · exact Or.inl ⟨i, by omega, e⟩
theorem tch_new {W H : Nat} {dir : Bool} {k0 i : Nat} (hW : 2 ≤ W ∧ W ≤ 6) (hH : H ≤ 6) (hk0 : k0 < W * H) (hi : i < plJ dir (W * H) k0) : tch W dir k0 i (stA W (pl dir k0 i)) = false := by
  cases q : tch W dir k0 i (stA W (pl dir k0 i))
  · rfl
  · obtain ⟨i2, hi2, e⟩ := (tch_iff i).mp q
    have b1 : pl dir k0 i < W * H ∧ pl dir k0 i2 < W * H ∧ pl dir k0 i ≠ pl dir k0 i2 := by
      unfold plJ at hi
      unfold pl
      cases dir <;> simp at hi ⊢ <;> omega
    have c1 : pl dir k0 i / W < H := Nat.div_lt_of_lt_mul b1.1
    have c2 : pl dir k0 i2 / W < H := Nat.div_lt_of_lt_mul b1.2.1
    exact absurd (stA_inj hW e (by omega) (by omega)) b1.2.2
theorem sm_set {f g : Nat → Nat} {a : Nat} (ha : f a = 0) (hg : ∀ i, i ≠ a → g i = f i) : ∀ n, sm g n = sm f n + (if a < n then g a else 0)
  | 0 => rfl
  | n + 1 => by
    have e1 : sm g (n + 1) = sm g n + g n := rfl
    have e2 : sm f (n + 1) = sm f n + f n := rfl
    rw [e1, e2, sm_set ha hg n]
    by_cases c : n = a
    · subst c
      rw [if_neg (by omega), if_pos (by omega), ha]
    · rw [hg n c]
      by_cases d : a < n
      · rw [if_pos d, if_pos (by omega)]; omega
      · rw [if_neg d, if_neg (by omega)]; omega
theorem sm_ge {f : Nat → Nat} {a : Nat} : ∀ n, a < n → f a ≤ sm f n
  | n + 1, h => by
    have e2 : sm f (n + 1) = sm f n + f n := rfl
    by_cases c : n = a
    · subst c; omega
    · have := sm_ge (f := f) (a := a) n (by omega)
      omega
theorem sm_zero {f : Nat → Nat} : ∀ n, (∀ i, i < n → f i = 0) → sm f n = 0
  | 0, _ => rfl
  | n + 1, h => by
    have e2 : sm f (n + 1) = sm f n + f n := rfl
    rw [e2, sm_zero n (fun i hi => h i (by omega)), h n (by omega)]
theorem sm_congr {f g : Nat → Nat} : ∀ n, (∀ i, i < n → f i = g i) → sm f n = sm g n
  | 0, _ => rfl
  | n + 1, h => by
    have e2 : sm f (n + 1) = sm f n + f n := rfl
    have e1 : sm g (n + 1) = sm g n + g n := rfl
    rw [e2, e1, sm_congr n (fun i hi => h i (by omega)), h n (by omega)]
