/-! all has run: the model's queue -/
def memq (q : Nat → Nat) : Nat → Nat → Bool
  | 0, _ => false
  | n + 1, v => memq q n v || decide (v = q n)
theorem memq_iff {q : Nat → Nat} {v : Nat} : ∀ n, memq q n v = true ↔ ∃ i, i < n ∧ q i = v
  | 0 => by
    constructor
    · intro h; exact absurd h (by unfold memq; exact Bool.false_ne_true)
    · rintro ⟨i, hi, -⟩; omega
  | n + 1 => by
    unfold memq
    simp only [Bool.or_eq_true, decide_eq_true_eq]
    rw [memq_iff n]
    constructor
    · rintro (⟨i, hi, e⟩ | e)
      · exact ⟨i, by omega, e⟩
      · exact ⟨n, by omega, e.symm⟩
    · rintro ⟨i, hi, e⟩
      by_cases c : i = n
      · subst c; exact Or.inr e.symm
      · exact Or.inl ⟨i, by omega, e⟩
theorem memq_cnt {q : Nat → Nat} : ∀ n, (∀ i, i < n → q i < 64) → (∀ i j, i < j → j < n → q i ≠ q j) → cnt (memq q n) 64 = n
  | 0, _, _ => by
    have : ∀ k, cnt (memq q 0) k = 0 := fun k => by
      induction k with
      | zero => rfl
      | succ k ih => unfold cnt; rw [ih]; rfl
    exact this 64
  | n + 1, h1, h2 => by
    have ih := memq_cnt n (fun i hi => h1 i (by omega)) (fun i j hij hj => h2 i j hij (by omega))
    have nf : memq q n (q n) = false := by
      cases c : memq q n (q n)
      · rfl
      · obtain ⟨i, hi, e⟩ := (memq_iff n).mp c
        exact absurd e (h2 i n hi (by omega))
    rw [cnt_set (f := memq q n) (g := memq q (n + 1)) (b := q n) nf (fun i => rfl), ih, if_pos (h1 n (by omega))]
theorem memq_le {q : Nat → Nat} {n : Nat} (h1 : ∀ i, i < n → q i < 64) (h2 : ∀ i j, i < j → j < n → q i ≠ q j) : n ≤ 64 := by
  have := memq_cnt n h1 h2
  have := cnt_le (memq q n) 64
  omega
/-- the queue: n in it, k of them have gone, he is left of X; exc: not yet looked at -/
def qS (W H : Nat) (b : Bool) (kd : Nat → Nat) (ca X : Nat → Bool) (q : Nat → Nat) (n k : Nat) (he : Nat → Bool) (exc : Nat → Prop) : Prop :=
  k ≤ n ∧ (∀ i, i < n → q i < 64 ∧ X (q i) = true) ∧ (∀ i j, i < j → j < n → q i ≠ q j) ∧ (∀ t, he t = true ↔ (X t = true ∧ ∀ i, i < k → q i ≠ t)) ∧
  (∀ t, t < 64 → he t = true → hl W H b kd ca he t = false → (∃ i, i < n ∧ q i = t) ∨ exc t) ∧ (∀ i, k ≤ i → i < n → hl W H b kd ca he (q i) = false) ∧
  (∀ Y : Nat → Bool, (∀ s, Y s = true → X s = true) → (∀ s, Y s = true → hl W H b kd ca Y s = true) → ∀ i, i < n → Y (q i) = false)
section ALLRUN
variable {W H : Nat} {b : Bool} {kd : Nat → Nat} {ca X he : Nat → Bool} {q : Nat → Nat} {n k : Nat} {exc : Nat → Prop}
theorem qS.le (h : qS W H b kd ca X q n k he exc) : n ≤ 64 := memq_le (fun i hi => (h.2.1 i hi).1) h.2.2.1
theorem qS.push (h : qS W H b kd ca X q n k he exc) {v : Nat} (hv : v < 64) (h1 : he v = true) (h2 : hl W H b kd ca he v = false) (h3 : ¬ ∃ i, i < n ∧ q i = v) {q2 : Nat → Nat} (old : ∀ i, i < n → q2 i = q i) (new : q2 n = v) : qS W H b kd ca X q2 (n + 1) k he (fun t => exc t ∧ t ≠ v) := by
  obtain ⟨a1, a2, a3, a4, a5, a6, a7⟩ := h
  refine ⟨by omega, fun i hi => ?_, fun i j hij hj => ?_, fun t => ?_, fun t ht p1 p2 => ?_, fun i i1 i2 => ?_, fun Y y1 y2 i hi => ?_⟩
  · by_cases c : i = n
    · subst c; rw [new]; exact ⟨hv, ((a4 v).mp h1).1⟩
    · rw [old i (by omega)]; exact a2 i (by omega)
  · rw [old i (by omega)]
    by_cases c : j = n
    · subst c; rw [new]; exact fun e => h3 ⟨i, hij, e⟩
    · rw [old j (by omega)]; exact a3 i j hij (by omega)
  · rw [a4 t]
    constructor
    · rintro ⟨p, r⟩
      exact ⟨p, fun i hi => by rw [old i (by omega)]; exact r i hi⟩
    · rintro ⟨p, r⟩
      exact ⟨p, fun i hi => by have := r i hi; rw [old i (by omega)] at this; exact this⟩
  · rcases a5 t ht p1 p2 with ⟨i, hi, e⟩ | e
    · exact Or.inl ⟨i, by omega, by rw [old i hi]; exact e⟩
    · by_cases c : t = v
      · exact Or.inl ⟨n, by omega, by rw [new]; exact c.symm⟩
      · exact Or.inr ⟨e, c⟩
  · by_cases c : i = n
    · subst c; rw [new]; exact h2
    · rw [old i (by omega)]; exact a6 i i1 (by omega)
  · by_cases c : i = n
    · subst c
      rw [new]
      cases p : Y v
      · rfl
      · have sub : ∀ s, Y s = true → he s = true := fun s hs => (a4 s).mpr ⟨y1 s hs, fun j hj e => by
          have := a7 Y y1 y2 j (by omega)
          rw [e, hs] at this; cases this⟩
        have := hl_mono (W := W) (H := H) (b := b) (kd := kd) (ca := ca) sub v (y2 v p)
        rw [h2] at this; cases this
    · rw [old i (by omega)]; exact a7 Y y1 y2 i (by omega)
theorem qS.pass (h : qS W H b kd ca X q n k he exc) {v : Nat} (h3 : (he v && !hl W H b kd ca he v) = false ∨ ∃ i, i < n ∧ q i = v) : qS W H b kd ca X q n k he (fun t => exc t ∧ t ≠ v) := by
  obtain ⟨a1, a2, a3, a4, a5, a6, a7⟩ := h
  refine ⟨a1, a2, a3, a4, fun t ht p1 p2 => ?_, a6, a7⟩
  by_cases c : t = v
  · subst c
    rcases h3 with h3 | h3
    · rw [p1, p2] at h3; cases h3
    · exact Or.inl h3
  · rcases a5 t ht p1 p2 with e | e
    · exact Or.inl e
    · exact Or.inr ⟨e, c⟩
theorem qS.exc_mono {exc2 : Nat → Prop} (h : qS W H b kd ca X q n k he exc) (e : ∀ t, exc t → exc2 t) : qS W H b kd ca X q n k he exc2 := by
  obtain ⟨a1, a2, a3, a4, a5, a6, a7⟩ := h
  exact ⟨a1, a2, a3, a4, fun t ht p1 p2 => (a5 t ht p1 p2).imp id (e t), a6, a7⟩
/-- the k-th of the queue goes -/
theorem qS.go (h : qS W H b kd ca X q n k he (fun _ => False)) (hk : k < n) : he (q k) = true ∧ qS W H b kd ca X q n (k + 1) (fun i => he i && !decide (i = q k)) (fun t => d1 W kd (q k) = some t ∨ d2 W kd (q k) = some t) := by
  obtain ⟨a1, a2, a3, a4, a5, a6, a7⟩ := h
  have hx : he (q k) = true := (a4 _).mpr ⟨(a2 k hk).2, fun i hi => a3 i k hi hk⟩
  have sub : ∀ s, (he s && !decide (s = q k)) = true → he s = true := fun s hs => by simp only [Bool.and_eq_true] at hs; exact hs.1
  refine ⟨hx, by omega, a2, a3, fun t => ?_, fun t ht p1 p2 => ?_, fun i i1 i2 => ?_, a7⟩
  · simp only [Bool.and_eq_true, Bool.not_eq_true', decide_eq_false_iff_not]
    rw [a4 t]
    constructor
    · rintro ⟨⟨p, r⟩, c⟩
      refine ⟨p, fun i hi => ?_⟩
      by_cases ci : i = k
      · subst ci; exact fun e => c e.symm
      · exact r i (by omega)
    · rintro ⟨p, r⟩
      exact ⟨⟨p, fun i hi => r i (by omega)⟩, fun e => r k (by omega) e.symm⟩
  · have ht' := sub t p1
    cases p3 : hl W H b kd ca he t
    · rcases a5 t ht ht' p3 with e | e
      · exact Or.inl e
      · exact e.elim
    · right
      by_cases c1 : d1 W kd (q k) = some t
      · exact Or.inl c1
      · by_cases c2 : d2 W kd (q k) = some t
        · exact Or.inr c2
        · exfalso
          have := hc_del (W := W) (kd := kd) (X := he) (Y := fun i => he i && !decide (i = q k)) (a2 k hk).1 hx (fun _ => rfl) t
          rw [if_neg c1, if_neg c2, Nat.add_zero] at this
          unfold hl at p2 p3
          rw [this] at p3
          have p2 : ((he t && !decide (t = q k)) && (ca t || (b && decide (t / 8 + 1 = H)) || decide (0 < hc W kd (fun i => he i && !decide (i = q k)) t 64))) = false := p2
          have p1 : (he t && !decide (t = q k)) = true := p1
          rw [p1] at p2
          rw [ht'] at p3
          rw [p2] at p3
          cases p3
  · cases p : hl W H b kd ca (fun i => he i && !decide (i = q k)) (q i)
    · rfl
    · have := hl_mono sub _ p
      rw [a6 i (by omega) i2] at this; cases this
end ALLRUN
