/-! what holds what -/
theorem cnt_pos {f : Nat → Bool} : ∀ n, (0 < cnt f n) = ∃ i, i < n ∧ f i = true
  | 0 => by
    apply propext
    constructor
    · intro h; exact absurd h (Nat.lt_irrefl 0)
    · rintro ⟨i, hi, -⟩; omega
  | n + 1 => by
    apply propext
    have ih := cnt_pos (f := f) n
    unfold cnt
    constructor
    · intro h
      cases q : f n
      · rw [q] at h
        have h : 0 < cnt f n := h
        rw [ih] at h
        obtain ⟨i, hi, e⟩ := h
        exact ⟨i, by omega, e⟩
      · exact ⟨n, by omega, q⟩
    · rintro ⟨i, hi, e⟩
      by_cases c : i = n
      · subst c; rw [e]; simp
      · have : 0 < cnt f n := by rw [ih]; exact ⟨i, by omega, e⟩
        omega
/-- the loops that a stitch is drawn through -/
def d1 (W : Nat) (kd : Nat → Nat) (s : Nat) : Option Nat :=
  if s < 8 then none else if kd s = 2 then none else if kd s = 1 then (if s % 8 % 2 = 1 then some (s - 9) else if W ≤ s % 8 + 1 then some (s - 8) else some (s - 7)) else some (s - 8)
def d2 (W : Nat) (kd : Nat → Nat) (s : Nat) : Option Nat :=
  if s < 8 then none else if kd s = 3 then (if W ≤ s % 8 + 1 then none else some (s - 7)) else none
/-- how many hold t -/
def hc (W : Nat) (kd : Nat → Nat) (he : Nat → Bool) (t k : Nat) : Nat := cnt (fun s => he s && decide (d1 W kd s = some t)) k + cnt (fun s => he s && decide (d2 W kd s = some t)) k
def kdb (lo hi : Nat → Bool) (s : Nat) : Nat := (lo s).toNat + 2 * (hi s).toNat
def oI (o : Option Nat) : Int32 := (o.map nI).getD (-1)
/-- t is held by a loop -/
def lu (W : Nat) (kd : Nat → Nat) (he : Nat → Bool) (t : Nat) : Bool :=
  (he (t + 8) && (decide (kd (t + 8) = 0) || decide (kd (t + 8) = 3) || (decide (kd (t + 8) = 1) && decide ((t + 8) % 2 = 0) && decide (W ≤ (t + 8) % 8 + 1)))) ||
  (he (t + 7) && decide ((t + 7) % 8 + 1 < W) && ((decide (kd (t + 7) = 1) && decide ((t + 7) % 2 = 0)) || decide (kd (t + 7) = 3))) ||
  (he (t + 9) && decide (kd (t + 9) = 1) && decide ((t + 9) % 2 = 1))
theorem lu_hc {W H : Nat} (hW : 2 ≤ W ∧ W ≤ 6 ∧ 2 ≤ H ∧ H ≤ 6) {kd : Nat → Nat} {he : Nat → Bool} (hk : ∀ s, kd s < 4) (hst : ∀ s, he s = true → stit W H s = true) (t : Nat) : lu W kd he t = decide (0 < hc W kd he t 64) := by
  have st : ∀ s, he s = true → s % 8 < W ∧ s / 8 < H := fun s h => by
    have := hst s h
    unfold stit at this
    simpa using this
  have hcp : (0 < hc W kd he t 64) = ∃ s, s < 64 ∧ he s = true ∧ (d1 W kd s = some t ∨ d2 W kd s = some t) := by
    apply propext
    unfold hc
    have p1 := cnt_pos (f := fun s => he s && decide (d1 W kd s = some t)) 64
    have p2 := cnt_pos (f := fun s => he s && decide (d2 W kd s = some t)) 64
    constructor
    · intro h
      by_cases c : 0 < cnt (fun s => he s && decide (d1 W kd s = some t)) 64
      · rw [p1] at c
        obtain ⟨s, h1, h2⟩ := c
        simp only [Bool.and_eq_true, decide_eq_true_eq] at h2
        exact ⟨s, h1, h2.1, Or.inl h2.2⟩
      · have c2 : 0 < cnt (fun s => he s && decide (d2 W kd s = some t)) 64 := by omega
        rw [p2] at c2
        obtain ⟨s, h1, h2⟩ := c2
        simp only [Bool.and_eq_true, decide_eq_true_eq] at h2
        exact ⟨s, h1, h2.1, Or.inr h2.2⟩
    · rintro ⟨s, h1, h2, h3 | h3⟩
      · have : 0 < cnt (fun s => he s && decide (d1 W kd s = some t)) 64 := by rw [p1]; exact ⟨s, h1, by simp [h2, h3]⟩
        omega
      · have : 0 < cnt (fun s => he s && decide (d2 W kd s = some t)) 64 := by rw [p2]; exact ⟨s, h1, by simp [h2, h3]⟩
        omega
  rw [Bool.eq_iff_iff, decide_eq_true_eq, hcp]
  unfold lu d1 d2
  simp only [Bool.or_eq_true, Bool.and_eq_true, decide_eq_true_eq]
  constructor
  · rintro ((⟨h1, h2⟩ | ⟨⟨h1, h2⟩, h3⟩) | ⟨⟨h1, h2⟩, h3⟩)
    · have q := st _ h1
      refine ⟨t + 8, by omega, h1, Or.inl ?_⟩
      rw [if_neg (by omega), if_neg (by omega)]
      by_cases c : kd (t + 8) = 1
      · rw [if_pos c, if_neg (by omega), if_pos (by omega)]
        congr 1
      · rw [if_neg c]
        congr 1
    · have q := st _ h1
      refine ⟨t + 7, by omega, h1, ?_⟩
      rcases h3 with h3 | h3
      · left
        rw [if_neg (by omega), if_neg (by omega), if_pos h3.1, if_neg (by omega), if_neg (by omega)]
        congr 1
      · right
        rw [if_neg (by omega), if_pos h3, if_neg (by omega)]
        congr 1
    · have q := st _ h1
      refine ⟨t + 9, by omega, h1, Or.inl ?_⟩
      rw [if_neg (by omega), if_neg (by omega), if_pos h2, if_pos (by omega)]
      congr 1
  · rintro ⟨s, s64, h1, h2⟩
    have q := st _ h1
    have ks := hk s
    by_cases c8 : s < 8
    · rw [if_pos c8, if_pos c8] at h2
      rcases h2 with h2 | h2 <;> cases h2
    · rw [if_neg c8, if_neg c8] at h2
      rcases h2 with h2 | h2
      · by_cases c2 : kd s = 2
        · rw [if_pos c2] at h2; cases h2
        · rw [if_neg c2] at h2
          by_cases c1 : kd s = 1
          · rw [if_pos c1] at h2
            by_cases co : s % 8 % 2 = 1
            · rw [if_pos co] at h2
              have e : s = t + 9 := by
                have := Option.some.inj h2
                omega
              subst e
              exact Or.inr ⟨⟨h1, c1⟩, by omega⟩
            · rw [if_neg co] at h2
              by_cases cw : W ≤ s % 8 + 1
              · rw [if_pos cw] at h2
                have e : s = t + 8 := by
                  have := Option.some.inj h2
                  omega
                subst e
                exact Or.inl (Or.inl ⟨h1, Or.inr ⟨⟨c1, by omega⟩, cw⟩⟩)
              · rw [if_neg cw] at h2
                have e : s = t + 7 := by
                  have := Option.some.inj h2
                  omega
                subst e
                exact Or.inl (Or.inr ⟨⟨h1, by omega⟩, Or.inl ⟨c1, by omega⟩⟩)
          · rw [if_neg c1] at h2
            have e : s = t + 8 := by
              have := Option.some.inj h2
              omega
            subst e
            exact Or.inl (Or.inl ⟨h1, Or.inl (by omega)⟩)
      · by_cases c3 : kd s = 3
        · rw [if_pos c3] at h2
          by_cases cw : W ≤ s % 8 + 1
          · rw [if_pos cw] at h2; cases h2
          · rw [if_neg cw] at h2
            have e : s = t + 7 := by
              have := Option.some.inj h2
              omega
            subst e
            exact Or.inl (Or.inr ⟨⟨h1, by omega⟩, Or.inr c3⟩)
        · rw [if_neg c3] at h2; cases h2
theorem ev_c : ∀ i, i < 64 → tb 6148914691236517205 i = decide (i % 2 = 0) := by decide +kernel
theorem od_c : ∀ i, i < 64 → tb (-6148914691236517206) i = decide (i % 2 = 1) := by decide +kernel
theorem kdb_lt (lo hi : Nat → Bool) (s : Nat) : kdb lo hi s < 4 := by unfold kdb; cases lo s <;> cases hi s <;> decide
theorem Fabric_loopsUnder_eq {W H : Nat} {b : Bool} {z : pj_S} {w : Nat → Int32} (hF : pa_F W H b (z.1 8) (z.2 8) w) (x : Int64) (hx : ∀ s, s < 64 → tb x s = true → stit W H s = true) :
    ∃ r, Fabric_loopsUnder x z = some (r, z) ∧ ∀ t, t < 64 → tb r t = lu W (kdb (tb (z.2 8 4)) (tb (z.2 8 5))) (tb x) t := by
  unfold Fabric_loopsUnder
  simp only [pj_bI]
  refine ⟨_, rfl, fun t ht => ?_⟩
  have wr : ∀ s, s < 64 → stit W H s = true → (stit W H (s + 1) = decide (s % 8 + 1 < W)) := fun s h64 hs => by
    have := hF.1
    unfold stit at hs ⊢
    simp only [Bool.and_eq_true, decide_eq_true_eq] at hs
    rw [Bool.eq_iff_iff]
    simp only [Bool.and_eq_true, decide_eq_true_eq]
    omega
  have P1 : ∀ s, s < 64 → tb x s = true → tb (z.2 8 3) (1 + s) = decide (s % 8 + 1 < W) := fun s h64 hs => by
    have st := hx s h64 hs
    have l48 := stit_48 hF.1.2.2.2 st
    rw [hF.2.2.1 _ (by omega), Nat.add_comm, wr s h64 st]
  have P0 : ∀ s, s < 64 → tb x s = true → tb (z.2 8 3) s = true := fun s h64 hs => by rw [hF.2.2.1 s h64]; exact hx s h64 hs
  have own : ∀ s, s < 64 → tb (((x &&& ((z.2 8 4) ^^^ (-1 : Int64))) &&& ((z.2 8 5) ^^^ (-1 : Int64)) ||| (x &&& (z.2 8 4)) &&& (z.2 8 5)) ||| ((((x &&& (z.2 8 4)) &&& ((z.2 8 5) ^^^ (-1 : Int64))) &&& (((((x &&& (z.2 8 4)) &&& ((z.2 8 5) ^^^ (-1 : Int64))) &&& (6148914691236517205 : Int64)) &&& ((z.2 8 3) &&& (pj_ushrL (z.2 8 3) (nI 1)))) ^^^ (-1 : Int64))) &&& ((((x &&& (z.2 8 4)) &&& ((z.2 8 5) ^^^ (-1 : Int64))) &&& (-6148914691236517206 : Int64)) ^^^ (-1 : Int64)))) s
      = (tb x s && (decide (kdb (tb (z.2 8 4)) (tb (z.2 8 5)) s = 0) || decide (kdb (tb (z.2 8 4)) (tb (z.2 8 5)) s = 3) || (decide (kdb (tb (z.2 8 4)) (tb (z.2 8 5)) s = 1) && decide (s % 2 = 0) && decide (W ≤ s % 8 + 1)))) := fun s h64 => by
    simp only [tb_or, tb_and, tb_not _ _ h64, ev_c s h64, od_c s h64, tb_ushr _ 1 (by decide)]
    cases hx' : tb x s
    · simp
    · rw [P1 s h64 hx', P0 s h64 hx']
      unfold kdb
      have cw : decide (W ≤ s % 8 + 1) = !decide (s % 8 + 1 < W) := by by_cases c : W ≤ s % 8 + 1 <;> simp [c] <;> omega
      have c2 : decide (s % 2 = 1) = !decide (s % 2 = 0) := by by_cases c : s % 2 = 0 <;> simp [c] <;> omega
      rw [cw, c2]
      cases tb (z.2 8 4) s <;> cases tb (z.2 8 5) s <;> cases decide (s % 8 + 1 < W) <;> cases decide (s % 2 = 0) <;> rfl
  have right : ∀ s, s < 64 → tb (((((x &&& (z.2 8 4)) &&& ((z.2 8 5) ^^^ (-1 : Int64))) &&& (6148914691236517205 : Int64)) &&& ((z.2 8 3) &&& (pj_ushrL (z.2 8 3) (nI 1)))) ||| (((x &&& (z.2 8 4)) &&& (z.2 8 5)) &&& ((z.2 8 3) &&& (pj_ushrL (z.2 8 3) (nI 1))))) s
      = (tb x s && decide (s % 8 + 1 < W) && ((decide (kdb (tb (z.2 8 4)) (tb (z.2 8 5)) s = 1) && decide (s % 2 = 0)) || decide (kdb (tb (z.2 8 4)) (tb (z.2 8 5)) s = 3))) := fun s h64 => by
    simp only [tb_or, tb_and, tb_not _ _ h64, ev_c s h64, tb_ushr _ 1 (by decide)]
    cases hx' : tb x s
    · simp
    · rw [P1 s h64 hx', P0 s h64 hx']
      unfold kdb
      cases tb (z.2 8 4) s <;> cases tb (z.2 8 5) s <;> cases decide (s % 8 + 1 < W) <;> cases decide (s % 2 = 0) <;> rfl
  have left : ∀ s, s < 64 → tb (((x &&& (z.2 8 4)) &&& ((z.2 8 5) ^^^ (-1 : Int64))) &&& (-6148914691236517206 : Int64)) s = (tb x s && decide (kdb (tb (z.2 8 4)) (tb (z.2 8 5)) s = 1) && decide (s % 2 = 1)) := fun s h64 => by
    simp only [tb_and, tb_not _ _ h64, od_c s h64]
    unfold kdb
    cases tb x s <;> cases tb (z.2 8 4) s <;> cases tb (z.2 8 5) s <;> cases decide (s % 2 = 1) <;> rfl
  have g : ∀ s, 64 ≤ s → tb x s = false := fun s hs => tb_ge hs
  unfold lu
  rw [tb_or, tb_or, tb_ushr _ 8 (by decide), tb_ushr _ 7 (by decide), tb_ushr _ 9 (by decide), Nat.add_comm 8, Nat.add_comm 7, Nat.add_comm 9]
  congr 1
  · congr 1
    · by_cases c : t + 8 < 64
      · rw [own _ c]
      · rw [tb_ge (by omega), g _ (by omega)]; rfl
    · by_cases c : t + 7 < 64
      · rw [right _ c]
      · rw [tb_ge (by omega), g _ (by omega)]; rfl
  · by_cases c : t + 9 < 64
    · rw [left _ c]
    · rw [tb_ge (by omega), g _ (by omega)]; rfl
/-- t is held -/
def hl (W H : Nat) (b : Bool) (kd : Nat → Nat) (ca he : Nat → Bool) (t : Nat) : Bool := he t && (ca t || (b && decide (t / 8 + 1 = H)) || decide (0 < hc W kd he t 64))
theorem Fabric_heldOf_eq {W H : Nat} {b : Bool} {z : pj_S} {w : Nat → Int32} (hF : pa_F W H b (z.1 8) (z.2 8) w) (x y : Int64) (hx : ∀ s, s < 64 → tb x s = true → stit W H s = true) :
    ∃ r, Fabric_heldOf x y z = some (r, z) ∧ ∀ t, t < 64 → tb r t = hl W H b (kdb (tb (z.2 8 4)) (tb (z.2 8 5))) (tb y) (tb x) t := by
  obtain ⟨r, e, er⟩ := Fabric_loopsUnder_eq hF x hx
  unfold Fabric_heldOf Fabric_heldOf_27
  rw [hF.2.1.2.2.1, ib0, e, pj_cS]
  have hst : ∀ s, tb x s = true → stit W H s = true := fun s hs => by
    by_cases c : s < 64
    · exact hx s c hs
    · rw [tb_ge (by omega)] at hs; cases hs
  have lh := lu_hc hF.1 (kdb_lt (tb (z.2 8 4)) (tb (z.2 8 5))) hst
  cases b
  · rw [if_neg Bool.false_ne_true]
    refine ⟨_, rfl, fun t ht => ?_⟩
    unfold hl
    rw [tb_and, tb_or, tb_or, tb_0, er t ht, lh]
    simp
  · rw [if_pos rfl]
    refine ⟨_, rfl, fun t ht => ?_⟩
    unfold hl
    rw [tb_and, tb_or, tb_or, tb_and, tb_not _ _ ht, tb_ushr _ 8 (by decide), er t ht, lh, hF.2.2.1 t ht]
    cases q : tb x t
    · rfl
    · have st := hst t q
      have l48 := stit_48 hF.1.2.2.2 st
      rw [hF.2.2.1 (8 + t) (by omega), st]
      have : (!stit W H (8 + t)) = decide (t / 8 + 1 = H) := by
        unfold stit at st ⊢
        simp only [Bool.and_eq_true, decide_eq_true_eq] at st
        rw [Bool.eq_iff_iff]
        simp only [Bool.not_eq_true', Bool.and_eq_false_iff, decide_eq_false_iff_not, decide_eq_true_eq]
        omega
      rw [this]
