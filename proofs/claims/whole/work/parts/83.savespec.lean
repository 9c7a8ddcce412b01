/-! save: what both reckon -/
abbrev svS : Type := Option (Nat × List Nat)
def svL (f : Nat → svS → svS) : Nat → Nat → svS → svS
  | 0, _, st => st
  | d + 1, k, st => svL f d (k + 1) (f k st)
def svF (N : List Nat → Nat) (ch : List Nat) : svS → svS
  | none => some (N ch, ch)
  | some (k, sv) => if N ch < k then some (N ch, ch) else some (k, sv)
def sv (fr : Nat → Bool) (N : List Nat → Nat) : Nat → List Nat → Nat → svS → svS
  | 0, ch, _, st => svF N ch st
  | r + 1, ch, k, st => svL (fun t st => if fr t then sv fr N r (ch ++ [t]) (t + 1) st else st) (64 - k) k st
section SV
variable {fr : Nat → Bool} {N : List Nat → Nat}
theorem svL_add {f : Nat → svS → svS} : ∀ d d2 k st, svL f (d + d2) k st = svL f d2 (k + d) (svL f d k st)
  | 0, d2, k, st => by rw [Nat.zero_add]; rfl
  | d + 1, d2, k, st => by
    rw [show d + 1 + d2 = (d + d2) + 1 by omega]
    show svL f (d + d2) (k + 1) (f k st) = svL f d2 (k + (d + 1)) (svL f d (k + 1) (f k st))
    rw [svL_add d d2 (k + 1) (f k st), show k + 1 + d = k + (d + 1) by omega]
theorem svL_congr {f g : Nat → svS → svS} : ∀ d k st, (∀ t st, k ≤ t → t < k + d → f t st = g t st) → svL f d k st = svL g d k st
  | 0, _, _, _ => rfl
  | d + 1, k, st, h => by
    show svL f d (k + 1) (f k st) = svL g d (k + 1) (g k st)
    rw [h k st (Nat.le_refl _) (by omega)]
    exact svL_congr d (k + 1) _ (fun t s a b => h t s (by omega) (by omega))
theorem svL_id {f : Nat → svS → svS} : ∀ d k st, (∀ t st, k ≤ t → t < k + d → f t st = st) → svL f d k st = st
  | 0, _, _, _ => rfl
  | d + 1, k, st, h => by
    show svL f d (k + 1) (f k st) = st
    rw [h k st (Nat.le_refl _) (by omega)]
    exact svL_id d (k + 1) _ (fun t s a b => h t s (by omega) (by omega))
theorem svL_keep {f : Nat → svS → svS} {P : svS → Prop} (h : ∀ t st, P st → P (f t st)) : ∀ d k st, P st → P (svL f d k st)
  | 0, _, _, p => p
  | d + 1, k, st, p => svL_keep h d (k + 1) _ (h k st p)
theorem sv_keep {P : svS → Prop} (h : ∀ ch st, P st → P (svF N ch st)) : ∀ r ch k st, P st → P (sv fr N r ch k st)
  | 0, ch, _, st, p => h ch st p
  | r + 1, ch, k, st, p => by
    unfold sv
    refine svL_keep (fun t st q => ?_) _ _ _ p
    split
    · exact sv_keep h r _ _ st q
    · exact q
theorem sv_zero {l : List Nat} (r : Nat) (ch : List Nat) (k : Nat) : sv fr N r ch k (some (0, l)) = some (0, l) := by
  refine sv_keep (P := fun st => st = some (0, l)) (fun ch st q => ?_) r ch k _ rfl
  subst q
  show (if N ch < 0 then some (N ch, ch) else some (0, l)) = some (0, l)
  rw [if_neg (by omega)]
theorem sv_some (r : Nat) (ch : List Nat) (k : Nat) (st : svS) (h : st.isSome = true) : (sv fr N r ch k st).isSome = true := by
  refine sv_keep (P := fun st => st.isSome = true) (fun ch st q => ?_) r ch k _ h
  cases st with
  | none => rfl
  | some p =>
    obtain ⟨a, l⟩ := p
    show (if N ch < a then some (N ch, ch) else some (a, l)).isSome = true
    split <;> rfl
theorem svL_found {f : Nat → svS → svS} {fr : Nat → Bool} (h1 : ∀ t st, st.isSome = true → (f t st).isSome = true) {c : Nat} (h2 : ∀ t st, t < 64 → fr t = true → c + cnt fr (t + 1) ≤ cnt fr 64 → (f t st).isSome = true) :
    ∀ d k st, k + d = 64 → c + 1 + cnt fr k ≤ cnt fr 64 → (svL f d k st).isSome = true
  | 0, k, st, hk, hc => by
    have : k = 64 := by omega
    subst this
    omega
  | d + 1, k, st, hk, hc => by
    have cs : cnt fr (k + 1) = cnt fr k + (fr k).toNat := rfl
    cases q : fr k
    · exact svL_found h1 h2 d (k + 1) _ (by omega) (by rw [cs, q]; exact hc)
    · have : (f k st).isSome = true := h2 k st (by omega) q (by rw [cs, q]; show c + (cnt fr k + 1) ≤ _; omega)
      exact svL_keep (P := fun st => st.isSome = true) h1 d (k + 1) _ this
theorem sv_found : ∀ r ch k st, k ≤ 64 → r + cnt fr k ≤ cnt fr 64 → (sv fr N r ch k st).isSome = true
  | 0, ch, k, st, _, _ => by
    show (svF N ch st).isSome = true
    cases st with
    | none => rfl
    | some p =>
      obtain ⟨a, l⟩ := p
      show (if N ch < a then some (N ch, ch) else some (a, l)).isSome = true
      split <;> rfl
  | r + 1, ch, k, st, hk, hc => by
    unfold sv
    refine svL_found (fr := fr) (c := r) (fun t st q => ?_) (fun t st ht hf hc => ?_) (64 - k) k st (by omega) hc
    · skip
      split
      · exact sv_some r _ _ st q
      · exact q
    · skip
      rw [if_pos hf]
      exact sv_found r _ _ st (by omega) hc
/-- what is kept is in order -/
def srtd (l : List Nat) : Prop := l.Pairwise (· < ·)
def svOk (M : Nat) (st : svS) : Prop := ∀ k l, st = some (k, l) → l.length = M ∧ srtd l ∧ ∀ t, t ∈ l → t < 48
theorem sv_ok {M : Nat} (hfr : ∀ t, fr t = true → t < 48) : ∀ r ch k st, ch.length + r = M → srtd ch → (∀ t, t ∈ ch → t < 48 ∧ t < k) → svOk M st → svOk M (sv fr N r ch k st)
  | 0, ch, k, st, h1, h2, h3, h4 => by
    show svOk M (svF N ch st)
    have new : svOk M (some (N ch, ch)) := fun a l e => by
      cases e
      exact ⟨by omega, h2, fun t ht => (h3 t ht).1⟩
    cases st with
    | none => exact new
    | some p =>
      obtain ⟨a, l⟩ := p
      show svOk M (if N ch < a then some (N ch, ch) else some (a, l))
      split
      · exact new
      · exact h4
  | r + 1, ch, k, st, h1, h2, h3, h4 => by
    unfold sv
    have key : ∀ d j st, k ≤ j → svOk M st → svOk M (svL (fun t st => if fr t then sv fr N r (ch ++ [t]) (t + 1) st else st) d j st) := fun d => by
      induction d with
      | zero => intro j st _ q; exact q
      | succ d ih =>
        intro j st hj q
        refine ih (j + 1) _ (by omega) ?_
        dsimp only
        split
        · rename_i hf
          refine sv_ok hfr r _ _ st (by rw [List.length_append]; show ch.length + 1 + r = M; omega) ?_ (fun t ht => ?_) q
          · refine List.pairwise_append.mpr ⟨h2, List.pairwise_singleton _ _, fun a ha c hc => ?_⟩
            rw [List.mem_singleton] at hc
            subst hc
            have := (h3 a ha).2
            omega
          · rw [List.mem_append, List.mem_singleton] at ht
            rcases ht with ht | rfl
            · have := h3 t ht; exact ⟨this.1, by omega⟩
            · exact ⟨hfr t hf, by omega⟩
        · exact q
    exact key _ _ _ (Nat.le_refl _) h4
end SV
theorem srtd_cnt : ∀ (l : List Nat), srtd l → ∀ i s, l[i]? = some s → cnt (fun t => decide (t ∈ l)) s = i
  | [], _, i, s, h => by cases h
  | a :: r, hl, i, s, h => by
    obtain ⟨h1, h2⟩ := List.pairwise_cons.mp hl
    cases i with
    | zero =>
      have h : some a = some s := h
      cases h
      refine cnt_zero a (fun j hj => decide_eq_false (fun q => ?_))
      rcases List.mem_cons.mp q with rfl | q
      · omega
      · have := h1 j q; omega
    | succ i =>
      have h : r[i]? = some s := h
      have hm : s ∈ r := List.mem_of_getElem? h
      have ih := srtd_cnt r h2 i s h
      have ls := h1 s hm
      have := cnt_set (f := fun t => decide (t ∈ r)) (g := fun t => decide (t ∈ a :: r)) (b := a) (decide_eq_false (fun q => by have := h1 a q; omega)) (fun j => by
        rw [Bool.eq_iff_iff]; simp [or_comm]) s
      rw [this, ih, if_pos ls]
theorem srtd_all : ∀ (l : List Nat), srtd l → (∀ t, t ∈ l → t < 48) → cnt (fun t => decide (t ∈ l)) 48 = l.length
  | [], _, _ => cnt_zero 48 (fun j _ => rfl)
  | a :: r, hl, hb => by
    obtain ⟨h1, h2⟩ := List.pairwise_cons.mp hl
    have ih := srtd_all r h2 (fun t ht => hb t (List.mem_cons_of_mem _ ht))
    have := cnt_set (f := fun t => decide (t ∈ r)) (g := fun t => decide (t ∈ a :: r)) (b := a) (decide_eq_false (fun q => by have := h1 a q; omega)) (fun j => by
        rw [Bool.eq_iff_iff]; simp [or_comm]) 48
    rw [this, ih, if_pos (hb a List.mem_cons_self)]; rfl
theorem cnt_mn {f : Nat → Bool} (a : Nat) : ∀ b, a ≤ b → cnt f a ≤ cnt f b
  | 0, h => by
    have : a = 0 := by omega
    subst this; exact Nat.le_refl _
  | b + 1, h => by
    have e : cnt f (b + 1) = cnt f b + (f b).toNat := rfl
    by_cases c : a = b + 1
    · subst c; exact Nat.le_refl _
    · have := cnt_mn (f := f) a b (by omega)
      omega
theorem PJ_numberIn_eq (x : Int64) (i : Nat) (hi : i < 100) (z : pj_S) : (∀ s, s < 48 → tb x s = true → cnt (tb x) s = i → PJ_numberIn x (nI i) z = some (nI s, z)) ∧ (cnt (tb x) 48 ≤ i → PJ_numberIn x (nI i) z = some (-1, z)) := by
  have run : ∀ d k q, k + d = 48 → d < q → cnt (tb x) k ≤ i → (∀ s, k ≤ s → s < 48 → tb x s = true → cnt (tb x) s = i → pj_lp4 PJ_numberIn_5 q x (nI i) (nI (cnt (tb x) k)) (nI k) z = some (nI s, z)) ∧ (cnt (tb x) 48 ≤ i → pj_lp4 PJ_numberIn_5 q x (nI i) (nI (cnt (tb x) k)) (nI k) z = some (-1, z)) := fun d => by
    induction d with
    | zero =>
      intro k q hk hq hc
      obtain ⟨q, rfl⟩ : ∃ p, q = p + 1 := ⟨q - 1, by omega⟩
      refine ⟨fun s h1 h2 => by omega, fun _ => ?_⟩
      rw [pj_lp4_s]
      unfold PJ_numberIn_5
      rw [if_pos (nI_le (by omega) (by omega))]
    | succ d ih =>
      intro k q hk hq hc
      obtain ⟨q, rfl⟩ : ∃ p, q = p + 1 := ⟨q - 1, by omega⟩
      have cs : cnt (tb x) (k + 1) = cnt (tb x) k + (tb x k).toNat := rfl
      have i1 : nI k + nI 1 = nI (k + 1) := by rw [nI_add]
      have i2 : nI (cnt (tb x) k) + nI 1 = nI (cnt (tb x) k + 1) := by rw [nI_add]
      have e : pj_lp4 PJ_numberIn_5 (q + 1) x (nI i) (nI (cnt (tb x) k)) (nI k) z = (if tb x k then (if cnt (tb x) k = i then some (nI k, z) else pj_lp4 PJ_numberIn_5 q x (nI i) (nI (cnt (tb x) (k + 1))) (nI (k + 1)) z) else pj_lp4 PJ_numberIn_5 q x (nI i) (nI (cnt (tb x) (k + 1))) (nI (k + 1)) z) := by
        rw [pj_lp4_s]
        generalize pj_lp4 PJ_numberIn_5 q = self
        unfold PJ_numberIn_5 PJ_numberIn_27 PJ_numberIn_33
        rw [if_neg (by rw [nI_leP (by decide) (by omega)]; omega), PJ_bitOf_eq _ k (by omega), pj_cS, ib1, i1, i2, cs]
        cases tb x k
        · rw [if_neg Bool.false_ne_true, if_neg Bool.false_ne_true]; rfl
        · rw [if_pos rfl, if_pos rfl, pj_bI, pj_bI]
          by_cases c : cnt (tb x) k = i
          · rw [if_pos c, if_pos (by rw [c])]
          · rw [if_neg c, if_neg (by rw [nI_eq (by omega) (by omega)]; exact c)]; rfl
      rw [e]
      cases t : tb x k
      · rw [t] at cs
        rw [if_neg Bool.false_ne_true]
        obtain ⟨r1, r2⟩ := ih (k + 1) q (by omega) (by omega) (by rw [cs]; exact hc)
        refine ⟨fun s a1 a2 a3 a4 => r1 s ?_ a2 a3 a4, r2⟩
        by_cases c : s = k
        · subst c; rw [t] at a3; cases a3
        · omega
      · rw [t] at cs
        have cs : cnt (tb x) (k + 1) = cnt (tb x) k + 1 := cs
        rw [if_pos rfl]
        by_cases c : cnt (tb x) k = i
        · rw [if_pos c]
          refine ⟨fun s a1 a2 a3 a4 => ?_, fun a => ?_⟩
          · by_cases cc : s = k
            · subst cc; rfl
            · have := cnt_mn (f := tb x) (k + 1) s (by omega)
              omega
          · have := cnt_mn (f := tb x) (k + 1) 48 (by omega)
            omega
        · rw [if_neg c]
          obtain ⟨r1, r2⟩ := ih (k + 1) q (by omega) (by omega) (by omega)
          refine ⟨fun s a1 a2 a3 a4 => r1 s ?_ a2 a3 a4, r2⟩
          by_cases cc : s = k
          · subst cc; exact absurd a4 c
          · omega
  obtain ⟨r1, r2⟩ := run 48 0 4000 rfl (by decide) (Nat.zero_le _)
  unfold PJ_numberIn
  exact ⟨fun s a b c => r1 s (Nat.zero_le _) a b c, r2⟩
