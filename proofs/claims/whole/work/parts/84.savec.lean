/-! save: the class -/
def cac (ca : Nat → Bool) (ch : List Nat) (t : Nat) : Bool := ca t || decide (t ∈ ch)
def gng (W H : Nat) (b : Bool) (kd : Nat → Nat) (ca he : Nat → Bool) (ch : List Nat) (t : Nat) : Bool := he t && !itr W H b kd (cac ca ch) H he t
def svN (W H : Nat) (b : Bool) (kd : Nat → Nat) (ca he : Nat → Bool) (ch : List Nat) : Nat := cnt (gng W H b kd ca he ch) 64
def stC (zc : pj_S) : svS → Prop
  | none => zc.1 7 0 = nI 37
  | some (k, l) => k ≤ 36 ∧ zc.1 7 0 = nI k ∧ ∀ t, t < 64 → tb (zc.2 7 1) t = decide (t ∈ l)
def agS (z z2 : pj_S) : Prop := ∀ c, c ≠ 7 → z2.1 c = z.1 c ∧ z2.2 c = z.2 c
theorem hl_ca {W H : Nat} {b : Bool} {kd : Nat → Nat} {ca ca2 X : Nat → Bool} {t : Nat} (h : ca t = true → ca2 t = true) (q : hl W H b kd ca X t = true) : hl W H b kd ca2 X t = true := by
  unfold hl at q ⊢
  simp only [Bool.and_eq_true, Bool.or_eq_true] at q ⊢
  refine ⟨q.1, ?_⟩
  rcases q.2 with (q | q) | q
  · exact Or.inl (Or.inl (h q))
  · exact Or.inl (Or.inr q)
  · exact Or.inr q
/-- to catch what stays changes nothing -/
theorem itr_stay {W H : Nat} {b : Bool} {kd : Nat → Nat} {ca he : Nat → Bool} {ch : List Nat} {s : Nat} (hW : W ≤ 6) (hX : ∀ s, he s = true → stit W H s = true) (hs : itr W H b kd (cac ca ch) H he s = true) (t : Nat) :
    itr W H b kd (cac ca (ch ++ [s])) H he t = itr W H b kd (cac ca ch) H he t := by
  have up : ∀ t, cac ca ch t = true → cac ca (ch ++ [s]) t = true := fun t h => by
    unfold cac at h ⊢
    simp only [Bool.or_eq_true, decide_eq_true_eq, List.mem_append] at h ⊢
    rcases h with h | h
    · exact Or.inl h
    · exact Or.inr (Or.inl h)
  have dn : ∀ t, t ≠ s → cac ca (ch ++ [s]) t = true → cac ca ch t = true := fun t c h => by
    unfold cac at h ⊢
    simp only [Bool.or_eq_true, decide_eq_true_eq, List.mem_append, List.mem_singleton] at h ⊢
    rcases h with h | h | h
    · exact Or.inl h
    · exact Or.inr h
    · exact absurd h c
  have sub : ∀ t, itr W H b kd (cac ca ch) H he t = true → itr W H b kd (cac ca (ch ++ [s])) H he t = true := fun t ht => itr_up (Y := itr W H b kd (cac ca ch) H he) (fun s h => itr_sub H s h) (fun u hu => hl_ca (up u) (by rw [itr_fix hW hX]; exact hu)) H t ht
  refine itr_uniq hW hX (R := itr W H b kd (cac ca (ch ++ [s])) H he) (fun u hu => itr_sub H u hu) (fun u hu => ?_) (fun Y h1 h2 u hu => itr_up h1 (fun v hv => hl_ca (up v) (h2 v hv)) H u hu) t
  by_cases c : u = s
  · subst c
    exact hl_mono sub u (by rw [itr_fix hW hX]; exact hs)
  · exact hl_ca (dn u c) (by rw [itr_fix hW hX]; exact hu)
def mskT : Nat → Bool
  | 0 => true
  | k + 1 => mskT k && decide ((pj_shlL (pj_shlL (1 : Int64) (nI k)) (nI 1) - (1 : Int64)).toBitVec.toNat = 2 ^ (k + 1) - 1)
theorem mskT_48 : mskT 48 = true := by decide +kernel
theorem mskT_at : ∀ n, mskT n = true → ∀ k, k < n → (pj_shlL (pj_shlL (1 : Int64) (nI k)) (nI 1) - (1 : Int64)).toBitVec.toNat = 2 ^ (k + 1) - 1
  | 0, _, k, h => by omega
  | n + 1, e, k, h => by
    unfold mskT at e
    rw [Bool.and_eq_true, decide_eq_true_eq] at e
    by_cases c : k = n
    · subst c; exact e.2
    · exact mskT_at n e.1 k (by omega)
theorem tb_msk (k : Nat) (hk : k < 48) (t : Nat) : tb (pj_shlL (pj_shlL (1 : Int64) (nI k)) (nI 1) - (1 : Int64)) t = decide (t ≤ k) := by
  unfold tb BitVec.getLsbD
  rw [mskT_at 48 mskT_48 k hk, Nat.testBit_two_pow_sub_one]
  exact decide_eq_decide.mpr (by omega)
theorem and_bit0 (x : Int64) (k : Nat) (hk : k < 64) : (lg_cmp (x &&& pj_shlL (1 : Int64) (nI k)) 0 = 0) = (tb x k = false) := by
  rw [lg_cmp_eq]
  apply propext
  constructor
  · intro h
    have : tb (x &&& pj_shlL (1 : Int64) (nI k)) k = tb 0 k := by rw [h]
    rw [tb_and, tb_bit k hk, tb_0, decide_eq_true rfl, Bool.and_true] at this
    exact this
  · intro h
    apply tb_ext
    intro i hi
    rw [tb_and, tb_bit k hk, tb_0]
    by_cases c : i = k
    · subst c; rw [h]; rfl
    · rw [decide_eq_false c, Bool.and_false]
theorem sv_s (fr : Nat → Bool) (N : List Nat → Nat) (r : Nat) (ch : List Nat) (k : Nat) (st : svS) : sv fr N (r + 1) ch k st = svL (fun t st => if fr t then sv fr N r (ch ++ [t]) (t + 1) st else st) (64 - k) k st := rfl
section SC
variable {W H : Nat} {b : Bool} {zC : pj_S} {w : Nat → Int32}
/-- the class's own words for the spec -/
def scN (W H : Nat) (b : Bool) (zC : pj_S) : List Nat → Nat := svN W H b (kdb (tb (zC.2 8 4)) (tb (zC.2 8 5))) (tb (zC.2 8 7)) (tb (zC.2 8 6))
def scR (zC : pj_S) (t : Nat) : Bool := tb (zC.2 8 6) t && !tb (zC.2 8 7) t
def scG (W H : Nat) (b : Bool) (zC : pj_S) : List Nat → Nat → Bool := gng W H b (kdb (tb (zC.2 8 4)) (tb (zC.2 8 5))) (tb (zC.2 8 7)) (tb (zC.2 8 6))
theorem Saver_goingWith_eq (hF : pa_F W H b (zC.1 8) (zC.2 8) w) {zc : pj_S} (ha : agS zC zc) {x : Int64} {ch : List Nat} (hx : ∀ t, t < 64 → tb x t = decide (t ∈ ch)) (hch : ∀ t, t ∈ ch → t < 48) :
    ∃ r, Saver_goingWith x zc = some (r, zc) ∧ ∀ t, t < 64 → tb r t = scG W H b zC ch t := by
  have e81 := (ha 8 (by decide)).1
  have e82 := (ha 8 (by decide)).2
  have hFc : pa_F W H b (zc.1 8) (zc.2 8) w := by rw [e81, e82]; exact hF
  obtain ⟨r, e, er⟩ := Fabric_inTheEnd_eq hFc (zc.2 8 6) ((zc.2 8 7) ||| x) (fun s _ h => hFc.here s h)
  refine ⟨_, by unfold Saver_goingWith; rw [e, pj_cS], fun t ht => ?_⟩
  rw [tb_and, tb_not _ _ ht, er t ht, e82]
  have : tb ((zC.2 8 7) ||| x) = cac (tb (zC.2 8 7)) ch := by
    funext u
    unfold cac
    rw [tb_or]
    by_cases c : u < 64
    · rw [hx u c]
    · rw [tb_ge (x := x) (by omega), decide_eq_false (fun q => by have := hch u q; omega)]
  rw [this]; rfl
theorem choose_run (hF : pa_F W H b (zC.1 8) (zC.2 8) w) : ∀ r q ch k (free chosen going : Int64) zc st, r < q → r ≤ 3 → agS zC zc → k ≤ 48 → (∀ t, t < 64 → tb free t = (scR zC t && decide (k ≤ t))) → (∀ t, t < 64 → tb chosen t = decide (t ∈ ch)) → (∀ t, t ∈ ch → t < 48) →
    (∀ t, t < 64 → tb going t = scG W H b zC ch t) → stC zc st → ∃ zc2, pj_lp4 Saver_choose_B q free (nI r) chosen going zc = some ((), zc2) ∧ agS zC zc2 ∧ stC zc2 (sv (scR zC) (scN W H b zC) r ch k st)
  | 0, q, ch, k, free, chosen, going, zc, st, hq, h3, ha, hk, hfr, hc, hch, hg, hst => by
    obtain ⟨q, rfl⟩ : ∃ p, q = p + 1 := ⟨q - 1, by omega⟩
    have N36 : scN W H b zC ch ≤ 36 := by
      have a1 : cnt (scG W H b zC ch) 64 ≤ cnt (stit 6 6) 64 := cnt_mono 64 (fun i _ hi => by
        have hi : gng W H b (kdb (tb (zC.2 8 4)) (tb (zC.2 8 5))) (tb (zC.2 8 7)) (tb (zC.2 8 6)) ch i = true := hi
        unfold gng at hi
        rw [Bool.and_eq_true] at hi
        have := hF.here i hi.1
        have hb := hF.1
        unfold stit at this ⊢
        simp only [Bool.and_eq_true, decide_eq_true_eq] at this ⊢
        omega)
      have a2 : cnt (stit 6 6) 64 = 36 := by decide
      rw [a2] at a1
      exact a1
    have eN : cnt (tb going) 64 = scN W H b zC ch := cnt_congr 64 hg
    have n0 : ¬ (0 : Int32) < nI 0 := by decide
    rw [pj_lp4_s]
    unfold Saver_choose_B
    rw [if_neg n0, JLong_bitCount_eq, pj_cS, eN]
    have put : ∃ zc2, (pj_c (JLong_bitCount going zc) fun r6 z5 => pj_b (pj_sI z5 7 0 r6) fun z7 => pj_b (pj_sJ z7 7 1 chosen) fun z8 => some ((), z8)) = some ((), zc2) ∧ agS zC zc2 ∧ stC zc2 (some (scN W H b zC ch, ch)) := by
      rw [JLong_bitCount_eq, pj_cS, eN, pj_bI, pj_bI]
      refine ⟨_, rfl, fun c hc => ?_, N36, rfl, hc⟩
      rw [pj_sJ1, ag_n _ _ _ _ hc, sJ_n _ _ _ _ hc]
      exact ha c hc
    cases st with
    | none =>
      have hst : zc.1 7 0 = nI 37 := hst
      rw [hst, if_neg (by rw [nI_leP (by decide) (by omega)]; omega)]
      exact put
    | some p =>
      obtain ⟨a, l⟩ := p
      obtain ⟨s1, s2, s3⟩ := hst
      rw [s2]
      show ∃ zc2, _ ∧ agS zC zc2 ∧ stC zc2 (if scN W H b zC ch < a then some (scN W H b zC ch, ch) else some (a, l))
      by_cases c : a ≤ scN W H b zC ch
      · rw [if_pos (nI_le c (by omega)), if_neg (by omega)]
        exact ⟨zc, rfl, ha, s1, s2, s3⟩
      · rw [if_neg (by rw [nI_leP (by omega) (by omega)]; exact c), if_pos (by omega)]
        exact put
  | r + 1, q, ch, k, free, chosen, going, zc, st, hq, h3, ha, hk, hfr, hc, hch, hg, hst => by
    obtain ⟨q, rfl⟩ : ∃ p, q = p + 1 := ⟨q - 1, by omega⟩
    have rc := fun ch k (free chosen going : Int64) zc st => choose_run hF r q ch k free chosen going zc st (by omega) (by omega)
    have n0 : (0 : Int32) < nI (r + 1) := by
      show nI 0 < nI (r + 1)
      exact nI_lt (by omega) (by omega)
    rw [pj_lp4_s]
    generalize pj_lp4 Saver_choose_B q = sR at rc ⊢
    unfold Saver_choose_B
    rw [if_pos n0]
    have loop : ∀ d j p zc st, j + d = 48 → d < p → agS zC zc → stC zc st → ∃ zc2, pj_lp5 (Saver_choose_36 sR) p free (nI (r + 1)) chosen going (nI j) zc = some ((), zc2) ∧ agS zC zc2 ∧
        stC zc2 (svL (fun t st => if tb free t then sv (scR zC) (scN W H b zC) r (ch ++ [t]) (t + 1) st else st) d j st) := fun d => by
      induction d with
      | zero =>
        intro j p zc st hj hp ha hst
        obtain ⟨p, rfl⟩ : ∃ x, p = x + 1 := ⟨p - 1, by omega⟩
        refine ⟨zc, ?_, ha, hst⟩
        rw [pj_lp5_s]
        unfold Saver_choose_36
        rw [if_pos (nI_le (by omega) (by omega))]
      | succ d ih =>
        intro j p zc st hj hp ha hst
        obtain ⟨p, rfl⟩ : ∃ x, p = x + 1 := ⟨p - 1, by omega⟩
        rw [pj_lp5_s]
        -- nothing runs: no better can come
        by_cases c0 : ∃ l, st = some (0, l)
        · obtain ⟨l, rfl⟩ := c0
          obtain ⟨s1, s2, s3⟩ := hst
          refine ⟨zc, ?_, ha, ?_⟩
          · unfold Saver_choose_36
            rw [if_neg (by rw [nI_leP (by decide) (by omega)]; omega), s2, if_pos (by decide)]
          · have : svL (fun t st => if tb free t then sv (scR zC) (scN W H b zC) r (ch ++ [t]) (t + 1) st else st) (d + 1) j (some (0, l)) = some (0, l) := by
              refine svL_keep (P := fun st => st = some (0, l)) (fun t st q => ?_) _ _ _ rfl
              subst q
              by_cases cf : tb free t = true
              · rw [if_pos cf, sv_zero]
              · rw [if_neg cf]
            rw [this]
            exact ⟨s1, s2, s3⟩
        · have pos : ¬ zc.1 7 0 ≤ 0 := by
            cases st with
            | none =>
              have hst : zc.1 7 0 = nI 37 := hst
              rw [hst]; decide
            | some pp =>
              obtain ⟨a, l⟩ := pp
              obtain ⟨s1, s2, s3⟩ := hst
              rw [s2]
              exact nI_nle (by
                have : a ≠ 0 := fun e => c0 ⟨l, by rw [e]⟩
                omega) (by omega)
          have i1 : nI j + nI 1 = nI (j + 1) := by rw [nI_add]
          have i2 : nI (r + 1) - nI 1 = nI r := by rw [pk_sub (by omega)]; rfl
          generalize hself : pj_lp5 (Saver_choose_36 sR) p = self
          have ih2 := fun zc st => ih (j + 1) p zc st (by omega) (by omega)
          rw [hself] at ih2
          unfold Saver_choose_36 Saver_choose_123
          rw [if_neg (by rw [nI_leP (by decide) (by omega)]; omega), if_neg pos, pj_bI, i1]
          show ∃ zc2, _ ∧ agS zC zc2 ∧ stC zc2 (svL _ d (j + 1) (if tb free j then sv (scR zC) (scN W H b zC) r (ch ++ [j]) (j + 1) st else st))
          cases fj : tb free j
          · rw [if_pos (by rw [and_bit0 _ _ (by omega)]; exact fj), pj_bI, if_neg Bool.false_ne_true]
            exact ih2 zc st ha hst
          · rw [if_neg (by rw [and_bit0 _ _ (by omega), fj]; exact fun q => by cases q), if_pos rfl]
            -- the choice with j
            have hj : scR zC j = true ∧ k ≤ j := by
              have := (hfr j (by omega)).symm.trans fj
              rw [Bool.and_eq_true, decide_eq_true_eq] at this
              exact this
            have nc : ∀ t, t < 64 → tb (chosen ||| pj_shlL (1 : Int64) (nI j)) t = decide (t ∈ ch ++ [j]) := fun t ht => by
              rw [tb_or, tb_bit j (by omega), hc t ht, Bool.eq_iff_iff]; simp
            have nch : ∀ t, t ∈ ch ++ [j] → t < 48 := fun t ht => by
              rw [List.mem_append, List.mem_singleton] at ht
              rcases ht with ht | rfl
              · exact hch t ht
              · omega
            have nf : ∀ t, t < 64 → tb (free &&& (((pj_shlL (pj_shlL (1 : Int64) (nI j)) (nI 1)) - (1 : Int64)) ^^^ (-1 : Int64))) t = (scR zC t && decide (j + 1 ≤ t)) := fun t ht => by
              rw [tb_and, tb_not _ _ ht, tb_msk j (by omega), hfr t ht, Bool.and_assoc]
              congr 1
              rw [Bool.eq_iff_iff]
              simp
              omega
            have go : ∀ (g2 : Int64) (zc : pj_S), agS zC zc → stC zc st → (∀ t, t < 64 → tb g2 t = scG W H b zC (ch ++ [j]) t) → ∃ zc2, Saver_choose_89 sR self free (nI (r + 1)) chosen going (nI j) (pj_shlL (1 : Int64) (nI j)) g2 zc = some ((), zc2) ∧ agS zC zc2 ∧
                stC zc2 (svL (fun t st => if tb free t then sv (scR zC) (scN W H b zC) r (ch ++ [t]) (t + 1) st else st) d (j + 1) (sv (scR zC) (scN W H b zC) r (ch ++ [j]) (j + 1) st)) := fun g2 zc ha hst hg2 => by
              obtain ⟨z5, e5, a5, s5⟩ := rc (ch ++ [j]) (j + 1) _ _ g2 zc st ha (by omega) nf nc nch hg2 hst
              unfold Saver_choose_89 Saver_choose_123
              rw [pj_bI, i2, e5, pj_cS, i1, pj_bI]
              exact ih2 z5 _ a5 s5
            cases gj : tb going j
            · rw [if_pos (by rw [and_bit0 _ _ (by omega)]; exact gj)]
              refine go going zc ha hst (fun t ht => ?_)
              rw [hg t ht]
              have stay : itr W H b (kdb (tb (zC.2 8 4)) (tb (zC.2 8 5))) (cac (tb (zC.2 8 7)) ch) H (tb (zC.2 8 6)) j = true := by
                have q1 := (hg j (by omega)).symm.trans gj
                have q2 : tb (zC.2 8 6) j = true := by
                  have := hj.1
                  unfold scR at this
                  rw [Bool.and_eq_true] at this
                  exact this.1
                have q1 : (tb (zC.2 8 6) j && !itr W H b (kdb (tb (zC.2 8 4)) (tb (zC.2 8 5))) (cac (tb (zC.2 8 7)) ch) H (tb (zC.2 8 6)) j) = false := q1
                rw [q2, Bool.true_and] at q1
                simpa using q1
              show gng _ _ _ _ _ _ _ _ = gng _ _ _ _ _ _ _ _
              unfold gng
              rw [itr_stay hF.1.2.1 hF.here stay t]
            · rw [if_neg (by rw [and_bit0 _ _ (by omega), gj]; exact fun q => by cases q)]
              obtain ⟨g2, e2, eg2⟩ := Saver_goingWith_eq hF ha nc nch
              rw [e2, pj_cS]
              exact go g2 zc ha hst eg2
    obtain ⟨zc2, e, a2, s2⟩ := loop 48 0 4000 zc st rfl (by decide) ha hst
    refine ⟨zc2, e, a2, ?_⟩
    have eqv : svL (fun t st => if tb free t then sv (scR zC) (scN W H b zC) r (ch ++ [t]) (t + 1) st else st) 48 0 st = sv (scR zC) (scN W H b zC) (r + 1) ch k st := by
      rw [sv_s, show (48 : Nat) = k + (48 - k) by omega, svL_add k (48 - k) 0 st, svL_id k 0 st (fun t st _ ht => by
        rw [if_neg (by rw [hfr t (by omega), decide_eq_false (by omega), Bool.and_false]; exact Bool.false_ne_true)]), Nat.zero_add, show 64 - k = (48 - k) + 16 by omega, svL_add (48 - k) 16 k st]
      rw [svL_id 16 (k + (48 - k)) _ (fun t st t1 t2 => by
        rw [if_neg (fun q => by
          unfold scR at q
          rw [Bool.and_eq_true] at q
          have := stit_48 hF.1.2.2.2 (hF.here t q.1)
          omega)])]
      refine svL_congr _ _ _ (fun t st t1 t2 => ?_)
      rw [hfr t (by omega), decide_eq_true t1, Bool.and_true]
    rw [← eqv]
    exact s2
end SC
