/-! join -/
theorem nI_orN {a b : Nat} (ha : a < 2 ^ 31) (hb : b < 2 ^ 31) : nI a ||| nI b = nI (a ||| b) := by
  apply Int32.toBitVec_inj.mp
  apply BitVec.eq_of_toNat_eq
  have h := Nat.or_lt_two_pow ha hb
  show (BitVec.ofNat 32 a ||| BitVec.ofNat 32 b).toNat = (BitVec.ofNat 32 (a ||| b)).toNat
  rw [BitVec.toNat_or, BitVec.toNat_ofNat, BitVec.toNat_ofNat, BitVec.toNat_ofNat, Nat.mod_eq_of_lt (by omega), Nat.mod_eq_of_lt (by omega), Nat.mod_eq_of_lt (by omega)]
theorem sh_k : ∀ k, k < 20 → ((nI k &&& 31).toBitVec.smod 32).toNat = k := by decide +kernel
theorem sh_u : ∀ k, k < 20 → (((nI k).toUInt32 &&& Int32.toUInt32 31).toBitVec % 32).toNat = k := by decide +kernel
theorem bit_s {M i : Nat} (hM : M < 2 ^ 20) (hi : i < 20) : (nI M >>> (nI i &&& 31)) &&& nI 1 = b2i (M.testBit i) := by
  rw [pk_shrN (by omega) _ i (sh_k i hi), nI_and1 (Nat.lt_of_le_of_lt (Nat.div_le_self _ _) (by omega)), Nat.testBit_eq_decide_div_mod_eq]
  have : M / 2 ^ i % 2 = 0 ∨ M / 2 ^ i % 2 = 1 := by omega
  rcases this with h | h <;> rw [h] <;> rfl
theorem bit_u {M i : Nat} (hM : M < 2 ^ 20) (hi : i < 20) : pj_ushr (nI M) (nI i) &&& nI 1 = b2i (M.testBit i) := by
  unfold pj_ushr
  rw [pk_ushrN (by omega) _ i (sh_u i hi), nI_and1 (Nat.lt_of_le_of_lt (Nat.div_le_self _ _) (by omega)), Nat.testBit_eq_decide_div_mod_eq]
  have : M / 2 ^ i % 2 = 0 ∨ M / 2 ^ i % 2 = 1 := by omega
  rcases this with h | h <;> rw [h] <;> rfl
theorem bit_o {M i : Nat} (hM : M < 2 ^ 20) (hi : i < 20) : nI M ||| (nI 1 <<< (nI i &&& 31)) = nI (M ||| 2 ^ i) ∧ M ||| 2 ^ i < 2 ^ 20 := by
  have h : (2 : Nat) ^ i < 2 ^ 20 := Nat.pow_lt_pow_right (by decide) hi
  rw [pk_shlN _ i (sh_k i hi) (by omega), Nat.one_mul, nI_orN (by omega) (by omega)]
  exact ⟨rfl, Nat.or_lt_two_pow hM h⟩
theorem cnt_set {f g : Nat → Bool} {b : Nat} (hb : f b = false) (hg : ∀ i, g i = (f i || decide (i = b))) : ∀ n, cnt g n = cnt f n + (if b < n then 1 else 0)
  | 0 => rfl
  | n + 1 => by
    unfold cnt
    rw [cnt_set hb hg n, hg n]
    by_cases c : n = b
    · subst c
      simp [hb]
    · by_cases c2 : b < n
      · have : b < n + 1 := by omega
        simp [c, c2, this]
        omega
      · have : ¬ b < n + 1 := by omega
        simp [c, c2, this]
/-- the longest that is left -/
def lgB (f : Nat → Nat) (ms : Nat → Bool) : Nat → Option Nat
  | 0 => none
  | k + 1 => match lgB f ms k with
    | none => if ms k then none else some k
    | some b => if ms k then some b else if f k ≤ f b then some b else some k
theorem lgB_s (f : Nat → Nat) (ms : Nat → Bool) (k : Nat) : lgB f ms (k + 1) = match lgB f ms k with
    | none => if ms k then none else some k
    | some b => if ms k then some b else if f k ≤ f b then some b else some k := rfl
theorem lgB_some {f : Nat → Nat} {ms : Nat → Bool} : ∀ {k b : Nat}, lgB f ms k = some b → b < k ∧ ms b = false
  | 0, b, h => by cases h
  | k + 1, b, h => by
    unfold lgB at h
    cases q : lgB f ms k with
    | none =>
      rw [q] at h
      dsimp only at h
      cases m : ms k
      · rw [m, if_neg Bool.false_ne_true] at h
        cases h
        exact ⟨by omega, m⟩
      · rw [m, if_pos rfl] at h
        cases h
    | some c =>
      rw [q] at h
      dsimp only at h
      have := lgB_some q
      cases m : ms k
      · rw [m, if_neg Bool.false_ne_true] at h
        by_cases l : f k ≤ f c
        · rw [if_pos l] at h
          cases h
          exact ⟨by omega, this.2⟩
        · rw [if_neg l] at h
          cases h
          exact ⟨by omega, m⟩
      · rw [m, if_pos rfl] at h
        cases h
        exact ⟨by omega, this.2⟩
theorem lgB_none {f : Nat → Nat} {ms : Nat → Bool} : ∀ {k : Nat}, lgB f ms k = none → cnt ms k = k
  | 0, _ => rfl
  | k + 1, h => by
    unfold lgB at h
    cases q : lgB f ms k with
    | none =>
      rw [q] at h
      dsimp only at h
      cases m : ms k
      · rw [m, if_neg Bool.false_ne_true] at h
        cases h
      · unfold cnt
        rw [lgB_none q, m]
        rfl
    | some c =>
      rw [q] at h
      dsimp only at h
      cases m : ms k
      · rw [m, if_neg Bool.false_ne_true] at h
        by_cases l : f k ≤ f c
        · rw [if_pos l] at h; cases h
        · rw [if_neg l] at h; cases h
      · rw [m, if_pos rfl] at h
        cases h
/-- the mask and the sum behind j takings -/
def jnS (f : Nat → Nat) (nl : Nat) : Nat → Nat × Nat
  | 0 => (0, 0)
  | j + 1 => ((jnS f nl j).1 ||| 2 ^ ((lgB f (jnS f nl j).1.testBit nl).getD 0), (jnS f nl j).2 + f ((lgB f (jnS f nl j).1.testBit nl).getD 0))
theorem jnS_ok {f : Nat → Nat} {nl : Nat} (hn : nl ≤ 20) (hf : ∀ i, i < nl → f i ≤ 180) : ∀ j, j ≤ nl → (jnS f nl j).1 < 2 ^ 20 ∧ (jnS f nl j).2 ≤ 180 * j ∧ cnt (jnS f nl j).1.testBit nl = j ∧ (j < nl → ∃ b, b < nl ∧ lgB f (jnS f nl j).1.testBit nl = some b) := by
  intro j
  have nx : ∀ j, j < nl → cnt (jnS f nl j).1.testBit nl = j → ∃ b, b < nl ∧ lgB f (jnS f nl j).1.testBit nl = some b := fun j hj hc => by
    cases q : lgB f (jnS f nl j).1.testBit nl with
    | none =>
      have := lgB_none q
      omega
    | some b => exact ⟨b, (lgB_some q).1, rfl⟩
  induction j with
  | zero =>
    intro _
    have c0 : ∀ n, cnt (Nat.testBit 0) n = 0 := fun n => by
      induction n with
      | zero => rfl
      | succ n ih => unfold cnt; rw [ih, Nat.zero_testBit]; rfl
    have : cnt (jnS f nl 0).1.testBit nl = 0 := c0 nl
    exact ⟨by show 0 < 2 ^ 20; decide, Nat.le_refl _, this, fun h => nx 0 h this⟩
  | succ j ih =>
    intro hj
    obtain ⟨i1, i2, i3, i4⟩ := ih (by omega)
    obtain ⟨b, b1, b2⟩ := i4 (by omega)
    have e : jnS f nl (j + 1) = ((jnS f nl j).1 ||| 2 ^ b, (jnS f nl j).2 + f b) := by
      show (_, _) = _
      rw [b2]
      rfl
    have c : cnt (jnS f nl (j + 1)).1.testBit nl = j + 1 := by
      rw [e, cnt_set (f := (jnS f nl j).1.testBit) (b := b) (lgB_some b2).2 (fun i => by
        rw [Nat.testBit_or, Nat.testBit_two_pow]
        congr 1
        exact decide_eq_decide.mpr eq_comm), i3, if_pos b1]
    refine ⟨?_, ?_, c, fun h => nx (j + 1) h c⟩
    · rw [e]
      exact (bit_o i1 (by omega)).2
    · rw [e]
      have := hf b b1
      show (jnS f nl j).2 + f b ≤ _
      omega
section JOIN
variable {z : pj_S} {nl : Nat} {f : Nat → Nat}
theorem Wool_longestBut_eq (hn : nl ≤ 20) (h : z.1 11 1 = nI nl) (hf : ∀ i, i < nl → 1 ≤ f i ∧ f i ≤ 180 ∧ z.1 34 i = nI (f i)) (M : Nat) (hM : M < 2 ^ 20) : Wool_longestBut (nI M) z = some (nI ((lgB f M.testBit nl).getD 0), z) := by
  unfold Wool_longestBut
  obtain ⟨a1, a2, a3, a4, z2, ⟨rfl, rfl⟩, e⟩ := pj_loop4 (F := Wool_longestBut_7)
    (P := fun d b1 b2 b3 b4 z' => z' = z ∧ b1 = nI M ∧ ∃ k, k + d = nl ∧ b4 = nI k ∧ b2 = nI ((lgB f M.testBit k).getD 0) ∧ b3 = nI (((lgB f M.testBit k).map f).getD 0))
    (E := fun _ b2 _ _ z' => b2 = nI ((lgB f M.testBit nl).getD 0) ∧ z' = z)
    (G := fun _ b2 _ _ z' => some (b2, z')) (by
      rintro self d b1 b2 b3 b4 z' ⟨rfl, rfl, k, hk, rfl, rfl, rfl⟩
      unfold Wool_longestBut_7 Wool_longestBut_45
      rw [h]
      by_cases c : nl ≤ k
      · left
        have : k = nl := by omega
        subst this
        exact ⟨⟨rfl, rfl⟩, by rw [if_pos (nI_le c (by omega))]⟩
      · right
        obtain ⟨f1, f2, f3⟩ := hf k (by omega)
        rw [if_neg (by rw [nI_leP (by omega) (by omega)]; exact c), bit_u hM (by omega), ib0, Wool_lengthOf_eq z' nl k hn h (by omega), pj_cS, Wool_lengthOf_eq z' nl k hn h (by omega), pj_cS, f3]
        simp only [pj_bI, nI_add]
        refine ⟨d - 1, nI M, nI ((lgB f M.testBit (k + 1)).getD 0), nI (((lgB f M.testBit (k + 1)).map f).getD 0), nI (k + 1), z', by omega, ⟨rfl, rfl, k + 1, by omega, rfl, rfl, rfl⟩, ?_⟩
        rw [lgB_s]
        cases q : lgB f M.testBit k with
        | none =>
          dsimp only
          cases m : M.testBit k
          · rw [if_neg Bool.false_ne_true, if_neg Bool.false_ne_true, if_neg (by show ¬ nI (f k) ≤ nI 0; rw [nI_leP (by omega) (by decide)]; omega)]
            rfl
          · rw [if_pos rfl, if_pos rfl]
        | some b =>
          dsimp only
          have lb := (lgB_some q).1
          obtain ⟨g1, g2, g3⟩ := hf b (by omega)
          cases m : M.testBit k
          · rw [if_neg Bool.false_ne_true, if_neg Bool.false_ne_true]
            by_cases l : f k ≤ f b
            · have x : nI (f k) ≤ nI ((Option.map f (some b)).getD 0) := by show nI (f k) ≤ nI (f b); exact nI_le l (by omega)
              rw [if_pos l, if_pos x]
            · have x : ¬ nI (f k) ≤ nI ((Option.map f (some b)).getD 0) := by show ¬ nI (f k) ≤ nI (f b); rw [nI_leP (by omega) (by omega)]; exact l
              rw [if_neg l, if_neg x]
              rfl
          · rw [if_pos rfl, if_pos rfl])
    4000 nl (nI M) (nI 0) (nI 0) (nI 0) z ⟨rfl, rfl, 0, by omega, rfl, rfl, rfl⟩ (by omega)
  exact e
theorem Wool_fewestFor_eq (hn : nl ≤ 20) (h : z.1 11 1 = nI nl) (hf : ∀ i, i < nl → 1 ≤ f i ∧ f i ≤ 180 ∧ z.1 34 i = nI (f i)) (K : Nat) (hK : 1 ≤ K ∧ K < 2 ^ 31) :
    (Wool_fewestFor (nI K) z = some (-1, z) ∧ ∀ i, i ≤ nl → (jnS f nl i).2 < K) ∨ ∃ j, Wool_fewestFor (nI K) z = some (nI (j + 1), z) ∧ j < nl ∧ K ≤ (jnS f nl (j + 1)).2 ∧ ∀ i, i ≤ j → (jnS f nl i).2 < K := by
  unfold Wool_fewestFor
  obtain ⟨a1, a2, a3, a4, z2, ⟨rfl, j, rfl, hj⟩, e⟩ := pj_loop4 (F := Wool_fewestFor_7)
    (P := fun d b1 b2 b3 b4 z' => z' = z ∧ b1 = nI K ∧ ∃ j, j + d = nl ∧ b2 = nI (jnS f nl j).1 ∧ b3 = nI (jnS f nl j).2 ∧ b4 = nI (j + 1) ∧ ∀ i, i ≤ j → (jnS f nl i).2 < K)
    (E := fun _ _ _ b4 z' => z' = z ∧ ∃ j, b4 = nI (j + 1) ∧ ((j = nl ∧ ∀ i, i ≤ nl → (jnS f nl i).2 < K) ∨ (j < nl ∧ K ≤ (jnS f nl (j + 1)).2 ∧ ∀ i, i ≤ j → (jnS f nl i).2 < K)))
    (G := fun _ _ _ b4 z' => if nI nl < b4 then some (-1, z') else some (b4, z')) (by
      rintro self d b1 b2 b3 b4 z' ⟨rfl, rfl, j, hj, rfl, rfl, rfl, hS⟩
      unfold Wool_fewestFor_7 Wool_fewestFor_44
      rw [h]
      by_cases c : nl < j + 1
      · left
        have : j = nl := by omega
        subst this
        exact ⟨⟨rfl, j, rfl, Or.inl ⟨rfl, hS⟩⟩, by rw [if_pos (nI_lt c (by omega)), if_pos (nI_lt c (by omega))]⟩
      · obtain ⟨i1, i2, i3, i4⟩ := jnS_ok hn (fun i hi => (hf i hi).2.1) j (by omega)
        obtain ⟨b, b1, b2⟩ := i4 (by omega)
        obtain ⟨g1, g2, g3⟩ := hf b b1
        have e : jnS f nl (j + 1) = ((jnS f nl j).1 ||| 2 ^ b, (jnS f nl j).2 + f b) := by
          show (_, _) = _
          rw [b2]
          rfl
        have nlt : ¬ nI nl < nI (j + 1) := by rw [nI_ltP (by omega) (by omega)]; exact c
        rw [if_neg nlt, Wool_longestBut_eq hn h hf _ i1, pj_cS, b2]
        dsimp only [Option.getD]
        rw [(bit_o i1 (by omega)).1, pj_bI, Wool_lengthOf_eq z' nl b hn h b1, pj_cS, g3, nI_add, pj_bI]
        by_cases l : (jnS f nl j).2 + f b < K
        · right
          rw [if_pos (nI_lt l (by omega)), nI_add, pj_bI]
          refine ⟨d - 1, nI K, _, _, _, z', by omega, ⟨rfl, rfl, j + 1, by omega, ?_, ?_, rfl, fun i hi => ?_⟩, rfl⟩
          · rw [e]
          · rw [e]
          · by_cases ci : i ≤ j
            · exact hS i ci
            · have : i = j + 1 := by omega
              subst this
              rw [e]; exact l
        · left
          rw [if_neg (by rw [nI_ltP (by omega) (by omega)]; exact l), if_neg nlt]
          exact ⟨⟨rfl, j, rfl, Or.inr ⟨by omega, by rw [e]; exact Nat.le_of_not_lt l, hS⟩⟩, rfl⟩)
    4000 nl (nI K) (nI 0) (nI 0) (nI 1) z ⟨rfl, rfl, 0, by omega, rfl, rfl, rfl, fun i hi => by
      have : i = 0 := by omega
      subst this
      exact hK.1⟩ (by omega)
  rcases hj with ⟨rfl, hS⟩ | ⟨h1, h2, h3⟩
  · left
    rw [e, if_pos (nI_lt (by omega) (by omega))]
    exact ⟨rfl, hS⟩
  · right
    refine ⟨j, ?_, h1, h2, h3⟩
    rw [e, if_neg (by rw [nI_ltP (by omega) (by omega)]; omega)]
theorem Md_join_36_eq (hn : nl ≤ 20) (h : z.1 1 3 = nI nl) (hf : ∀ i, i < nl → 1 ≤ f i ∧ f i ≤ 180 ∧ z.1 1 (270 + i) = nI (f i)) (s14 : Int32 → Int32 → Int32 → Int32 → pj_S → Option (Int32 × pj_S)) (M b : Nat) (hM : M < 2 ^ 20) (hb : lgB f M.testBit nl = some b) (v1 v3 v4 : Int32) :
    pj_lp6 (Md_join_36 s14) 4000 v1 (nI M) v3 v4 (-1) (nI 0) z = Md_join_97 s14 v1 (nI M) v3 v4 (nI b) z := by
  obtain ⟨a1, a2, a3, a4, a5, a6, z2, ⟨rfl, rfl, rfl, rfl, rfl, rfl⟩, e⟩ := pj_loop6 (F := Md_join_36 s14)
    (P := fun d b1 b2 b3 b4 b5 b6 z' => z' = z ∧ b1 = v1 ∧ b2 = nI M ∧ b3 = v3 ∧ b4 = v4 ∧ ∃ k, k + d = nl ∧ b6 = nI k ∧ b5 = ((lgB f M.testBit k).map nI).getD (-1))
    (E := fun b1 b2 b3 b4 b5 _ z' => z' = z ∧ b1 = v1 ∧ b2 = nI M ∧ b3 = v3 ∧ b4 = v4 ∧ b5 = nI b)
    (G := fun b1 b2 b3 b4 b5 _ z' => Md_join_97 s14 b1 b2 b3 b4 b5 z') (by
      rintro self d b1 b2 b3 b4 b5 b6 z' ⟨rfl, rfl, rfl, rfl, rfl, k, hk, rfl, rfl⟩
      unfold Md_join_36 Md_join_87 Md_join_91
      rw [pj_gIn (n := 3) (by decide) (by decide), nI_clamp (n := 3) (by decide), h]
      by_cases c : nl ≤ k
      · left
        have : k = nl := by omega
        subst this
        refine ⟨⟨rfl, rfl, rfl, rfl, rfl, ?_⟩, by rw [if_pos (nI_le c (by omega))]⟩
        rw [hb]; rfl
      · right
        obtain ⟨f1, f2, f3⟩ := hf k (by omega)
        have i1 : nI 270 + nI k = nI (270 + k) := by rw [nI_add]
        rw [if_neg (by rw [nI_leP (by omega) (by omega)]; exact c), bit_s hM (by omega), ib0]
        simp only [pj_bI, nI_add]
        refine ⟨d - 1, b1, nI M, b3, b4, ((lgB f M.testBit (k + 1)).map nI).getD (-1), nI (k + 1), z', by omega, ⟨rfl, rfl, rfl, rfl, rfl, k + 1, by omega, rfl, rfl⟩, ?_⟩
        rw [lgB_s]
        cases q : lgB f M.testBit k with
        | none =>
          dsimp only
          cases m : M.testBit k
          · have x : (Option.map nI none).getD (-1) = (-1 : Int32) := rfl
            rw [if_neg Bool.false_ne_true, if_neg Bool.false_ne_true, if_pos x]
            rfl
          · rw [if_pos rfl, if_pos rfl]
        | some c =>
          dsimp only
          have lb := (lgB_some q).1
          obtain ⟨g1, g2, g3⟩ := hf c (by omega)
          cases m : M.testBit k
          · have i2 : nI 270 + ((some c).map nI).getD (-1) = nI (270 + c) := by show nI 270 + nI c = _; rw [nI_add]
            have ne : ¬ ((some c).map nI).getD (-1) = (-1 : Int32) := by
              show ¬ nI c = -1
              intro q
              have := nI_toInt (n := c) (by omega)
              rw [q] at this
              have t : (-1 : Int32).toInt = -1 := by decide
              omega
            rw [if_neg Bool.false_ne_true, if_neg Bool.false_ne_true, if_neg ne, i2, pj_gIn (n := 270 + k) (by omega) (by decide), pj_gIn (n := 270 + c) (by omega) (by decide), nI_clamp (n := 270 + k) (by omega), nI_clamp (n := 270 + c) (by omega), f3, g3]
            by_cases l : f k ≤ f c
            · rw [if_pos l, if_pos (nI_le l (by omega))]
            · rw [if_neg l, if_neg (by rw [nI_leP (by omega) (by omega)]; exact l)]
              rfl
          · rw [if_pos rfl, if_pos rfl])
    4000 nl v1 (nI M) v3 v4 (-1) (nI 0) z ⟨rfl, rfl, rfl, rfl, rfl, 0, by omega, rfl, rfl⟩ (by omega)
  exact e
theorem Md_join_eq (hn : nl ≤ 20) (h : z.1 1 3 = nI nl) (hf : ∀ i, i < nl → 1 ≤ f i ∧ f i ≤ 180 ∧ z.1 1 (270 + i) = nI (f i)) (K : Nat) (hK : 1 ≤ K ∧ K < 2 ^ 31) :
    ∃ j, j ≤ nl ∧ pj_lp4 Md_join_14 4000 (nI K) (nI 0) (nI 0) (nI 0) z = (if (jnS f nl j).2 < K then some (-1, z) else some (nI j, z)) ∧ (K ≤ (jnS f nl j).2 ∨ j = nl) ∧ ∀ i, i < j → (jnS f nl i).2 < K := by
  obtain ⟨a1, a2, a3, a4, z2, ⟨rfl, rfl, j, j1, rfl, rfl, j2, j3⟩, e⟩ := pj_loop4 (F := Md_join_14)
    (P := fun d b1 b2 b3 b4 z' => z' = z ∧ b1 = nI K ∧ ∃ j, j + d = nl ∧ b2 = nI (jnS f nl j).1 ∧ b3 = nI (jnS f nl j).2 ∧ b4 = nI j ∧ ∀ i, i < j → (jnS f nl i).2 < K)
    (E := fun b1 _ b3 b4 z' => z' = z ∧ b1 = nI K ∧ ∃ j, j ≤ nl ∧ b3 = nI (jnS f nl j).2 ∧ b4 = nI j ∧ (K ≤ (jnS f nl j).2 ∨ j = nl) ∧ ∀ i, i < j → (jnS f nl i).2 < K)
    (G := fun b1 _ b3 b4 z' => Md_join_124 b1 b3 b4 z') (by
      rintro self d b1 b2 b3 b4 z' ⟨rfl, rfl, j, hj, rfl, rfl, rfl, hS⟩
      obtain ⟨i1, i2, i3, i4⟩ := jnS_ok hn (fun i hi => (hf i hi).2.1) j (by omega)
      unfold Md_join_14
      by_cases l : K ≤ (jnS f nl j).2
      · left
        rw [if_pos (nI_le l (by omega))]
        exact ⟨⟨rfl, rfl, j, by omega, rfl, rfl, Or.inl l, hS⟩, rfl⟩
      · rw [if_neg (by rw [nI_leP (by omega) (by omega)]; exact l), pj_gIn (n := 3) (by decide) (by decide), nI_clamp (n := 3) (by decide), h]
        by_cases c : nl ≤ j
        · left
          rw [if_pos (nI_le c (by omega))]
          exact ⟨⟨rfl, rfl, j, by omega, rfl, rfl, Or.inr (by omega), hS⟩, rfl⟩
        · right
          obtain ⟨b, b1, b2⟩ := i4 (by omega)
          obtain ⟨g1, g2, g3⟩ := hf b b1
          have e : jnS f nl (j + 1) = ((jnS f nl j).1 ||| 2 ^ b, (jnS f nl j).2 + f b) := by
            show (_, _) = _
            rw [b2]
            rfl
          have i9 : nI 270 + nI b = nI (270 + b) := by rw [nI_add]
          rw [if_neg (by rw [nI_leP (by omega) (by omega)]; exact c), Md_join_36_eq hn h hf self _ b i1 b2]
          unfold Md_join_97
          rw [(bit_o i1 (by omega)).1, pj_bI, i9, pj_gIn (n := 270 + b) (by omega) (by decide), nI_clamp (n := 270 + b) (by omega), g3, nI_add, nI_add, pj_bI, pj_bI]
          refine ⟨d - 1, nI K, _, _, _, z', by omega, ⟨rfl, rfl, j + 1, by omega, ?_, ?_, rfl, fun i hi => ?_⟩, rfl⟩
          · rw [e]
          · rw [e]
          · by_cases ci : i < j
            · exact hS i ci
            · have : i = j := by omega
              subst this
              omega)
    4000 nl (nI K) (nI 0) (nI 0) (nI 0) z ⟨rfl, rfl, 0, by omega, rfl, rfl, rfl, fun i hi => absurd hi (by omega)⟩ (by omega)
  obtain ⟨i1, i2, i3, i4⟩ := jnS_ok hn (fun i hi => (hf i hi).2.1) j j1
  refine ⟨j, j1, ?_, j2, j3⟩
  rw [e]
  unfold Md_join_124
  by_cases l : (jnS f nl j).2 < K
  · rw [if_pos l, if_pos (nI_lt l (by omega))]
  · rw [if_neg l, if_neg (by rw [nI_ltP (by omega) (by omega)]; exact l)]
end JOIN
theorem ok_join (a : Int32) : pj_ok pa_I (PJ_join a) (Md_join a) := by
  intro zC zM h
  obtain ⟨⟨W, H, b, hr, nb, nl, pr, n, m, hA⟩, hK⟩ := id h
  obtain ⟨⟨hF, hH, hd, hB, hU, hL⟩, h1, h2, h3, hP⟩ := id hA
  obtain ⟨f, hf⟩ := hU.nat
  have fin : ∀ r : Int32, ∃ r2 zC2 zM2, some (r, zC) = some (r2, zC2) ∧ some (r, zM) = some (r2, zM2) ∧ pa_I zC2 zM2 := fun r => ⟨r, zC, zM, rfl, rfl, h⟩
  unfold PJ_join Md_join
  by_cases c : nI 1 ≤ a
  · rw [if_pos c, if_pos c]
    rcases nI_or a with ⟨K, k1, rfl⟩ | hn
    · rw [nI_leP (by decide) k1] at c
      obtain ⟨j2, q1, q2, q3, q4⟩ := Md_join_eq hU.1 hU.2.2.1 (fun i hi => ⟨(hf i hi).1, (hf i hi).2.1, (hf i hi).2.2.2⟩) K ⟨c, k1⟩
      rw [q2]
      rcases Wool_fewestFor_eq hU.1 hU.2.1 (fun i hi => ⟨(hf i hi).1, (hf i hi).2.1, (hf i hi).2.2.1⟩) K ⟨c, k1⟩ with ⟨e, hS⟩ | ⟨j, e, e1, e2, e3⟩
      · rw [e, pj_cS, if_pos (hS j2 q1)]
        exact fin _
      · have : j2 = j + 1 := by
          by_cases l : j2 ≤ j
          · have := e3 j2 l
            rcases q3 with q3 | q3
            · omega
            · omega
          · by_cases l2 : j + 1 < j2
            · have := q4 (j + 1) l2
              omega
            · omega
        subst this
        rw [e, pj_cS, if_neg (by omega)]
        exact fin _
    · exact absurd c (ng_nle hn (by decide))
  · rw [if_neg c, if_neg c]
    exact fin _
