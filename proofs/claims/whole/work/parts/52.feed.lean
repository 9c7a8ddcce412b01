/-! feed -/
theorem nI_self (y : Int32) : y = nI y.toBitVec.toNat := by
  apply Int32.toBitVec_inj.mp
  apply BitVec.eq_of_toNat_eq
  show y.toBitVec.toNat = (BitVec.ofNat 32 y.toBitVec.toNat).toNat
  rw [BitVec.toNat_ofNat, Nat.mod_eq_of_lt y.toBitVec.isLt]
theorem nI_and255 (y : Int32) : ∃ c : Nat, c < 256 ∧ y &&& nI 255 = nI c := by
  refine ⟨y.toBitVec.toNat % 256, Nat.mod_lt _ (by decide), ?_⟩
  have : nI y.toBitVec.toNat &&& nI 255 = nI (y.toBitVec.toNat % 256) := pk_andN y.toBitVec.isLt 8 (by decide)
  rw [← nI_self y] at this
  exact this
theorem sh_c : ∀ k, k < 32 → ((nI k).toUInt32 &&& Int32.toUInt32 31) = UInt32.ofNat k := by decide +kernel
theorem sh_m : ∀ k, k < 32 → (nI k &&& 31).toBitVec.smod 32 = BitVec.ofNat 32 k := by decide +kernel
theorem sh_255 : ∀ i, i < 32 → (255 : Int32).toBitVec.getLsbD i = decide (i < 8) := by decide +kernel
theorem byteA (v : Int32) (k : Nat) (hk : k ≤ 24) : vp_nar .byte (Int8.toInt32 (Int32.toInt8 (pj_ushr v (nI k)))) &&& 255 = (v >>> (nI k &&& 31)) &&& nI 255 := by
  apply Int32.toBitVec_inj.mp
  apply BitVec.eq_of_getLsbD_eq
  intro i hi
  have e255 : (nI 255) = (255 : Int32) := rfl
  rw [e255, Int32.toBitVec_and, Int32.toBitVec_and, BitVec.getLsbD_and, BitVec.getLsbD_and, sh_255 i hi]
  by_cases c : i < 8
  · have h1 : (pj_ushr v (nI k)).toBitVec = v.toBitVec >>> k := by
      unfold pj_ushr
      rw [sh_c k (by omega)]
      apply BitVec.eq_of_toNat_eq
      show (v.toUInt32 >>> UInt32.ofNat k).toNat = _
      have h1 : (UInt32.ofNat k).toNat = k := by
        show (BitVec.ofNat 32 k).toNat = k
        rw [BitVec.toNat_ofNat, Nat.mod_eq_of_lt (by omega)]
      rw [UInt32.toNat_shiftRight, h1, Nat.mod_eq_of_lt (by omega), BitVec.toNat_ushiftRight]
      rfl
    have h2 : (v >>> (nI k &&& 31)).toBitVec = v.toBitVec.sshiftRight k := by
      rw [Int32.toBitVec_shiftRight, sh_m k (by omega)]
      show v.toBitVec.sshiftRight (BitVec.ofNat 32 k).toNat = _
      rw [BitVec.toNat_ofNat, Nat.mod_eq_of_lt (by omega)]
    have h3 : ∀ x : Int32, (vp_nar .byte (Int8.toInt32 (Int32.toInt8 x))).toBitVec.getLsbD i = x.toBitVec.getLsbD i := fun x => by
      show (((x.toBitVec.signExtend 8).signExtend 32).signExtend 8 |>.signExtend 32).getLsbD i = _
      simp only [BitVec.getLsbD_signExtend, c, hi, decide_true, Bool.true_and, ↓reduceIte]
    rw [h3, h1, h2, BitVec.getLsbD_ushiftRight, BitVec.getLsbD_sshiftRight]
    have : k + i < 32 := by omega
    rw [if_pos this, show decide (32 ≤ i) = false by simp; omega]
    simp only [Bool.not_false, Bool.true_and]
  · simp [c]
theorem tape_step {self : Int32 → Int32 → pj_S → Option (Unit × pj_S)} (v : Int32) (k n : Nat) (hk : k ≤ 24) (hn : n < 400) (z : pj_S) (h : z.1 4 1 = nI n) :
    Tape_add_3 self v (nI k) z = self v (nI k + (-8)) (pj_sI (pj_sI z 23 n (vp_nar .byte (Int8.toInt32 (Int32.toInt8 (pj_ushr v (nI k)))))) 4 1 (nI (n + 1))) := by
  unfold Tape_add_3 Tape_add_49
  rw [h, if_neg (nI_pos (by omega)), if_neg (nI_pos (by omega)), if_neg (by rw [nI_leP (by decide) (by omega)]; omega), pj_gIn hn (by decide), nI_clamp (by omega), pj_bI, ag_n _ _ _ _ (by decide), h, nI_add]
  rfl
theorem Tape_add_eq (v : Int32) (z : pj_S) (n : Nat) (hn : n + 4 ≤ 400) (h : z.1 4 1 = nI n) : ∃ z2, Tape_add v z = some ((), z2) ∧ z2.2 = z.2 ∧ (∀ c, c ≠ 4 → c ≠ 23 → z2.1 c = z.1 c) ∧ z2.1 4 1 = nI (n + 4) ∧
    (∀ j, (j < n ∨ n + 4 ≤ j) → z2.1 23 j = z.1 23 j) ∧ ∀ i, i < 4 → z2.1 23 (n + i) &&& 255 = (v >>> (nI (24 - 8 * i) &&& 31)) &&& nI 255 := by
  unfold Tape_add
  rw [pj_lp2_s, tape_step v 24 n (by decide) (by omega) z h, show nI 24 + (-8) = nI 16 by decide]
  rw [pj_lp2_s, tape_step v 16 (n + 1) (by decide) (by omega) _ (by rfl), show nI 16 + (-8) = nI 8 by decide]
  rw [pj_lp2_s, tape_step v 8 (n + 1 + 1) (by decide) (by omega) _ (by rfl), show nI 8 + (-8) = nI 0 by decide]
  rw [pj_lp2_s, tape_step v 0 (n + 1 + 1 + 1) (by decide) (by omega) _ (by rfl), show nI 0 + (-8) = -8 by decide]
  rw [pj_lp2_s]
  have e : ∀ (self : Int32 → Int32 → pj_S → Option (Unit × pj_S)) (z : pj_S), Tape_add_3 self v (-8) z = some ((), z) := fun self z => by unfold Tape_add_3; rw [if_pos (by decide)]
  rw [e]
  refine ⟨_, rfl, rfl, fun c c4 c23 => ?_, rfl, fun j hj => ?_, fun i hi => ?_⟩
  · simp only [pj_sI1, c4, c23, ↓reduceIte]
  · simp (disch := decide) only [ag_n, ag_1]
    rw [upd_ne (by omega), upd_ne (by omega), upd_ne (by omega), upd_ne (by omega)]
  · simp (disch := decide) only [ag_n, ag_1]
    have : i = 0 ∨ i = 1 ∨ i = 2 ∨ i = 3 := by omega
    rcases this with rfl | rfl | rfl | rfl
    · rw [upd_ne (by omega), upd_ne (by omega), upd_ne (by omega), Nat.add_zero, upd_s]; exact byteA v 24 (by decide)
    · rw [upd_ne (by omega), upd_ne (by omega), upd_s]; exact byteA v 16 (by decide)
    · rw [upd_ne (by omega), upd_s]; exact byteA v 8 (by decide)
    · rw [upd_s]; exact byteA v 0 (by decide)
def fdV (v1 v2 v3 v4 v5 : Int32) (q : Nat) : Int32 := if q = 0 then v1 else if q = 1 then v2 else if q = 2 then v3 else if q = 3 then v4 else v5
theorem Md_feed_eq (v1 v2 v3 v4 v5 : Int32) (z : pj_S) (n : Nat) (hn : n + 20 ≤ 400) (h : z.1 0 12 = nI n) : ∃ z2, pj_lp6 Md_feed_18 4000 v1 v2 v3 v4 v5 (nI 0) z = some (nI (n + 20), z2) ∧ (∀ c, c ≠ 0 → c ≠ 6 → z2.1 c = z.1 c) ∧ (∀ j, j ≠ 12 → z2.1 0 j = z.1 0 j) ∧ z2.1 0 12 = nI (n + 20) ∧
    (∀ j, j < n → z2.1 6 j = z.1 6 j) ∧ ∀ i, i < 20 → z2.1 6 (n + i) = (fdV v1 v2 v3 v4 v5 (i / 4) >>> (nI (24 - 8 * (i % 4)) &&& 31)) &&& nI 255 := by
  obtain ⟨a1, a2, a3, a4, a5, a6, z2, ⟨e0, e1, e2, e3, e4, e5⟩, e⟩ := pj_loop6 (F := Md_feed_18)
    (P := fun d b1 b2 b3 b4 b5 b6 z' => (b1 = v1 ∧ b2 = v2 ∧ b3 = v3 ∧ b4 = v4 ∧ b5 = v5) ∧ ∃ k, k + d = 20 ∧ b6 = nI k ∧ (∀ c, c ≠ 0 → c ≠ 6 → z'.1 c = z.1 c) ∧ (∀ j, j ≠ 12 → z'.1 0 j = z.1 0 j) ∧ z'.1 0 12 = nI (n + k) ∧
      (∀ j, j < n → z'.1 6 j = z.1 6 j) ∧ ∀ i, i < k → z'.1 6 (n + i) = (fdV v1 v2 v3 v4 v5 (i / 4) >>> (nI (24 - 8 * (i % 4)) &&& 31)) &&& nI 255)
    (E := fun b1 b2 b3 b4 b5 b6 z' => True ∧ (∀ c, c ≠ 0 → c ≠ 6 → z'.1 c = z.1 c) ∧ (∀ j, j ≠ 12 → z'.1 0 j = z.1 0 j) ∧ z'.1 0 12 = nI (n + 20) ∧
      (∀ j, j < n → z'.1 6 j = z.1 6 j) ∧ ∀ i, i < 20 → z'.1 6 (n + i) = (fdV v1 v2 v3 v4 v5 (i / 4) >>> (nI (24 - 8 * (i % 4)) &&& 31)) &&& nI 255)
    (G := fun _ _ _ _ _ _ z' => some (z'.1 0 12, z')) (by
      rintro self d b1 b2 b3 b4 b5 b6 z' ⟨⟨rfl, rfl, rfl, rfl, rfl⟩, k, hk, rfl, h1, h2, h3, h4, h5⟩
      unfold Md_feed_18 Md_feed_115
      by_cases c : 20 ≤ k
      · left
        have : k = 20 := by omega
        subst this
        exact ⟨⟨trivial, h1, h2, h3, h4, h5⟩, by rw [if_pos (nI_le c (by decide))]⟩
      · right
        rw [if_neg (by rw [nI_leP (by decide) (by omega)]; exact c)]
        have key : ∀ t : Int32, t = fdV b1 b2 b3 b4 b5 (k / 4) → ∃ (d2 : Nat) (c1 c2 c3 c4 c5 c6 : Int32) (z2 : pj_S), d2 < d ∧ ((c1 = b1 ∧ c2 = b2 ∧ c3 = b3 ∧ c4 = b4 ∧ c5 = b5) ∧ ∃ k, k + d2 = 20 ∧ c6 = nI k ∧ (∀ c, c ≠ 0 → c ≠ 6 → z2.1 c = z.1 c) ∧ (∀ j, j ≠ 12 → z2.1 0 j = z.1 0 j) ∧ z2.1 0 12 = nI (n + k) ∧
            (∀ j, j < n → z2.1 6 j = z.1 6 j) ∧ ∀ i, i < k → z2.1 6 (n + i) = (fdV b1 b2 b3 b4 b5 (i / 4) >>> (nI (24 - 8 * (i % 4)) &&& 31)) &&& nI 255) ∧ Md_feed_71 self b1 b2 b3 b4 b5 (nI k) t z' = self c1 c2 c3 c4 c5 c6 z2 := by
          intro t ht
          unfold Md_feed_71
          rw [pj_gNz (by decide) (by decide), h3, pj_gIn (by omega) (by decide), nI_clamp (by omega), pj_bI, ag_n _ _ _ _ (by decide), h3, nI_add, nI_add, pj_bI, pj_bI, pj_remN (by omega) (by decide) (by decide), pk_mul, pk_sub (by omega)]
          refine ⟨d - 1, _, _, _, _, _, _, _, by omega, ⟨⟨rfl, rfl, rfl, rfl, rfl⟩, k + 1, by omega, rfl, fun c c0 c6 => ?_, fun j hj => ?_, rfl, fun j hj => ?_, fun i hi => ?_⟩, rfl⟩
          · rw [ag_n _ _ _ _ c0, ag_n _ _ _ _ c6]; exact h1 c c0 c6
          · rw [ag_1, upd_ne hj, ag_n _ _ _ _ (by decide)]; exact h2 j hj
          · rw [ag_n _ _ _ _ (by decide), ag_1, upd_ne (by omega)]; exact h4 j hj
          · rw [ag_n _ _ _ _ (by decide), ag_1]
            by_cases ci : i = k
            · subst ci; rw [upd_s, ht]
            · rw [upd_ne (by omega)]; exact h5 i (by omega)
        have le : ∀ q, q < 2 ^ 31 → ∀ {X Y : Option (Int32 × pj_S)}, (if nI q ≤ nI k then X else Y) = if q ≤ k then X else Y := fun q hq X Y => by
          by_cases c : q ≤ k
          · rw [if_pos c, if_pos (nI_le c (by omega))]
          · rw [if_neg c, if_neg (by rw [nI_leP hq (by omega)]; exact c)]
        rw [le 4 (by decide), le 8 (by decide), le 12 (by decide), le 16 (by decide)]
        by_cases c1 : 4 ≤ k
        · rw [if_pos c1]
          by_cases c2 : 8 ≤ k
          · rw [if_pos c2]
            by_cases c3 : 12 ≤ k
            · rw [if_pos c3]
              by_cases c4 : 16 ≤ k
              · rw [if_pos c4]
                exact key b5 (by rw [show k / 4 = 4 by omega]; rfl)
              · rw [if_neg c4]
                exact key b4 (by rw [show k / 4 = 3 by omega]; rfl)
            · rw [if_neg c3]
              exact key b3 (by rw [show k / 4 = 2 by omega]; rfl)
          · rw [if_neg c2]
            exact key b2 (by rw [show k / 4 = 1 by omega]; rfl)
        · rw [if_neg c1]
          exact key b1 (by rw [show k / 4 = 0 by omega]; rfl))
    4000 20 v1 v2 v3 v4 v5 (nI 0) z ⟨⟨rfl, rfl, rfl, rfl, rfl⟩, 0, by omega, rfl, fun _ _ _ => rfl, fun _ _ => rfl, h, fun _ _ => rfl, fun i hi => absurd hi (by omega)⟩ (by decide)
  rw [e, e3]
  exact ⟨z2, rfl, e1, e2, e3, e4, e5⟩
theorem ok_feed (v1 v2 v3 v4 v5 : Int32) : pj_ok pa_I (PJ_feed v1 v2 v3 v4 v5) (Md_feed v1 v2 v3 v4 v5) := by
  intro zC zM h
  obtain ⟨⟨W, H, b, hr, nb, nl, pr, n, m, hA⟩, hI, ⟨t, t1, t2, t3, t4⟩, hf1, hf2⟩ := id h
  unfold PJ_feed Md_feed Tape_hasRoom
  rw [t1, t2, nI_add]
  by_cases c : t + 20 ≤ 400
  · rw [if_neg (by rw [nI_ltP (by decide) (by omega)]; omega), if_pos (nI_le c (by decide))]
    obtain ⟨zM2, e, f1, f2, f3, f4, f5⟩ := Md_feed_eq v1 v2 v3 v4 v5 zM t c t2
    obtain ⟨y1, q1, a1, b1, c1, d1, g1⟩ := Tape_add_eq v1 zC t (by omega) t1
    obtain ⟨y2, q2, a2, b2, c2, d2, g2⟩ := Tape_add_eq v2 y1 (t + 4) (by omega) c1
    obtain ⟨y3, q3, a3, b3, c3, d3, g3⟩ := Tape_add_eq v3 y2 (t + 4 + 4) (by omega) c2
    obtain ⟨y4, q4, a4, b4, c4, d4, g4⟩ := Tape_add_eq v4 y3 (t + 4 + 4 + 4) (by omega) c3
    obtain ⟨y5, q5, a5, b5, c5, d5, g5⟩ := Tape_add_eq v5 y4 (t + 4 + 4 + 4 + 4) (by omega) c4
    have r : (pj_c (pj_g (pj_bo (nI 1)) (some ((nI 1), zC))) fun r3 z2 => if r3 = (0) then some ((-1 : Int32), z2) else pj_c (Tape_add v1 z2) fun _ z5 => pj_c (Tape_add v2 z5) fun _ z8 => pj_c (Tape_add v3 z8) fun _ z11 => pj_c (Tape_add v4 z11) fun _ z14 => pj_c (Tape_add v5 z14) fun _ z17 => some ((z17.1 4 1), z17)) = some (nI (t + 20), y5) := by
      rw [pj_gB1, pj_cS, if_neg (by decide), q1, pj_cS, q2, pj_cS, q3, pj_cS, q4, pj_cS, q5, pj_cS, c5]
    rw [r, e]
    have yc : ∀ c, c ≠ 4 → c ≠ 23 → y5.1 c = zC.1 c := fun c x1 x2 => by rw [b5 c x1 x2, b4 c x1 x2, b3 c x1 x2, b2 c x1 x2, b1 c x1 x2]
    have yj : y5.2 = zC.2 := by rw [a5, a4, a3, a2, a1]
    refine ⟨_, _, _, rfl, rfl, pa_I.of (W := W) (H := H) (b := b) (hr := hr) (nb := nb) (nl := nl) (pr := pr) (n := n) (m := m) ?_ ⟨?_, ⟨t + 20, c5, f3, c, fun i hi => ?_⟩, ?_, ?_⟩⟩
    · unfold pa_A at hA ⊢
      rw [yj, f1 1 (by decide) (by decide), f1 3 (by decide) (by decide), f2 3 (by decide)]
      simp (disch := decide) only [yc]
      exact hA
    · rw [yj, f1 2 (by decide) (by decide), f2 4 (by decide)]
      simp (disch := decide) only [yc]
      exact hI
    · have key : ∀ q (v : Int32), q < 5 → v = fdV v1 v2 v3 v4 v5 q → ∀ j, j < 4 → (y5.1 23 (t + 4 * q + j) &&& 255 = (v >>> (nI (24 - 8 * j) &&& 31)) &&& nI 255) → ∃ c, c < 256 ∧ y5.1 23 (t + 4 * q + j) &&& 255 = nI c ∧ zM2.1 6 (t + 4 * q + j) = nI c := fun q v hq hv j hj he => by
        obtain ⟨x, x1, x2⟩ := nI_and255 (v >>> (nI (24 - 8 * j) &&& 31))
        refine ⟨x, x1, he.trans x2, ?_⟩
        rw [Nat.add_assoc, f5 (4 * q + j) (by omega), show (4 * q + j) / 4 = q by omega, show (4 * q + j) % 4 = j by omega, ← hv]
        exact x2
      by_cases i0 : i < t
      · rw [d5 i (by omega), d4 i (by omega), d3 i (by omega), d2 i (by omega), d1 i (by omega), f4 i i0]
        exact t4 i i0
      · have hq : (i - t) / 4 < 5 := by omega
        have hj : (i - t) % 4 < 4 := by omega
        have hij : i = t + 4 * ((i - t) / 4) + (i - t) % 4 := by omega
        generalize (i - t) / 4 = q at *
        generalize (i - t) % 4 = j at *
        subst hij
        have : q = 0 ∨ q = 1 ∨ q = 2 ∨ q = 3 ∨ q = 4 := by omega
        rcases this with rfl | rfl | rfl | rfl | rfl
        · refine key 0 v1 hq rfl j hj ?_
          rw [d5 _ (by omega), d4 _ (by omega), d3 _ (by omega), d2 _ (by omega)]
          exact g1 j hj
        · refine key 1 v2 hq rfl j hj ?_
          rw [d5 _ (by omega), d4 _ (by omega), d3 _ (by omega)]
          exact g2 j hj
        · refine key 2 v3 hq rfl j hj ?_
          rw [d5 _ (by omega), d4 _ (by omega)]
          exact g3 j hj
        · refine key 3 v4 hq rfl j hj ?_
          rw [d5 _ (by omega)]
          exact g4 j hj
        · refine key 4 v5 hq rfl j hj ?_
          exact g5 j hj
    · rw [f2 19 (by decide), yc 5 (by decide) (by decide)]; exact hf1
    · rw [f2 21 (by decide), yc 5 (by decide) (by decide)]; exact hf2
  · rw [if_pos (nI_lt (by omega) (by omega)), if_neg (by rw [nI_leP (by omega) (by decide)]; exact c)]
    exact ⟨_, _, _, rfl, rfl, h⟩
