/-! set; rectangles, a new cloth -/
theorem pa_chg {W H : Nat} {b b2 : Bool} {hr nb nl : Nat} {pr : List pa_Ln} {n m : Nat} {zC zM zC2 zM2 : pj_S} (hA : pa_A W H b hr nb nl pr n m zC zM) (hK : pa_K zC zM)
    (hF2 : pa_F W H b2 (zC2.1 8) (zC2.2 8) (zM2.1 1)) (ec : ∀ c, c ≠ 8 → c ≠ 3 → zC2.1 c = zC.1 c) (ec2 : ∀ c, c ≠ 8 → zC2.2 c = zC.2 c) (e7 : zC2.1 3 7 = nI 0) (e8 : zC2.1 3 8 = zC.1 3 8)
    (em : ∀ c, c ≠ 0 → c ≠ 1 → zM2.1 c = zM.1 c) (em0 : ∀ j, j ≠ 3 → zM2.1 0 j = zM.1 0 j) (em3 : zM2.1 0 3 = nI 0) (ew : ∀ i, ¬ rgF i → zM2.1 1 i = zM.1 1 i) : pa_I zC2 zM2 := by
  obtain ⟨⟨hF, hH, hd, hB, hU, hL⟩, h1, h2, h3, hP⟩ := hA
  unfold rgF at ew
  refine pa_I.of (W := W) (H := H) (b := b2) (hr := hr) (nb := nb) (nl := nl) (pr := pr) (n := 0) (m := m) ⟨⟨hF2, ?_, ?_, ?_, ?_, ?_⟩, e7, em3, e8.trans h3, pa_P.none hP.2.1⟩ ?_
  · rw [ec 1 (by decide) (by decide), ew 5 (by omega)]; exact hH
  · rw [ec 1 (by decide) (by decide), ew 6 (by omega)]; exact hd
  · rw [ec 10 (by decide) (by decide), ec 31 (by decide) (by decide), ec 32 (by decide) (by decide), ec 33 (by decide) (by decide)]
    exact hB.w (fun i hi => ew i (by omega))
  · rw [ec 11 (by decide) (by decide), ec 34 (by decide) (by decide)]
    exact hU.w (fun i hi => ew i (by omega))
  · rw [ec 9 (by decide) (by decide), ec 29 (by decide) (by decide)]
    exact hL.w (fun i i1 i2 => ew i (by omega))
  · unfold pa_K at hK ⊢
    rw [ec 0 (by decide) (by decide), ec 2 (by decide) (by decide), ec 12 (by decide) (by decide), ec2 12 (by decide), ec 13 (by decide) (by decide), ec 35 (by decide) (by decide), ec 14 (by decide) (by decide), ec 37 (by decide) (by decide), ec 38 (by decide) (by decide), ec 39 (by decide) (by decide), ec 15 (by decide) (by decide), ec 40 (by decide) (by decide), ec 4 (by decide) (by decide), ec 23 (by decide) (by decide), ec 5 (by decide) (by decide),
      em0 4 (by decide), em 2 (by decide) (by decide), em0 12 (by decide), em 6 (by decide) (by decide), em0 19 (by decide), em0 21 (by decide)]
    exact hK
/-- one bit is set to c -/
theorem tb_set (x : Int64) (s : Nat) (hs : s < 64) (i : Nat) : tb (x ||| pj_shlL (1 : Int64) (nI s)) i = if i = s then true else tb x i := by
  rw [tb_or, tb_bit s hs]
  by_cases c : i = s <;> simp [c]
theorem tb_clr (x : Int64) (s : Nat) (hs : s < 64) (i : Nat) (hi : i < 64) : tb (x &&& (pj_shlL (1 : Int64) (nI s) ^^^ (-1 : Int64))) i = if i = s then false else tb x i := by
  rw [tb_and, tb_not _ _ hi, tb_bit s hs]
  by_cases c : i = s <;> simp [c]
theorem isin_3 {v : Int32} (n : Nat) (hn : n < 2 ^ 31) : isin v 0 n = true ∨ (isin v 0 n = false ∧ (v < 0 ∨ (¬ v < 0 ∧ ¬ v ≤ nI n))) := by
  rcases nI_or v with ⟨k, hk, rfl⟩ | h
  · rw [isin_nI hk]
    by_cases c : k ≤ n
    · left; simp [c]
    · right
      refine ⟨by simp [c], Or.inr ⟨nI_pos hk, ?_⟩⟩
      rw [nI_leP hk hn]; exact c
  · right
    exact ⟨isin_neg h (by decide), Or.inl (ng_lt0 h)⟩
/-- a kind is told -/
theorem pa_F.kind {W H : Nat} {b : Bool} {I : Nat → Int32} {J J2 : Nat → Int64} {w w2 : Nat → Int32} {s v : Nat} (hF : pa_F W H b I J w) (hs : s < 64) (hst : stit W H s = true) (hv : v < 4)
    (j4 : ∀ i, i < 64 → tb (J2 4) i = if i = s then decide (v % 2 = 1) else tb (J 4) i) (j5 : ∀ i, i < 64 → tb (J2 5) i = if i = s then decide (2 ≤ v) else tb (J 5) i)
    (jo : ∀ k, k ≠ 4 → k ≠ 5 → J2 k = J k) (e : ∀ i, w2 i = if i = 10 + s then nI v else w i) : pa_F W H b I J2 w2 := by
  obtain ⟨h1, ⟨a1, a2, a3, a4, a5, a6⟩, h3, h4, h5, h6, h7, h8, h9, h10, h11⟩ := hF
  rw [← jo 3 (by decide) (by decide)] at h3
  rw [← jo 7 (by decide) (by decide)] at h6
  rw [← jo 8 (by decide) (by decide)] at h7
  rw [← jo 9 (by decide) (by decide)] at h8 h10
  rw [← jo 6 (by decide) (by decide)] at h5
  rw [← jo 6 (by decide) (by decide), ← jo 7 (by decide) (by decide), ← jo 8 (by decide) (by decide)] at h9
  rw [← jo 6 (by decide) (by decide), ← jo 8 (by decide) (by decide)] at h11
  refine ⟨h1, ⟨a1, a2, a3, ?_, ?_, ?_⟩, h3, fun i hi => ?_, fun i hi => ?_, fun i hi => ?_, fun i hi => ?_, fun i hi => ?_, fun i hi g => ?_, h10, h11⟩
  · rw [e, if_neg (by omega)]; exact a4
  · rw [e, if_neg (by omega)]; exact a5
  · rw [e, if_neg (by omega)]; exact a6
  · rw [e, j4 i hi, j5 i hi]
    by_cases c : i = s
    · subst c
      rw [if_pos rfl, if_pos rfl, if_pos rfl]
      have : v = 0 ∨ v = 1 ∨ v = 2 ∨ v = 3 := by omega
      rcases this with rfl | rfl | rfl | rfl <;> rfl
    · rw [if_neg (by omega), if_neg c, if_neg c]; exact h4 i hi
  · rw [e, if_neg (by omega)]; exact h5 i hi
  · rw [e, if_neg (by omega)]; exact h6 i hi
  · rw [e, if_neg (by omega)]; exact h7 i hi
  · rw [e, if_neg (by omega)]; exact h8 i hi
  · obtain ⟨g1, g2, g3, g4, g5⟩ := h9 i hi g
    have ne : i ≠ s := fun q => by rw [q, hst] at g; cases g
    rw [j4 i hi, j5 i hi, if_neg ne, if_neg ne]
    exact ⟨g1, g2, g3, g4, g5⟩
theorem pa_F.catch {W H : Nat} {b : Bool} {I : Nat → Int32} {J J2 : Nat → Int64} {w w2 : Nat → Int32} {s : Nat} {v : Bool} (hF : pa_F W H b I J w) (hs : s < 64) (hst : stit W H s = true)
    (j7 : ∀ i, i < 64 → tb (J2 7) i = if i = s then v else tb (J 7) i)
    (jo : ∀ k, k ≠ 7 → J2 k = J k) (e : ∀ i, w2 i = if i = 138 + s then b2i v else w i) : pa_F W H b I J2 w2 := by
  obtain ⟨h1, ⟨a1, a2, a3, a4, a5, a6⟩, h3, h4, h5, h6, h7, h8, h9, h10, h11⟩ := hF
  rw [← jo 3 (by decide)] at h3
  rw [← jo 4 (by decide), ← jo 5 (by decide)] at h4
  rw [← jo 8 (by decide)] at h7
  rw [← jo 9 (by decide)] at h8 h10
  rw [← jo 6 (by decide)] at h5
  rw [← jo 4 (by decide), ← jo 5 (by decide), ← jo 6 (by decide), ← jo 8 (by decide)] at h9
  rw [← jo 6 (by decide), ← jo 8 (by decide)] at h11
  refine ⟨h1, ⟨a1, a2, a3, ?_, ?_, ?_⟩, h3, fun i hi => ?_, fun i hi => ?_, fun i hi => ?_, fun i hi => ?_, fun i hi => ?_, fun i hi g => ?_, h10, h11⟩
  · rw [e, if_neg (by omega)]; exact a4
  · rw [e, if_neg (by omega)]; exact a5
  · rw [e, if_neg (by omega)]; exact a6
  · rw [e, if_neg (by omega)]; exact h4 i hi
  · rw [e, if_neg (by omega)]; exact h5 i hi
  · rw [e, j7 i hi]
    by_cases c : i = s
    · subst c
      rw [if_pos rfl, if_pos rfl]
    · rw [if_neg (by omega), if_neg c]; exact h6 i hi
  · rw [e, if_neg (by omega)]; exact h7 i hi
  · rw [e, if_neg (by omega)]; exact h8 i hi
  · obtain ⟨g1, g2, g3, g4, g5⟩ := h9 i hi g
    have ne : i ≠ s := fun q => by rw [q, hst] at g; cases g
    rw [j7 i hi, if_neg ne]
    exact ⟨g1, g2, g3, g4, g5⟩
theorem pa_F.bring {W H : Nat} {b : Bool} {I : Nat → Int32} {J J2 : Nat → Int64} {w w2 : Nat → Int32} {s : Nat} (hF : pa_F W H b I J w) (hs : s < 64) (hst : stit W H s = true)
    (j6 : ∀ i, i < 64 → tb (J2 6) i = if i = s then true else tb (J 6) i) (j8 : ∀ i, i < 64 → tb (J2 8) i = if i = s then false else tb (J 8) i)
    (jo : ∀ k, k ≠ 6 → k ≠ 8 → J2 k = J k) (e : ∀ i, w2 i = if i = 1490 + s then nI 0 else if i = 74 + s then nI 1 else w i) : pa_F W H b I J2 w2 := by
  obtain ⟨h1, ⟨a1, a2, a3, a4, a5, a6⟩, h3, h4, h5, h6, h7, h8, h9, h10, h11⟩ := hF
  rw [← jo 3 (by decide) (by decide)] at h3
  rw [← jo 4 (by decide) (by decide), ← jo 5 (by decide) (by decide)] at h4
  rw [← jo 7 (by decide) (by decide)] at h6
  rw [← jo 9 (by decide) (by decide)] at h8 h10
  rw [← jo 4 (by decide) (by decide), ← jo 5 (by decide) (by decide), ← jo 7 (by decide) (by decide)] at h9
  refine ⟨h1, ⟨a1, a2, a3, ?_, ?_, ?_⟩, h3, fun i hi => ?_, fun i hi => ?_, fun i hi => ?_, fun i hi => ?_, fun i hi => ?_, fun i hi g => ?_, h10, fun i hi g => ?_⟩
  · rw [e, if_neg (by omega), if_neg (by omega)]; exact a4
  · rw [e, if_neg (by omega), if_neg (by omega)]; exact a5
  · rw [e, if_neg (by omega), if_neg (by omega)]; exact a6
  · rw [e, if_neg (by omega), if_neg (by omega)]; exact h4 i hi
  · rw [e, if_neg (by omega), j6 i hi]
    by_cases c : i = s
    · subst c
      rw [if_pos rfl, if_pos rfl]; rfl
    · rw [if_neg (by omega), if_neg c]; exact h5 i hi
  · rw [e, if_neg (by omega), if_neg (by omega)]; exact h6 i hi
  · rw [e, j8 i hi]
    by_cases c : i = s
    · subst c
      rw [if_pos rfl, if_pos rfl]; rfl
    · rw [if_neg (by omega), if_neg (by omega), if_neg c]; exact h7 i hi
  · rw [e, if_neg (by omega), if_neg (by omega)]; exact h8 i hi
  · obtain ⟨g1, g2, g3, g4, g5⟩ := h9 i hi g
    have ne : i ≠ s := fun q => by rw [q, hst] at g; cases g
    rw [j6 i hi, j8 i hi, if_neg ne, if_neg ne]
    exact ⟨g1, g2, g3, g4, g5⟩
  · rw [j8 i hi] at g
    rw [j6 i hi]
    by_cases c : i = s
    · rw [if_pos c] at g; cases g
    · rw [if_neg c] at g ⊢; exact h11 i hi g

theorem tellKind_no {d : Int32} (h : isin d 0 ((3 : Nat) : Int) = false) (s : Int32) (z : pj_S) : Fabric_tellKind s d z = some (nI 0, z) := by
  unfold Fabric_tellKind
  rcases isin_3 (v := d) 3 (by decide) with q | ⟨-, q2 | ⟨q2, q3⟩⟩
  · rw [q] at h; cases h
  · rw [if_pos q2]; rfl
  · rw [if_neg q2, if_neg q3]; rfl
theorem tellCaught_no {d : Int32} (h : isin d 0 ((1 : Nat) : Int) = false) (s : Int32) (z : pj_S) : Fabric_tellCaught s d z = some (nI 0, z) := by
  unfold Fabric_tellCaught
  rcases isin_3 (v := d) 1 (by decide) with q | ⟨-, q2 | ⟨q2, q3⟩⟩
  · rw [q] at h; cases h
  · rw [if_pos q2]; rfl
  · rw [if_neg q2, if_neg q3]; rfl
theorem tellBound_no {d : Int32} (h : isin d 0 ((1 : Nat) : Int) = false) (z : pj_S) : Fabric_tellBound d z = some (nI 0, z) := by
  unfold Fabric_tellBound
  rcases isin_3 (v := d) 1 (by decide) with q | ⟨-, q2 | ⟨q2, q3⟩⟩
  · rw [q] at h; cases h
  · rw [if_pos q2]; rfl
  · rw [if_neg q2, if_neg q3]; rfl
theorem tellKind_eq (s v : Nat) (hs : s < 64) (hv : v < 4) (z : pj_S) : ∃ z2, Fabric_tellKind (nI s) (nI v) z = some (nI 1, z2) ∧ z2.1 = z.1 ∧ (∀ c, c ≠ 8 → z2.2 c = z.2 c) ∧
    (∀ i, i < 64 → tb (z2.2 8 4) i = if i = s then decide (v % 2 = 1) else tb (z.2 8 4) i) ∧ (∀ i, i < 64 → tb (z2.2 8 5) i = if i = s then decide (2 ≤ v) else tb (z.2 8 5) i) ∧ ∀ k, k ≠ 4 → k ≠ 5 → z2.2 8 k = z.2 8 k := by
  have key : ∀ x y : Int64, ∃ z2, some (nI 1, pj_sJ (pj_sJ z 8 4 x) 8 5 y) = some (nI 1, z2) ∧ z2.1 = z.1 ∧ (∀ c, c ≠ 8 → z2.2 c = z.2 c) ∧ z2.2 8 4 = x ∧ z2.2 8 5 = y ∧ ∀ k, k ≠ 4 → k ≠ 5 → z2.2 8 k = z.2 8 k := fun x y => by
    refine ⟨_, rfl, rfl, fun c hc => ?_, rfl, rfl, fun k k4 k5 => ?_⟩
    · rw [pj_sJ2, if_neg hc, pj_sJ2, if_neg hc]
    · rw [pj_sJ2, if_pos rfl, pj_updL, if_neg k5, pj_sJ2, if_pos rfl, pj_updL, if_neg k4]
  unfold Fabric_tellKind Fabric_tellKind_42 Fabric_tellKind_70
  rw [if_neg (nI_pos (by omega)), if_pos (nI_le (by omega) (by decide)), nI_and1 (by omega)]
  simp only [pj_bI, pj_gB1]
  by_cases v1 : v % 2 = 1
  · rw [if_pos (by rw [v1])]
    by_cases v2 : 2 ≤ v
    · rw [if_neg (by rw [nI_ltP (by omega) (by decide)]; omega)]
      obtain ⟨z2, e, e1, e2, e3, e4, e5⟩ := key (z.2 8 4 ||| pj_shlL 1 (nI s)) (z.2 8 5 ||| pj_shlL 1 (nI s))
      refine ⟨z2, e, e1, e2, fun i hi => ?_, fun i hi => ?_, e5⟩
      · rw [e3, tb_set _ s hs]; simp [v1]
      · rw [e4, tb_set _ s hs]; simp [v2]
    · rw [if_pos (by rw [nI_ltP (by omega) (by decide)]; omega)]
      obtain ⟨z2, e, e1, e2, e3, e4, e5⟩ := key (z.2 8 4 ||| pj_shlL 1 (nI s)) (z.2 8 5 &&& (pj_shlL 1 (nI s) ^^^ -1))
      refine ⟨z2, e, e1, e2, fun i hi => ?_, fun i hi => ?_, e5⟩
      · rw [e3, tb_set _ s hs]; simp [v1]
      · rw [e4, tb_clr _ s hs _ hi]; simp [v2]
  · rw [if_neg (by rw [nI_P (by omega) (by decide)]; exact v1)]
    by_cases v2 : 2 ≤ v
    · rw [if_neg (by rw [nI_ltP (by omega) (by decide)]; omega)]
      obtain ⟨z2, e, e1, e2, e3, e4, e5⟩ := key (z.2 8 4 &&& (pj_shlL 1 (nI s) ^^^ -1)) (z.2 8 5 ||| pj_shlL 1 (nI s))
      refine ⟨z2, e, e1, e2, fun i hi => ?_, fun i hi => ?_, e5⟩
      · rw [e3, tb_clr _ s hs _ hi]; simp [v1]
      · rw [e4, tb_set _ s hs]; simp [v2]
    · rw [if_pos (by rw [nI_ltP (by omega) (by decide)]; omega)]
      obtain ⟨z2, e, e1, e2, e3, e4, e5⟩ := key (z.2 8 4 &&& (pj_shlL 1 (nI s) ^^^ -1)) (z.2 8 5 &&& (pj_shlL 1 (nI s) ^^^ -1))
      refine ⟨z2, e, e1, e2, fun i hi => ?_, fun i hi => ?_, e5⟩
      · rw [e3, tb_clr _ s hs _ hi]; simp [v1]
      · rw [e4, tb_clr _ s hs _ hi]; simp [v2]
theorem tellCaught_eq (s : Nat) (v : Bool) (hs : s < 64) (z : pj_S) : ∃ z2, Fabric_tellCaught (nI s) (b2i v) z = some (nI 1, z2) ∧ z2.1 = z.1 ∧ (∀ c, c ≠ 8 → z2.2 c = z.2 c) ∧
    (∀ i, i < 64 → tb (z2.2 8 7) i = if i = s then v else tb (z.2 8 7) i) ∧ ∀ k, k ≠ 7 → z2.2 8 k = z.2 8 k := by
  have key : ∀ x : Int64, ∃ z2, some (nI 1, pj_sJ z 8 7 x) = some (nI 1, z2) ∧ z2.1 = z.1 ∧ (∀ c, c ≠ 8 → z2.2 c = z.2 c) ∧ z2.2 8 7 = x ∧ ∀ k, k ≠ 7 → z2.2 8 k = z.2 8 k := fun x => by
    refine ⟨_, rfl, rfl, fun c hc => ?_, rfl, fun k k7 => ?_⟩
    · rw [pj_sJ2, if_neg hc]
    · rw [pj_sJ2, if_pos rfl, pj_updL, if_neg k7]
  unfold Fabric_tellCaught Fabric_tellCaught_40
  cases v
  · rw [if_neg (by decide), if_pos (by decide), pj_bI, if_neg (by decide), pj_bI, pj_gB1]
    obtain ⟨z2, e, e1, e2, e3, e4⟩ := key (z.2 8 7 &&& (pj_shlL 1 (nI s) ^^^ -1))
    exact ⟨z2, e, e1, e2, fun i hi => by rw [e3, tb_clr _ s hs _ hi], e4⟩
  · rw [if_neg (by decide), if_pos (by decide), pj_bI, if_pos (by decide), pj_bI, pj_gB1]
    obtain ⟨z2, e, e1, e2, e3, e4⟩ := key (z.2 8 7 ||| pj_shlL 1 (nI s))
    exact ⟨z2, e, e1, e2, fun i hi => by rw [e3, tb_set _ s hs], e4⟩
theorem bringBack_eq (s : Nat) (hs : s < 64) (z : pj_S) : ∃ z2, Fabric_bringBack (nI s) z = some ((), z2) ∧ z2.1 = z.1 ∧ (∀ c, c ≠ 8 → z2.2 c = z.2 c) ∧
    (∀ i, i < 64 → tb (z2.2 8 6) i = if i = s then true else tb (z.2 8 6) i) ∧ (∀ i, i < 64 → tb (z2.2 8 8) i = if i = s then false else tb (z.2 8 8) i) ∧ ∀ k, k ≠ 6 → k ≠ 8 → z2.2 8 k = z.2 8 k := by
  refine ⟨_, rfl, rfl, fun c hc => ?_, fun i hi => ?_, fun i hi => ?_, fun k k6 k8 => ?_⟩
  · rw [pj_sJ2, if_neg hc, pj_sJ2, if_neg hc]
  · exact tb_set _ s hs i
  · exact tb_clr _ s hs i hi
  · rw [pj_sJ2, if_pos rfl, pj_updL, if_neg k8, pj_sJ2, if_pos rfl, pj_updL, if_neg k6]
theorem isin_b {v : Int32} (h : isin v 0 ((1 : Nat) : Int) = true) : ∃ c : Bool, v = b2i c := by
  obtain ⟨k, hk, rfl⟩ := isin_n (by decide) h
  have : k = 0 ∨ k = 1 := by omega
  rcases this with rfl | rfl
  · exact ⟨false, rfl⟩
  · exact ⟨true, rfl⟩
theorem Md_set_117_eq (z : pj_S) : Md_set_117 z = some (nI 1, pj_sI z 0 3 (nI 0)) := rfl
section SET
variable {W H : Nat} {b : Bool} {hr nb nl : Nat} {pr : List pa_Ln} {n m : Nat} {zC zM zC2 zM2 : pj_S}
/-- the ends of a telling -/
theorem set_end (hA : pa_A W H b hr nb nl pr n m zC zM) (hK : pa_K zC zM) {b2 : Bool} (e1 : ∀ c, c ≠ 8 → zC2.1 c = zC.1 c) (e2 : ∀ c, c ≠ 8 → zC2.2 c = zC.2 c) (f1 : ∀ c, c ≠ 1 → zM2.1 c = zM.1 c)
    (ew : ∀ i, ¬ rgF i → zM2.1 1 i = zM.1 1 i) (hF : pa_F W H b2 (zC2.1 8) (zC2.2 8) (zM2.1 1)) :
    ∃ r2 zC3 zM3, (pj_c (some (nI 1, zC2)) fun r6 z5 => PJ_set_26 r6 z5) = some (r2, zC3) ∧ Md_set_117 zM2 = some (r2, zM3) ∧ pa_I zC3 zM3 := by
  refine ⟨nI 1, pj_sI zC2 3 7 (nI 0), pj_sI zM2 0 3 (nI 0), rfl, rfl, pa_chg hA hK (b2 := b2) ?_ (fun c c1 c2 => ?_) (fun c c1 => ?_) rfl ?_ (fun c c0 c1 => ?_) (fun j hj => ?_) rfl (fun i hi => ?_)⟩
  · exact hF
  · rw [ag_n _ _ _ _ c2]; exact e1 c c1
  · exact e2 c c1
  · show zC2.1 3 8 = _; rw [e1 3 (by decide)]
  · rw [ag_n _ _ _ _ c0]; exact f1 c c1
  · rw [ag_1, upd_ne hj, f1 0 (by decide)]
  · exact ew i hi
end SET
theorem ok_set (a c d : Int32) : pj_ok pa_I (PJ_set a c d) (Md_set a c d) := by
  intro zC zM h
  obtain ⟨⟨W, H, b, hr, nb, nl, pr, n, m, hA⟩, hK⟩ := id h
  obtain ⟨⟨hF, hH, hd, hB, hU, hL⟩, h1, h2, h3, hP⟩ := id hA
  have hst := Fabric_has_eq hF c
  have mst := Md_isStitch_eq hF.2.1.2.2.2.1 hF.2.1.2.2.2.2.1 ⟨hF.1.2.1, hF.1.2.2.2⟩ c
  have fin : ∀ r : Int32, ∃ r2 zC2 zM2, some (r, zC) = some (r2, zC2) ∧ some (r, zM) = some (r2, zM2) ∧ pa_I zC2 zM2 := fun r => ⟨r, zC, zM, rfl, rfl, h⟩
  have c3 : isin d (nI 0).toInt (nI 3).toInt = isin d 0 ((3 : Nat) : Int) := rfl
  have c1 : isin d (nI 0).toInt (nI 1).toInt = isin d 0 ((1 : Nat) : Int) := rfl
  have k01 : (nI 0 = nI 1) = False := by decide
  have k02 : (nI 0 = nI 2) = False := by decide
  have k03 : (nI 0 = nI 3) = False := by decide
  have k10 : (nI 1 = nI 0) = False := by decide
  have k12 : (nI 1 = nI 2) = False := by decide
  have k13 : (nI 1 = nI 3) = False := by decide
  have k20 : (nI 2 = nI 0) = False := by decide
  have k21 : (nI 2 = nI 1) = False := by decide
  have k23 : (nI 2 = nI 3) = False := by decide
  have k30 : (nI 3 = nI 0) = False := by decide
  have k31 : (nI 3 = nI 1) = False := by decide
  have k32 : (nI 3 = nI 2) = False := by decide
  have kz : (0 : Int32) = nI 0 := nI_0.symm
  unfold PJ_set Md_set PJ_tellOfStitch Md_set_34 Md_set_70 Md_set_94
  by_cases a0 : a = nI 0
  · subst a0
    simp only [kz, k01, k02, k03, ↓reduceIte, hst, mst, pj_cS, ibn, Md_isIn_eq, c3]
    cases hs : stI W H c
    · exact fin _
    · obtain ⟨s, s64, rfl, st⟩ := stI_t hs
      simp only [↓reduceIte]
      cases q : isin d 0 ((3 : Nat) : Int)
      · rw [tellKind_no q]
        exact fin _
      · obtain ⟨v, hv, rfl⟩ := isin_n (by decide) q
        obtain ⟨z2, e, e1, e2, e4, e5, e6⟩ := tellKind_eq s v s64 (by omega) zC
        rw [e, if_pos rfl, nI_add, pj_gIn (by omega) (by decide), nI_clamp (by omega), pj_bI]
        refine set_end hA hK (b2 := b) (fun c _ => by rw [e1]) e2 (fun c hc => ag_n _ _ _ _ hc) (fun i hi => ?_) ?_
        · unfold rgF at hi; rw [ag_1, upd_ne (by omega)]
        · rw [e1, ag_1]
          exact hF.kind (v := v) s64 st (by omega) e4 e5 e6 (fun i => rfl)
  · by_cases a1 : a = nI 1
    · subst a1
      simp only [kz, k10, k12, k13, ↓reduceIte, hst, mst, pj_cS, ibn, Md_isIn_eq, c1]
      cases hs : stI W H c
      · exact fin _
      · obtain ⟨s, s64, rfl, st⟩ := stI_t hs
        simp only [↓reduceIte]
        cases q : isin d 0 ((1 : Nat) : Int)
        · rw [tellCaught_no q]
          exact fin _
        · obtain ⟨v, rfl⟩ := isin_b q
          obtain ⟨z2, e, e1, e2, e4, e6⟩ := tellCaught_eq s v s64 zC
          rw [e, if_pos rfl, nI_add, pj_gIn (by omega) (by decide), nI_clamp (by omega), pj_bI]
          refine set_end hA hK (b2 := b) (fun c _ => by rw [e1]) e2 (fun c hc => ag_n _ _ _ _ hc) (fun i hi => ?_) ?_
          · unfold rgF at hi; rw [ag_1, upd_ne (by omega)]
          · rw [e1, ag_1]
            exact hF.catch (v := v) s64 st e4 e6 (fun i => rfl)
    · by_cases a2 : a = nI 2
      · subst a2
        simp only [kz, k20, k21, k23, ↓reduceIte, pj_cS, ibn, Md_isIn_eq, c1]
        cases q : isin d 0 ((1 : Nat) : Int)
        · rw [tellBound_no q]
          exact fin _
        · obtain ⟨v, rfl⟩ := isin_b q
          have e : Fabric_tellBound (b2i v) zC = some (nI 1, pj_sI zC 8 2 (b2i v)) := by cases v <;> rfl
          rw [e, if_pos rfl, pj_gIn (by decide) (by decide), nI_clamp (by decide), pj_bI]
          refine set_end hA hK (b2 := v) (fun c hc => ag_n _ _ _ _ hc) (fun c _ => rfl) (fun c hc => ag_n _ _ _ _ hc) (fun i hi => ?_) ?_
          · unfold rgF at hi; rw [ag_1, upd_ne (by omega)]
          · have ne : ∀ i, i ≠ 2 → (pj_sI zM 1 2 (b2i v)).1 1 i = zM.1 1 i := fun i hi => by rw [ag_1, upd_ne hi]
            obtain ⟨f1, ⟨x1, x2, x3, x4, x5, x6⟩, f3, f4, f5, f6, f7, f8, f9, f10, f11⟩ := hF
            refine ⟨f1, ⟨x1, x2, rfl, x4, x5, rfl⟩, f3, fun i hi => ?_, fun i hi => ?_, fun i hi => ?_, fun i hi => ?_, fun i hi => ?_, f9, f10, f11⟩
            · rw [ne _ (by omega)]; exact f4 i hi
            · rw [ne _ (by omega)]; exact f5 i hi
            · rw [ne _ (by omega)]; exact f6 i hi
            · rw [ne _ (by omega)]; exact f7 i hi
            · rw [ne _ (by omega)]; exact f8 i hi
      · by_cases a3 : a = nI 3
        · subst a3
          simp only [kz, k30, k31, k32, ↓reduceIte, hst, mst, pj_cS, ibn]
          cases hs : stI W H c
          · exact fin _
          · obtain ⟨s, s64, rfl, st⟩ := stI_t hs
            simp only [↓reduceIte]
            obtain ⟨z2, e, e1, e2, e4, e5, e6⟩ := bringBack_eq s s64 zC
            unfold Md_comesBack
            rw [e, nI_add, nI_add, pj_gIn (by omega) (by decide), nI_clamp (by omega), pj_bI, pj_gIn (by omega) (by decide), nI_clamp (by omega), pj_bI, pj_cS, pj_cS, pj_gB1]
            refine set_end hA hK (b2 := b) (fun c _ => by rw [e1]) e2 (fun c hc => ?_) (fun i hi => ?_) ?_
            · rw [ag_n _ _ _ _ hc, ag_n _ _ _ _ hc]
            · unfold rgF at hi; rw [ag_1, upd_ne (by omega), ag_1, upd_ne (by omega)]
            · rw [e1, ag_1, ag_1]
              exact hF.bring s64 st e4 e5 e6 (fun i => rfl)
        · simp only [kz, a0, a1, a2, a3, ↓reduceIte, hst, pj_cS, ibn]
          cases stI W H c <;> exact fin _
