/-! look -/
theorem Md_hereMany_eq (z : pj_S) (f : Nat → Bool) (h : ∀ s, s < 64 → z.1 1 (74 + s) = b2i (f s)) : Md_hereMany z = some (nI (cnt f 64), z) := by
  unfold Md_hereMany
  obtain ⟨a, k, z2, ⟨rfl, rfl⟩, e⟩ := pj_loop2 (F := Md_hereMany_4)
    (P := fun d a v z' => z' = z ∧ ∃ k, k + d = 64 ∧ v = nI k ∧ a = nI (cnt f k))
    (E := fun a _ z' => a = nI (cnt f 64) ∧ z' = z)
    (G := fun a _ z' => some (a, z')) (by
      rintro self d a v z' ⟨rfl, k, hk, rfl, rfl⟩
      unfold Md_hereMany_4
      by_cases c : 64 ≤ k
      · left
        have : k = 64 := by omega
        subst this
        exact ⟨⟨rfl, rfl⟩, by rw [if_pos (nI_le c (by decide))]⟩
      · right
        rw [if_neg (by rw [nI_leP (by decide) (by omega)]; exact c), nI_add, pj_gIn (by omega) (by decide), nI_clamp (by omega), h k (by omega), pj_bI, pj_bI, nI_add]
        unfold b2i
        rw [nI_add]
        exact ⟨d - 1, _, _, _, by omega, ⟨rfl, k + 1, by omega, rfl, rfl⟩, rfl⟩)
    4000 64 (nI 0) (nI 0) z ⟨rfl, 0, by omega, rfl, rfl⟩ (by decide)
  exact e
theorem Md_cuts_eq (z : pj_S) (f : Nat → Bool) (h : ∀ s, s < 64 → z.1 1 (202 + s) = b2i (f s)) : Md_cuts z = some (nI (cnt f 64), z) := by
  unfold Md_cuts
  obtain ⟨a, k, z2, ⟨rfl, rfl⟩, e⟩ := pj_loop2 (F := Md_cuts_4)
    (P := fun d a v z' => z' = z ∧ ∃ k, k + d = 64 ∧ v = nI k ∧ a = nI (cnt f k))
    (E := fun a _ z' => a = nI (cnt f 64) ∧ z' = z)
    (G := fun a _ z' => some (a, z')) (by
      rintro self d a v z' ⟨rfl, k, hk, rfl, rfl⟩
      unfold Md_cuts_4
      by_cases c : 64 ≤ k
      · left
        have : k = 64 := by omega
        subst this
        exact ⟨⟨rfl, rfl⟩, by rw [if_pos (nI_le c (by decide))]⟩
      · right
        rw [if_neg (by rw [nI_leP (by decide) (by omega)]; exact c), nI_add, pj_gIn (by omega) (by decide), nI_clamp (by omega), h k (by omega), pj_bI, pj_bI, nI_add]
        unfold b2i
        rw [nI_add]
        exact ⟨d - 1, _, _, _, by omega, ⟨rfl, k + 1, by omega, rfl, rfl⟩, rfl⟩)
    4000 64 (nI 0) (nI 0) z ⟨rfl, 0, by omega, rfl, rfl⟩ (by decide)
  exact e
def sm (f : Nat → Nat) : Nat → Nat
  | 0 => 0
  | n + 1 => sm f n + f n
theorem Wool_lengthOf_eq (z : pj_S) (nl k : Nat) (hn : nl ≤ 20) (h : z.1 11 1 = nI nl) (hk : k < nl) : Wool_lengthOf (nI k) z = some (z.1 34 k, z) := by
  unfold Wool_lengthOf
  rw [if_neg (nI_pos (by omega)), h, if_neg (by rw [nI_leI (by omega) (by omega)]; omega), if_neg (by rw [nI_leI (by decide) (by omega)]; omega), pj_gIn (by omega) (by decide), nI_clamp (by omega)]
theorem Wool_total_eq (z : pj_S) (nl : Nat) (f : Nat → Nat) (hn : nl ≤ 20) (h : z.1 11 1 = nI nl) (hf : ∀ i, i < nl → z.1 34 i = nI (f i)) : Wool_total z = some (nI (sm f nl), z) := by
  unfold Wool_total
  obtain ⟨a, k, z2, ⟨rfl, rfl⟩, e⟩ := pj_loop2 (F := Wool_total_4)
    (P := fun d a v z' => z' = z ∧ ∃ k, k + d = nl ∧ v = nI k ∧ a = nI (sm f k))
    (E := fun a _ z' => a = nI (sm f nl) ∧ z' = z)
    (G := fun a _ z' => some (a, z')) (by
      rintro self d a v z' ⟨rfl, k, hk, rfl, rfl⟩
      unfold Wool_total_4
      rw [h]
      by_cases c : nl ≤ k
      · left
        have : k = nl := by omega
        subst this
        exact ⟨⟨rfl, rfl⟩, by rw [if_pos (nI_le c (by omega))]⟩
      · right
        rw [if_neg (by rw [nI_leP (by omega) (by omega)]; exact c), Wool_lengthOf_eq z' nl k hn h (by omega), pj_cS, hf k (by omega), nI_add, nI_add, pj_bI, pj_bI]
        exact ⟨d - 1, _, _, _, by omega, ⟨rfl, k + 1, by omega, rfl, rfl⟩, rfl⟩)
    4000 nl (nI 0) (nI 0) z ⟨rfl, 0, by omega, rfl, rfl⟩ (by omega)
  exact e
theorem Md_total_eq (z : pj_S) (nl : Nat) (f : Nat → Nat) (hn : nl ≤ 20) (h : z.1 1 3 = nI nl) (hf : ∀ i, i < nl → z.1 1 (270 + i) = nI (f i)) : pj_lp2 Md_look_156 4000 (nI 0) (nI 0) z = some (nI (sm f nl), z) := by
  obtain ⟨a, k, z2, ⟨rfl, rfl⟩, e⟩ := pj_loop2 (F := Md_look_156)
    (P := fun d a v z' => z' = z ∧ ∃ k, k + d = nl ∧ v = nI k ∧ a = nI (sm f k))
    (E := fun a _ z' => a = nI (sm f nl) ∧ z' = z)
    (G := fun a _ z' => some (a, z')) (by
      rintro self d a v z' ⟨rfl, k, hk, rfl, rfl⟩
      unfold Md_look_156
      rw [pj_gIn (by decide) (by decide), nI_clamp (by decide), h]
      by_cases c : nl ≤ k
      · left
        have : k = nl := by omega
        subst this
        exact ⟨⟨rfl, rfl⟩, by rw [if_pos (nI_le c (by omega))]⟩
      · right
        rw [if_neg (by rw [nI_leP (by omega) (by omega)]; exact c), nI_add, pj_gIn (by omega) (by decide), nI_clamp (by omega), hf k (by omega), nI_add, nI_add, pj_bI, pj_bI]
        exact ⟨d - 1, _, _, _, by omega, ⟨rfl, k + 1, by omega, rfl, rfl⟩, rfl⟩)
    4000 nl (nI 0) (nI 0) z ⟨rfl, 0, by omega, rfl, rfl⟩ (by omega)
  exact e
theorem pa_U.nat {nl : Nat} {lc : Int32} {ll w : Nat → Int32} (h : pa_U nl lc ll w) : ∃ f : Nat → Nat, ∀ i, i < nl → 1 ≤ f i ∧ f i ≤ 180 ∧ ll i = nI (f i) ∧ w (270 + i) = nI (f i) := by
  refine ⟨fun i => (ll i).toNatClampNeg, fun i hi => ?_⟩
  obtain ⟨v, v1, v2, v3, v4⟩ := h.2.2.2 i hi
  have : (ll i).toNatClampNeg = v := by rw [v3, nI_clamp (by omega)]
  dsimp only
  rw [this]
  exact ⟨v1, v2, v3, v4⟩
theorem ok_look (a : Int32) : pj_ok pa_I (PJ_look a) (Md_look a) := by
  intro zC zM h
  obtain ⟨⟨W, H, b, hr, nb, nl, pr, n, m, hA⟩, hK⟩ := id h
  obtain ⟨⟨hF, hH, hd, hB, hU, hL⟩, h1, h2, h3, hP⟩ := id hA
  obtain ⟨f, hf⟩ := hU.nat
  obtain ⟨g1, ⟨g2, g3, g4, g5, g6, g7⟩, -, -, g8, -, -, g9, -⟩ := id hF
  have fin : ∀ r : Int32, ∃ r2 zC2 zM2, some (r, zC) = some (r2, zC2) ∧ some (r, zM) = some (r2, zM2) ∧ pa_I zC2 zM2 := fun r => ⟨r, zC, zM, rfl, rfl, h⟩
  unfold PJ_look Md_look
  rw [pj_gIn (n := 0) (by decide) (by decide), pj_gIn (n := 1) (by decide) (by decide), pj_gIn (n := 2) (by decide) (by decide), pj_gIn (n := 3) (by decide) (by decide), pj_gIn (n := 4) (by decide) (by decide), pj_gIn (n := 5) (by decide) (by decide), pj_gIn (n := 6) (by decide) (by decide), pj_gIn (n := 605) (by decide) (by decide), nI_clamp (n := 0) (by decide), nI_clamp (n := 1) (by decide), nI_clamp (n := 2) (by decide), nI_clamp (n := 3) (by decide), nI_clamp (n := 4) (by decide), nI_clamp (n := 5) (by decide), nI_clamp (n := 6) (by decide), nI_clamp (n := 605) (by decide)]
  rw [Fabric_places_eq hF, pj_cS, JLong_bitCount_eq, pj_cS, JLong_bitCount_eq, pj_cS, Wool_total_eq zC nl f hU.1 hU.2.1 (fun i hi => (hf i hi).2.2.1), pj_cS,
    Md_hereMany_eq zM _ g8, pj_cS, Md_cuts_eq zM _ g9, pj_cS, Md_total_eq zM nl f hU.1 hU.2.2.1 (fun i hi => (hf i hi).2.2.2),
    g2, g3, g4, g5, g6, g7, hU.2.1, hU.2.2.1, hB.2.1, hB.2.2.1, hH.2.1, hH.2.2, hd, hL.2.2.2.2.2.1, hL.2.2.2.2.2.2.2.1, h1, h2, pk_mul, ib0]
  have eb : ∀ z : pj_S, (if b = true then some (nI 1, z) else some (nI 0, z)) = some (b2i b, z) := fun z => by cases b <;> rfl
  rw [eb]
  by_cases c0 : a = nI 0
  · rw [if_pos c0, if_pos c0]; exact fin _
  rw [if_neg c0, if_neg c0]
  by_cases c1 : a = nI 1
  · rw [if_pos c1, if_pos c1]; exact fin _
  rw [if_neg c1, if_neg c1]
  by_cases c2 : a = nI 2
  · rw [if_pos c2, if_pos c2]; exact fin _
  rw [if_neg c2, if_neg c2]
  by_cases c3 : a = nI 3
  · rw [if_pos c3, if_pos c3]; exact fin _
  rw [if_neg c3, if_neg c3]
  by_cases c4 : a = nI 4
  · rw [if_pos c4, if_pos c4]; exact fin _
  rw [if_neg c4, if_neg c4]
  by_cases c5 : a = nI 5
  · rw [if_pos c5, if_pos c5]; exact fin _
  rw [if_neg c5, if_neg c5]
  by_cases c6 : a = nI 6
  · rw [if_pos c6, if_pos c6]; exact fin _
  rw [if_neg c6, if_neg c6]
  by_cases c7 : a = nI 7
  · rw [if_pos c7, if_pos c7]; exact fin _
  rw [if_neg c7, if_neg c7]
  by_cases c8 : a = nI 8
  · rw [if_pos c8, if_pos c8]; exact fin _
  rw [if_neg c8, if_neg c8]
  by_cases c9 : a = nI 9
  · rw [if_pos c9, if_pos c9]; exact fin _
  rw [if_neg c9, if_neg c9]
  by_cases c10 : a = nI 10
  · rw [if_pos c10, if_pos c10]; exact fin _
  rw [if_neg c10, if_neg c10]
  by_cases c11 : a = nI 11
  · rw [if_pos c11, if_pos c11]; exact fin _
  rw [if_neg c11, if_neg c11]
  exact fin _
