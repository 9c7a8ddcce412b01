theorem pa_I.of {zC zM : pj_S} {W H : Nat} {b : Bool} {hr nb nl : Nat} {pr : List pa_Ln} {n m : Nat} (h : pa_A W H b hr nb nl pr n m zC zM) (k : pa_K zC zM) : pa_I zC zM := ⟨⟨W, H, b, hr, nb, nl, pr, n, m, h⟩, k⟩
theorem upd_ne {f : Nat → Int32} {k j : Nat} {x : Int32} (h : j ≠ k) : upd f k x j = f j := pk_un h
theorem Past_forget_eq (z : pj_S) : Past_forget z = some ((), pj_sI z 3 7 (nI 0)) := rfl
theorem ok_state (a : Int32) : pj_ok pa_I (PJ_state a) (Md_state a) := by
  intro zC zM ⟨⟨W, H, b, hr, nb, nl, pr, n, m, ⟨hF, hH, hd, hB, hU, hL⟩, h1, h2, h3, hP⟩, hK⟩
  have e1 : PJ_state a zC = some (zC.1 1 5, pj_sI (pj_sI zC 1 5 a) 3 7 (nI 0)) := rfl
  have e2 : Md_state a zM = some (zM.1 1 6, pj_sI (pj_sI zM 1 6 a) 0 3 (nI 0)) := rfl
  rw [hd] at e1
  refine ⟨_, _, _, e1, e2, pa_I.of (W := W) (H := H) (b := b) (hr := hr) (nb := nb) (nl := nl) (pr := pr) (n := 0) (m := m) ⟨⟨?_, hH, rfl, ?_, ?_, ?_⟩, rfl, rfl, h3, pa_P.none hP.2.1⟩ hK⟩
  · exact hF.w (fun i hi => upd_ne (by unfold rgF at hi; omega))
  · exact hB.w (fun i hi => upd_ne (by omega))
  · exact hU.w (fun i hi => upd_ne (by omega))
  · exact hL.w (fun i h1 h2 => upd_ne (by omega))
theorem ib0 {α : Type} (c : Bool) (X Y : α) : (if b2i c = 0 then X else Y) = if c = true then Y else X := by cases c <;> rfl
theorem ibn {α : Type} (c : Bool) (X Y : α) : (if b2i c = nI 0 then X else Y) = if c = true then Y else X := by cases c <;> rfl
theorem ib1 {α : Type} (c : Bool) (X Y : α) : (if b2i c = nI 1 then X else Y) = if c = true then X else Y := by cases c <;> rfl
theorem nI_or (v : Int32) : (∃ k : Nat, k < 2 ^ 31 ∧ v = nI k) ∨ v.toInt < 0 := by
  by_cases h : v < 0
  · right
    have := Int32.lt_iff_toInt_lt.mp h
    simpa using this
  · exact Or.inl (nI_of h)
theorem ng_lt0 {v : Int32} (h : v.toInt < 0) : v < 0 := Int32.lt_iff_toInt_lt.mpr (by simpa using h)
theorem ng_lt {v : Int32} (h : v.toInt < 0) {n : Nat} (hn : n < 2 ^ 31) : v < nI n := Int32.lt_iff_toInt_lt.mpr (by rw [nI_toInt hn]; omega)
theorem ng_nle {v : Int32} (h : v.toInt < 0) {n : Nat} (hn : n < 2 ^ 31) : ¬ nI n ≤ v := fun q => by
  have := Int32.le_iff_toInt_le.mp q
  rw [nI_toInt hn] at this
  omega
theorem ng_ne {v : Int32} (h : v.toInt < 0) {n : Nat} (hn : n < 2 ^ 31) : ¬ v = nI n := fun q => by
  rw [q, nI_toInt hn] at h
  omega
theorem ng_ne0 {v : Int32} (h : v.toInt < 0) : ¬ v = 0 := ng_ne (n := 0) h (by decide)
theorem isin_neg {v : Int32} (h : v.toInt < 0) {a b : Int} (ha : 0 ≤ a) : isin v a b = false := by
  unfold isin
  have : ¬ a ≤ v.toInt := by omega
  simp [this]
theorem isin_k {k : Nat} (hk : k < 2 ^ 31) {a b : Int} : isin (nI k) a b = (decide (a ≤ (k : Int)) && decide ((k : Int) ≤ b)) := by
  unfold isin
  rw [nI_toInt hk]
theorem nI_lt0 {n : Nat} (h : n < 2 ^ 31) : (nI n < 0) = False := by simp only [eq_iff_iff, iff_false]; exact nI_pos h
theorem nI_eq0 {n : Nat} (h : n < 2 ^ 31) : (nI n = 0) = (n = 0) := by
  apply propext
  exact nI_eq (b := 0) h (by decide)
theorem nI_sub1 {n k : Nat} (hn : n < 2 ^ 30) (hk : k < 2 ^ 30) : (nI n - nI k).toInt = (n : Int) - k := pk_sub_toInt hn hk
theorem ok_end (a : Int32) : pj_ok pa_I (PJ_end a) (Md_end a) := by
  intro zC zM ⟨hA, hI, ⟨n, t1, t2, ht, hb⟩, hf⟩
  unfold PJ_end Md_end
  rw [Md_isIn_eq, pj_cS, t1, t2, ib0]
  rcases nI_or a with ⟨k, hk, rfl⟩ | hn
  · rw [isin_k hk, nI_toInt (by omega), nI_toInt (by omega), if_neg (nI_pos hk)]
    by_cases c : k ≤ n
    · rw [if_pos (nI_le c (by omega)), if_pos (by simp [c])]
      exact ⟨_, _, _, rfl, rfl, hA, hI, ⟨k, rfl, rfl, by omega, fun i hi => hb i (by omega)⟩, hf⟩
    · rw [if_neg (by rw [nI_leI hk (by omega)]; exact c), if_neg (by simp [c])]
      exact ⟨_, _, _, rfl, rfl, hA, hI, ⟨n, t1, t2, ht, hb⟩, hf⟩
  · rw [if_pos (ng_lt0 hn), isin_neg hn (by rw [nI_toInt (by omega)]; omega), if_neg (by simp)]
    exact ⟨_, _, _, rfl, rfl, hA, hI, ⟨n, t1, t2, ht, hb⟩, hf⟩
theorem ok_wound (a : Int32) : pj_ok pa_I (PJ_wound a) (Md_wound a) := by
  intro zC zM h
  obtain ⟨⟨W, H, b, hr, nb, nl, pr, n, m, ⟨hF, hH, hd, hB, ⟨u1, u2, u3, u4⟩, hL⟩, h1, h2, h3, hP⟩, hK⟩ := id h
  unfold PJ_wound Md_wound Wool_lengthOf
  rw [pj_gIn (by decide) (by decide), Md_isIn_eq, pj_cS, nI_clamp (by decide), u3, u2, ib0, nI_sub1 (by omega) (by decide), nI_toInt (by decide)]
  rcases nI_or a with ⟨k, hk, rfl⟩ | hn
  · rw [isin_k hk, if_neg (nI_pos hk), nI_add]
    by_cases c : k < nl
    · rw [if_neg (by rw [nI_leI (by omega) hk]; omega), if_neg (by rw [nI_leI (by decide) hk]; omega), pj_gIn (by omega) (by decide), pj_cS, if_pos (by simp; omega), pj_gIn (by omega) (by decide), nI_clamp (by omega), nI_clamp (by omega)]
      obtain ⟨v, -, -, e1, e2⟩ := u4 k c
      rw [e1, e2]
      exact ⟨_, _, _, rfl, rfl, h⟩
    · rw [if_pos (by rw [nI_leI (by omega) hk]; omega), if_neg (by simp; omega)]
      exact ⟨_, _, _, rfl, rfl, h⟩
  · rw [if_pos (ng_lt0 hn), isin_neg hn (by decide), if_neg (by simp)]
    exact ⟨_, _, _, rfl, rfl, h⟩
