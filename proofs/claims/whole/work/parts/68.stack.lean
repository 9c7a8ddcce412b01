/-! stacks of both sides -/
def stk : List Int32 → (Nat → Int32) → Prop
  | [], _ => True
  | x :: r, f => f r.length = x ∧ stk r f
theorem stk_upd {f : Nat → Int32} {k : Nat} {v : Int32} : ∀ l : List Int32, l.length ≤ k → stk l f → stk l (upd f k v)
  | [], _, _ => trivial
  | x :: r, h, ⟨h1, h2⟩ => ⟨by
      have : r.length + 1 ≤ k := h
      rw [upd_ne (by omega)]; exact h1, stk_upd r (by have : r.length + 1 ≤ k := h
                                                      omega) h2⟩
/-- the class's stack is l; nothing else differs from z -/
def pc_stk (l : List Int32) (z z2 : pj_S) : Prop := (∀ c, c ≠ 9 → c ≠ 30 → z2.1 c = z.1 c) ∧ z2.2 = z.2 ∧ (∀ j, j ≠ 4 → z2.1 9 j = z.1 9 j) ∧ z2.1 9 4 = nI l.length ∧ stk l (z2.1 30)
theorem Law_push_eq {l : List Int32} {z z2 : pj_S} (h : pc_stk l z z2) (hl : l.length < 64) (v : Int32) : ∃ z3, Law_push v z2 = some ((), z3) ∧ pc_stk (v :: l) z z3 := by
  obtain ⟨h1, h2, h3, h4, h5⟩ := h
  unfold Law_push
  rw [h4, if_neg (nI_pos (by omega)), if_neg (by rw [nI_leP (by decide) (by omega)]; omega), pj_gIn (n := l.length) hl (by decide), nI_clamp (n := l.length) (by omega), pj_bI, ag_n _ _ _ _ (by decide), h4, nI_add, pj_bI]
  refine ⟨_, rfl, fun c c9 c30 => ?_, h2, fun j hj => ?_, rfl, ?_⟩
  · rw [ag_n _ _ _ _ c9, ag_n _ _ _ _ c30]; exact h1 c c9 c30
  · rw [ag_1, upd_ne hj, ag_n _ _ _ _ (by decide)]; exact h3 j hj
  · rw [ag_n _ _ _ _ (by decide), ag_1]
    exact ⟨upd_s _ _ _, stk_upd l (Nat.le_refl _) h5⟩
theorem Law_pop_eq {l : List Int32} {x : Int32} {z z2 : pj_S} (h : pc_stk (x :: l) z z2) (hl : l.length < 64) : ∃ z3, Law_pop z2 = some (x, z3) ∧ pc_stk l z z3 := by
  obtain ⟨h1, h2, h3, h4, h5, h6⟩ := h
  have h4 : z2.1 9 4 = nI (l.length + 1) := h4
  unfold Law_pop
  have x0 : ¬ nI (l.length + 1) ≤ 0 := by show ¬ nI (l.length + 1) ≤ nI 0; rw [nI_leP (by omega) (by decide)]; omega
  rw [h4, if_neg x0, if_pos (nI_le (by omega) (by decide)), pk_sub (by omega), pj_bI, Nat.add_sub_cancel]
  have e : (pj_sI z2 9 4 (nI l.length)).1 9 4 = nI l.length := rfl
  rw [e, pj_gIn (n := l.length) hl (by decide), nI_clamp (n := l.length) (by omega), ag_n _ _ _ _ (by decide), h5]
  refine ⟨_, rfl, fun c c9 c30 => ?_, h2, fun j hj => ?_, rfl, ?_⟩
  · rw [ag_n _ _ _ _ c9]; exact h1 c c9 c30
  · rw [ag_1, upd_ne hj]; exact h3 j hj
  · rw [ag_n _ _ _ _ (by decide)]; exact h6
