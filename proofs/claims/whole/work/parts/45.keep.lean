/-- the class's row of steps behind a keeping -/
def pc_kept (z : pj_S) (m n : Nat) : pj_S :=
  pj_sI (pj_sI (pj_sI (pj_sI (pj_sI (pj_sI (pj_sJ (pj_sJ (pj_sJ z 16 m (z.2 8 6)) 17 m (z.2 8 8)) 18 m (z.2 8 9)) 19 m (z.1 1 4)) 20 m (z.1 1 5)) 21 m (z.1 10 3)) 22 m (z.1 11 1)) 3 8 (nI ((m + 1) % 8))) 3 7 (nI (min (n + 1) 8))
theorem Past_keep_eq (z : pj_S) (m n : Nat) (hm : m < 8) (hn : n ≤ 8) (h1 : z.1 3 8 = nI m) (h2 : z.1 3 7 = nI n) : Past_keep z = some ((), pc_kept z m n) := by
  unfold Past_keep pc_kept
  have e : (m % 8 + 1) % 8 = (m + 1) % 8 := by omega
  have e2 : m % 8 = m := by omega
  simp (disch := omega) only [pj_bI, h1, nI_and7, pj_gIn, nI_clamp, nI_add, e]
  rw [e2]
  have r1 : (pj_sI (pj_sI (pj_sI (pj_sI (pj_sI (pj_sJ (pj_sJ (pj_sJ z 16 m (z.2 8 6)) 17 m (z.2 8 8)) 18 m (z.2 8 9)) 19 m (z.1 1 4)) 20 m (z.1 1 5)) 21 m (z.1 10 3)) 22 m (z.1 11 1)) 3 8 (nI ((m + 1) % 8))).1 3 7 = nI n := h2
  show some ((), pj_sI _ 3 7 (pj_min ((pj_sI (pj_sI (pj_sI (pj_sI (pj_sI (pj_sJ (pj_sJ (pj_sJ z 16 m (z.2 8 6)) 17 m (z.2 8 8)) 18 m (z.2 8 9)) 19 m (z.1 1 4)) 20 m (z.1 1 5)) 21 m (z.1 10 3)) 22 m (z.1 11 1)) 3 8 (nI ((m + 1) % 8))).1 3 7 + nI 1) (nI 8))) = _
  rw [r1, nI_add, pj_minN (by omega) (by decide)]
  rfl
theorem pa_P.mono {W H nb nl nb2 nl2 n m : Nat} {ph pw pc : Nat → Int64} {phr pdr pli ple back : Nat → Int32} (h : pa_P W H nb nl n m ph pw pc phr pdr pli ple back) (h1 : nb ≤ nb2) (h2 : nl ≤ nl2) : pa_P W H nb2 nl2 n m ph pw pc phr pdr pli ple back := by
  obtain ⟨a1, a2, a3, cb, cl, a4, a5⟩ := h
  refine ⟨a1, a2, a3, cb, cl, fun i hi => ?_, a5⟩
  obtain ⟨b1, b2, b3, b4, b5, b6⟩ := a4 i hi
  exact ⟨b1, b2, b3, b4, by omega, by omega⟩
theorem pa_P.keep {W H nb nl n m : Nat} {ph pw pc ph2 pw2 pc2 : Nat → Int64} {phr pdr pli ple back phr2 pdr2 pli2 ple2 back2 : Nat → Int32} {b : Bool} {I : Nat → Int32} {J : Nat → Int64} {w : Nat → Int32} {hr : Nat} {d : Int32}
    (h : pa_P W H nb nl n m ph pw pc phr pdr pli ple back) (hF : pa_F W H b I J w) (hh : hr ≤ 9999) (w5 : w 5 = nI hr) (w6 : d = w 6) (w4 : w 4 = nI nb) (w3 : w 3 = nI nl)
    (q1 : ∀ j, ph2 j = if j = m then J 6 else ph j) (q2 : ∀ j, pw2 j = if j = m then J 8 else pw j) (q3 : ∀ j, pc2 j = if j = m then J 9 else pc j)
    (q4 : ∀ j, phr2 j = if j = m then nI hr else phr j) (q5 : ∀ j, pdr2 j = if j = m then d else pdr j) (q6 : ∀ j, pli2 j = if j = m then nI nb else pli j) (q7 : ∀ j, ple2 j = if j = m then nI nl else ple j)
    (k1 : ∀ j, j < 196 * (min (n + 1) 8 - 1) → back2 j = if n = 8 then back (j + 196) else back j) (k2 : pm_new w back2 (min (n + 1) 8 - 1)) :
    pa_P W H nb nl (min (n + 1) 8) ((m + 1) % 8) ph2 pw2 pc2 phr2 pdr2 pli2 ple2 back2 := by
  obtain ⟨a1, a2, a3, cb, cl, a4, a5⟩ := h
  obtain ⟨-, -, -, -, f5, -, f7, f8, f9, f10, f11⟩ := hF
  have key : ∀ i, i < min (n + 1) 8 - 1 → ∃ o, o < n ∧ o = (if n = 8 then i + 1 else i) ∧ ((m + 1) % 8 + 8 - min (n + 1) 8 + i) % 8 = (m + 8 - n + o) % 8 ∧ (m + 8 - n + o) % 8 ≠ m ∧ ∀ j, j < 196 → back2 (196 * i + j) = back (196 * o + j) := by
    intro i hi
    by_cases c : n = 8
    · refine ⟨i + 1, by omega, by rw [if_pos c], by omega, by omega, fun j hj => ?_⟩
      rw [k1 _ (by omega), if_pos c]
      congr 1
      omega
    · refine ⟨i, by omega, by rw [if_neg c], by omega, by omega, fun j hj => ?_⟩
      rw [k1 _ (by omega), if_neg c]
  have last : ∀ i, i < min (n + 1) 8 → ¬ i < min (n + 1) 8 - 1 → i = min (n + 1) 8 - 1 ∧ ((m + 1) % 8 + 8 - min (n + 1) 8 + i) % 8 = m := fun i h1 h2 => by omega
  refine ⟨by omega, by omega, fun i hi => ?_, fun i => if i = min (n + 1) 8 - 1 then nb else cb (if n = 8 then i + 1 else i), fun i => if i = min (n + 1) 8 - 1 then nl else cl (if n = 8 then i + 1 else i), fun i hi => ?_, fun i j hij hj => ?_⟩
  · by_cases c : i < min (n + 1) 8 - 1
    · obtain ⟨o, o1, -, o2, o3, o4⟩ := key i c
      obtain ⟨b1, b2, b3, b4, ⟨v, v1, v2, v3⟩, b6⟩ := a3 o o1
      rw [o2, q1, q2, q3, q4, q5, if_neg o3, if_neg o3, if_neg o3, if_neg o3, if_neg o3]
      refine ⟨fun s hs => ?_, b2, b3, b4, ⟨v, v1, v2, ?_⟩, ?_⟩
      · have := b1 s hs
        rw [Nat.add_assoc, o4 (4 + s) (by omega), Nat.add_assoc, o4 (68 + s) (by omega), Nat.add_assoc, o4 (132 + s) (by omega), ← Nat.add_assoc, ← Nat.add_assoc, ← Nat.add_assoc]
        exact this
      · rw [o4 2 (by omega)]; exact v3
      · rw [o4 3 (by omega)]; exact b6
    · obtain ⟨l1, l2⟩ := last i hi c
      rw [l2, q1, q2, q3, q4, q5, if_pos rfl, if_pos rfl, if_pos rfl, if_pos rfl, if_pos rfl, l1]
      refine ⟨fun s hs => ?_, fun s hs g => ⟨(f9 s hs g).2.2.1, (f9 s hs g).2.2.2.2⟩, f10, f11, ⟨hr, hh, rfl, ?_⟩, ?_⟩
      · obtain ⟨g1, g2, g3⟩ := k2.2 s hs
        rw [g1, g2, g3]
        exact ⟨f5 s hs, f8 s hs, f7 s hs⟩
      · rw [k2.1 2 (by decide)]; exact w5
      · rw [k2.1 3 (by decide)]; exact w6
  · by_cases c : i < min (n + 1) 8 - 1
    · obtain ⟨o, o1, o5, o2, o3, o4⟩ := key i c
      obtain ⟨b1, b2, b3, b4, b5, b6⟩ := a4 o o1
      have ne : ¬ i = min (n + 1) 8 - 1 := by omega
      dsimp only
      rw [o2, q6, q7, if_neg o3, if_neg o3, if_neg ne, if_neg ne, ← o5]
      refine ⟨b1, ?_, b3, ?_, b5, b6⟩
      · rw [o4 1 (by omega)]; exact b2
      · have := o4 0 (by omega)
        rw [Nat.add_zero, Nat.add_zero] at this
        rw [this]; exact b4
    · obtain ⟨l1, l2⟩ := last i hi c
      dsimp only
      rw [l2, q6, q7, if_pos rfl, if_pos rfl, if_pos l1, if_pos l1, l1]
      refine ⟨rfl, ?_, rfl, ?_, Nat.le_refl _, Nat.le_refl _⟩
      · rw [k2.1 1 (by decide)]; exact w4
      · have := k2.1 0 (by decide)
        rw [Nat.add_zero] at this
        rw [this]; exact w3
  · by_cases c : j = min (n + 1) 8 - 1
    · by_cases c2 : i = min (n + 1) 8 - 1
      · simp [c, c2]
      · simp only [c, c2, ↓reduceIte]
        obtain ⟨o, o1, o5, -⟩ := key i (by omega)
        have := a4 o o1
        rw [← o5]
        exact ⟨this.2.2.2.2.1, this.2.2.2.2.2⟩
    · simp only [c, show ¬ i = min (n + 1) 8 - 1 by omega, ↓reduceIte]
      by_cases c3 : n = 8
      · simp only [c3, ↓reduceIte]; exact a5 _ _ (by omega) (by omega)
      · simp only [c3, ↓reduceIte]; exact a5 _ _ (by omega) (by omega)
/-- both sides keep a step -/
theorem pa_keep {W H : Nat} {b : Bool} {hr nb nl : Nat} {pr : List pa_Ln} {n m : Nat} {zC zM : pj_S} (h : pa_A W H b hr nb nl pr n m zC zM) (hK : pa_K zC zM) :
    ∃ zM2, Past_keep zC = some ((), pc_kept zC m n) ∧ Md_keeps zM = some ((), zM2) ∧ pa_A W H b hr nb nl pr (min (n + 1) 8) ((m + 1) % 8) (pc_kept zC m n) zM2 ∧ pa_K (pc_kept zC m n) zM2 ∧ zM2.1 1 = zM.1 1 := by
  obtain ⟨⟨hF, hH, hd, hB, hU, hL⟩, h1, h2, h3, hP⟩ := h
  obtain ⟨zM2, e2, ⟨g1, g2⟩, g3, g4, g5⟩ := Md_keeps_eq zM n hP.1 h2
  have a1 : zM2.1 1 = zM.1 1 := g1 1 (by decide) (by decide)
  refine ⟨zM2, Past_keep_eq zC m n hP.2.1 hP.1 h3 h1, e2, ⟨?_, rfl, g3, rfl, ?_⟩, ?_, a1⟩
  · rw [a1]; exact ⟨hF, hH, hd, hB, hU, hL⟩
  · refine hP.keep (w := zM.1 1) hF hH.1 hH.2.2 hd hB.2.2.1 hU.2.2.1 (fun j => rfl) (fun j => rfl) (fun j => rfl) (fun j => ?_) (fun j => rfl) (fun j => ?_) (fun j => ?_) g4 g5
    · show upd (zC.1 19) m (zC.1 1 4) j = _; rw [hH.2.1]; rfl
    · show upd (zC.1 21) m (zC.1 10 3) j = _; rw [hB.2.1]; rfl
    · show upd (zC.1 22) m (zC.1 11 1) j = _; rw [hU.2.1]; rfl
  · unfold pa_K at hK ⊢
    rw [g1 2 (by decide) (by decide), g1 6 (by decide) (by decide), g2 4 (by decide), g2 12 (by decide), g2 19 (by decide), g2 21 (by decide)]
    exact hK
