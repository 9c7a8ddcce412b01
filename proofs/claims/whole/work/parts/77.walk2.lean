/-! the walk -/
theorem pm_go_c (z : pj_S) (s nb : Nat) (how : Int32) {c : Nat} (hc : c ≠ 1) : (pm_go z s nb how).1 c = z.1 c := by
  unfold pm_go
  dsimp only
  by_cases h : nb < 100
  · rw [if_pos h, ag_n _ _ _ _ hc, ag_n _ _ _ _ hc, ag_n _ _ _ _ hc, ag_n _ _ _ _ hc, ag_n _ _ _ _ hc]
  · rw [if_neg h, ag_n _ _ _ _ hc]
theorem pc_go_8 (z : pj_S) (s nb : Nat) (how : Int32) {c : Nat} (hc : c ≠ 6) : (pc_go z s nb how).2 8 c = z.2 8 c := by
  unfold pc_go
  dsimp only
  have : (pj_sJ z 8 6 ((z.2 8 6) &&& ((pj_shlL (1 : Int64) (nI s)) ^^^ (-1 : Int64)))).2 8 c = z.2 8 c := by
    show vp_updL (z.2 8) 6 _ c = _
    rw [pj_updL, if_neg hc]
  split
  · exact this
  · exact this
section WALK
variable {W H : Nat} {b : Bool} {hr nl : Nat} {pr : List pa_Ln} {n m : Nat} {real : Bool} {zC : pj_S} {nb : Nat} {dir : Bool} {k0 j : Nat} {l : List Nat} {e : Int32} {zc zm : pj_S}
theorem WI.stop (h : WI W H b hr nl pr n m real zC nb dir k0 j l e zc zm) (e2 : Int32) : WI W H b hr nl pr n m real zC nb dir k0 j l e2 (pj_sI zc 6 2 e2) (pj_sI zm 0 28 e2) := by
  obtain ⟨a1, ⟨b1, b2, b3⟩, c1, L, ⟨m1, m2, m3⟩, i1, ⟨kj, kc⟩, mm, oo, p, hp, hp8, hA, hK⟩ := h
  exact ⟨a1.I (Or.inl rfl), ⟨b1, rfl, b3⟩, c1, L, ⟨m1, m2, rfl⟩, i1, ⟨kj, kc⟩, mm, oo, p, hp, hp8, hA.pm (fun c c1 _ => ag_n _ _ _ _ (by omega)) (fun i hi => by rw [ag_1, upd_ne (by omega)]), hK.pm (fun c c1 _ => ag_n _ _ _ _ (by omega)) (fun i hi => by rw [ag_1, upd_ne (by omega)])⟩
theorem touch {W : Nat} {dir : Bool} {k0 j : Nat} {x : Int64} (h : ∀ t, t < 64 → (tb x t = true ↔ ∃ i, i < j ∧ t = stA W (pl dir k0 i))) {s : Nat} (hs : s < 64) (es : s = stA W (pl dir k0 j)) :
    ∀ t, t < 64 → (tb (x ||| pj_shlL (1 : Int64) (nI s)) t = true ↔ ∃ i, i < j + 1 ∧ t = stA W (pl dir k0 i)) := fun t ht => by
  rw [tb_set _ s hs]
  by_cases c : t = s
  · rw [if_pos c]
    exact ⟨fun _ => ⟨j, by omega, by rw [c]; exact es⟩, fun _ => rfl⟩
  · rw [if_neg c, h t ht]
    constructor
    · rintro ⟨i, hi, ei⟩
      exact ⟨i, by omega, ei⟩
    · rintro ⟨i, hi, ei⟩
      by_cases q : i = j
      · subst q; exact absurd (ei.trans es.symm) c
      · exact ⟨i, by omega, ei⟩
theorem WI.pass (h : WI W H b hr nl pr n m real zC nb dir k0 j l e zc zm) {s : Nat} (hs : s < 64) (es : s = stA W (pl dir k0 j)) (hx : tb (zc.2 6 3) s = false) :
    WI W H b hr nl pr n m real zC nb dir k0 (j + 1) l e (pj_sJ zc 6 4 ((zc.2 6 4) ||| pj_shlL (1 : Int64) (nI s))) (pj_sI zm 0 27 (nI (j + 1))) := by
  obtain ⟨a1, ⟨b1, b2, b3⟩, c1, L, ⟨m1, m2, m3⟩, i1, ⟨kj, kc⟩, mm, oo, p, hp, hp8, hA, hK⟩ := h
  refine ⟨a1.J (Or.inl rfl), ⟨b1, b2, b3⟩, touch c1 hs es, L, ⟨m1, rfl, m3⟩, i1, ⟨by omega, kc⟩, fun t ht q => ?_, fun t ht => ⟨(oo t ht).1, ?_, (oo t ht).2.2⟩, p, hp, hp8, hA.pm (fun c c1 _ => ag_n _ _ _ _ (by omega)) (fun i hi => by rw [ag_1, upd_ne (by omega)]), hK.pm (fun c c1 _ => ag_n _ _ _ _ (by omega)) (fun i hi => by rw [ag_1, upd_ne (by omega)])⟩
  · have q : tb ((zc.2 6 4) ||| pj_shlL (1 : Int64) (nI s)) t = true := q
    show tb (zc.2 6 3) t = false
    rw [tb_set _ s hs] at q
    by_cases c : t = s
    · rw [c]; exact hx
    · rw [if_neg c] at q; exact mm t ht q
  · show tb ((zc.2 6 4) ||| pj_shlL (1 : Int64) (nI s)) t = true
    rw [tb_set _ s hs]
    split
    · rfl
    · exact (oo t ht).2.1
theorem WI.go (h : WI W H b hr nl pr n m real zC nb dir k0 j l e zc zm) {s : Nat} (hs : s < 64) (es : s = stA W (pl dir k0 j)) (hx : tb (zc.2 6 3) s = true) {z2 : pj_S} (h2 : ∀ c, c ≠ 9 → c ≠ 11 → z2.1 c = (pj_sI zm 0 27 (nI (j + 1))).1 c)
    (L2 : pm_lay W (kdb (tb (zC.2 8 4)) (tb (zC.2 8 5))) (fun i => tb (zc.2 6 3) i && !decide (i = s)) (tb (zC.2 8 7)) z2) :
    ∃ zm4, (if real then Md_isGone (nI s) (nI 2) (pj_sI z2 0 26 (nI (l.length + 1))) = some ((), zm4) else zm4 = pj_sI z2 0 26 (nI (l.length + 1))) ∧
      WI W H b hr nl pr n m real zC nb dir k0 (j + 1) (l ++ [s]) e (pj_sJ (pj_sI (pj_sI (pj_sJ zc 6 3 ((zc.2 6 3) &&& ((pj_shlL (1 : Int64) (nI s)) ^^^ (-1 : Int64)))) 28 l.length (nI s)) 6 1 (nI (l.length + 1))) 6 4 ((zc.2 6 4) ||| pj_shlL (1 : Int64) (nI s))) zm4 := by
  obtain ⟨a1, ⟨b1, b2, b3⟩, c1, L, ⟨m1, m2, m3⟩, i1, ⟨kj, kc⟩, mm, oo, p, hp, hp8, hA, hK⟩ := h
  have len : (l ++ [s]).length = l.length + 1 := by simp
  have e3 : ∀ c, 1 ≤ c → c < 7 → (pj_sI z2 0 26 (nI (l.length + 1))).1 c = zm.1 c := fun c q1 q2 => by rw [ag_n _ _ _ _ (by omega), h2 c (by omega) (by omega), ag_n _ _ _ _ (by omega)]
  have e30 : ∀ i, i < 26 → (pj_sI z2 0 26 (nI (l.length + 1))).1 0 i = zm.1 0 i := fun i hi => by rw [ag_1, upd_ne (by omega), h2 0 (by decide) (by decide), ag_1, upd_ne (by omega)]
  have A3 := hA.pm (zM2 := pj_sI z2 0 26 (nI (l.length + 1))) e3 e30
  have K3 := hK.pm (zM2 := pj_sI z2 0 26 (nI (l.length + 1))) e3 e30
  have ax : agP zC (pj_sJ (pj_sI (pj_sI (pj_sJ zc 6 3 ((zc.2 6 3) &&& ((pj_shlL (1 : Int64) (nI s)) ^^^ (-1 : Int64)))) 28 l.length (nI s)) 6 1 (nI (l.length + 1))) 6 4 ((zc.2 6 4) ||| pj_shlL (1 : Int64) (nI s))) := (((a1.J (Or.inl rfl)).I (Or.inr rfl)).I (Or.inl rfl)).J (Or.inl rfl)
  have x3 : ∀ t, t < 64 → tb ((zc.2 6 3) &&& ((pj_shlL (1 : Int64) (nI s)) ^^^ (-1 : Int64))) t = (tb (zc.2 6 3) t && !decide (t = s)) := fun t ht => by
    rw [tb_and, tb_not _ _ ht, tb_bit s hs]
  have ord : ∀ i t, (l ++ [s])[i]? = some t → upd (zc.1 28) l.length (nI s) i = nI t := fun i t hi => by
    by_cases c : i < l.length
    · rw [List.getElem?_append_left c] at hi
      rw [upd_ne (by omega)]; exact b3 i t hi
    · have : i = l.length := by
        have := (List.getElem?_eq_some_iff.mp hi).1
        rw [len] at this; omega
      subst this
      rw [List.getElem?_append_right (Nat.le_refl _), Nat.sub_self] at hi
      have hi : some s = some t := hi
      cases hi
      rw [upd_s]
  have sin : tb (zC.2 8 6) s = true := by
    have := (i1 s hs).symm.trans hx
    rw [Bool.and_eq_true] at this
    exact this.1
  -- all but the last clause
  have all : ∀ zm4 : pj_S, (∀ c, c ≠ 1 → zm4.1 c = (pj_sI z2 0 26 (nI (l.length + 1))).1 c) → (∃ p : pj_S × Nat, p = (if real then (l ++ [s]).foldl goF (zC, nb) else (zC, nb)) ∧ (∀ c, c ≠ 6 → p.1.2 8 c = zC.2 8 c) ∧ pa_A W H b hr p.2 nl pr n m p.1 zm4 ∧ pa_K p.1 zm4) →
      WI W H b hr nl pr n m real zC nb dir k0 (j + 1) (l ++ [s]) e (pj_sJ (pj_sI (pj_sI (pj_sJ zc 6 3 ((zc.2 6 3) &&& ((pj_shlL (1 : Int64) (nI s)) ^^^ (-1 : Int64)))) 28 l.length (nI s)) 6 1 (nI (l.length + 1))) 6 4 ((zc.2 6 4) ||| pj_shlL (1 : Int64) (nI s))) zm4 := fun zm4 e4 last => by
    refine ⟨ax, ⟨by rw [len]; rfl, b2, ord⟩, touch c1 hs es, ?_, ⟨?_, ?_, ?_⟩, fun t ht => ?_, ⟨by rw [len]; omega, ?_⟩, fun t ht q => ?_, fun t ht => ?_, last⟩
    · obtain ⟨q1, q2, q3⟩ := L2
      have hfe : tb ((zc.2 6 3) &&& ((pj_shlL (1 : Int64) (nI s)) ^^^ (-1 : Int64))) = fun i => tb (zc.2 6 3) i && !decide (i = s) := by
        funext t
        by_cases c : t < 64
        · exact x3 t c
        · rw [tb_ge (by omega), tb_ge (by omega)]; rfl
      show pm_lay W _ (tb ((zc.2 6 3) &&& ((pj_shlL (1 : Int64) (nI s)) ^^^ (-1 : Int64)))) _ zm4
      rw [hfe]
      unfold pm_lay
      rw [e4 9 (by decide), e4 10 (by decide), e4 11 (by decide)]
      exact ⟨q1, q2, q3⟩
    · rw [e4 0 (by decide), len]; rfl
    · rw [e4 0 (by decide), ag_1, upd_ne (by decide), h2 0 (by decide) (by decide)]; rfl
    · rw [e4 0 (by decide), ag_1, upd_ne (by decide), h2 0 (by decide) (by decide), ag_1, upd_ne (by decide)]; exact m3
    · show tb ((zc.2 6 3) &&& ((pj_shlL (1 : Int64) (nI s)) ^^^ (-1 : Int64))) t = _
      rw [x3 t ht, i1 t ht, Bool.and_assoc]
      congr 1
      simp
    · show cnt (tb ((zc.2 6 3) &&& ((pj_shlL (1 : Int64) (nI s)) ^^^ (-1 : Int64)))) 64 + (l ++ [s]).length = _
      rw [len, ← kc, cnt_congr 64 x3]
      have := cnt_set (f := fun t => tb (zc.2 6 3) t && !decide (t = s)) (g := tb (zc.2 6 3)) (b := s) (by simp) (fun i => by
        by_cases c : i = s
        · subst c; simp [hx]
        · simp [c]) (n := 64)
      rw [if_pos hs] at this
      omega
    · have q : tb ((zc.2 6 4) ||| pj_shlL (1 : Int64) (nI s)) t = true := q
      show tb ((zc.2 6 3) &&& ((pj_shlL (1 : Int64) (nI s)) ^^^ (-1 : Int64))) t = false
      rw [tb_set _ s hs] at q
      rw [x3 t ht]
      by_cases c : t = s
      · rw [decide_eq_true c]; simp
      · rw [if_neg c] at q; rw [mm t ht q]; rfl
    · show t < 64 ∧ tb ((zc.2 6 4) ||| pj_shlL (1 : Int64) (nI s)) t = true ∧ _
      rw [tb_set _ s hs]
      rw [List.mem_append, List.mem_singleton] at ht
      rcases ht with ht | rfl
      · refine ⟨(oo t ht).1, ?_, (oo t ht).2.2⟩
        split
        · rfl
        · exact (oo t ht).2.1
      · rw [if_pos rfl]; exact ⟨hs, rfl, sin⟩
  cases real
  · rw [if_neg Bool.false_ne_true] at hp
    subst hp
    exact ⟨_, by rw [if_neg Bool.false_ne_true], all _ (fun _ _ => rfl) ⟨(zC, nb), by rw [if_neg Bool.false_ne_true], fun _ _ => rfl, A3, K3⟩⟩
  · rw [if_pos rfl] at hp
    obtain ⟨-, g2, g3, g4⟩ := pa_go A3 K3 s hs (nI 2)
    refine ⟨pm_go (pj_sI z2 0 26 (nI (l.length + 1))) s p.2 (nI 2), by rw [if_pos rfl]; exact g2, all _ (fun c hc => pm_go_c _ _ _ _ hc) ⟨goF p s, ?_, fun c hc => ?_, g3, g4⟩⟩
    · rw [if_pos rfl, List.foldl_append, ← hp]; rfl
    · show (pc_go p.1 s p.2 (nI 2)).2 8 c = _
      rw [pc_go_8 _ _ _ _ hc]; exact hp8 c hc
end WALK
