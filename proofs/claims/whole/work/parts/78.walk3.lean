/-! the walk, whole -/
section WALK3
variable {W H : Nat} {b : Bool} {hr nl : Nat} {pr : List pa_Ln} {n m : Nat} {real : Bool} {zC : pj_S} {nb : Nat} {dir : Bool} {k0 : Nat}
def sI' (dir : Bool) : Int32 := if dir then nI 1 else -1
theorem walk_run {w : Nat → Int32} (hF : pa_F W H b (zC.1 8) (zC.2 8) w) (hk0 : k0 < W * H) {limC limM : Nat} (hl1 : ∀ c, c < 36 → (limC ≤ c ↔ limM ≤ c)) (hl2 : limC < 100 ∧ limM < 100) :
    ∀ d j l zc zm nC nM, j + d = plJ dir (W * H) k0 → 0 < d → d < nC → d < nM → ¬ limC ≤ l.length → WI W H b hr nl pr n m real zC nb dir k0 j l (-1) zc zm →
    ∃ l2 j2 e zc2 zm2, pj_lp4 Puller_walk_29 nC (dI dir) (nI limC) (nI (pl dir k0 j)) (nI j) zc = some ((), zc2) ∧ pj_lp6 Md_pulls_33 nM (dI dir) (nI limM) (b2i real) (sI' dir) (nI (pl dir k0 j)) (nI 1) zm = some ((), zm2) ∧
      j2 ≤ plJ dir (W * H) k0 ∧ WI W H b hr nl pr n m real zC nb dir k0 j2 l2 e zc2 zm2 := by
  obtain ⟨p1, p2⟩ := wh_b hF.1
  have hJ : plJ dir (W * H) k0 ≤ W * H := by unfold plJ; split <;> omega
  intro d
  induction d with
  | zero => intro j l zc zm nC nM _ h0; omega
  | succ d ih =>
    intro j l zc zm nC nM hd _ hC hM hlim hI
    obtain ⟨nC, rfl⟩ : ∃ q, nC = q + 1 := ⟨nC - 1, by omega⟩
    obtain ⟨nM, rfl⟩ : ∃ q, nM = q + 1 := ⟨nM - 1, by omega⟩
    have hj36 : j < 36 := by omega
    have hk : pl dir k0 j < W * H := by
      unfold plJ at hd
      unfold pl
      cases dir <;> simp at hd ⊢ <;> omega
    obtain ⟨st, -⟩ := stA_st (W := W) (H := H) ⟨hF.1.1, hF.1.2.1⟩ hk
    have s48 := stit_48 hF.1.2.2.2 st
    have es : stA W (pl dir k0 j) = stA W (pl dir k0 j) := rfl
    have gonJ : gon dir (W * H) (tb (zC.2 8 9)) (pl dir k0 j) = true → j + 1 < plJ dir (W * H) k0 := fun g => by
      unfold gon pl at g
      unfold plJ at hd ⊢
      cases dir <;> simp at g hd ⊢ <;> omega
    have nxt : j + 1 < plJ dir (W * H) k0 → (if dir then nI (pl dir k0 j) + nI 1 else nI (pl dir k0 j) - nI 1) = nI (pl dir k0 (j + 1)) ∧ nI (pl dir k0 j) + sI' dir = nI (pl dir k0 (j + 1)) := fun q => by
      unfold plJ at q
      unfold pl sI'
      cases dir
      · have q : j + 1 < k0 + 1 := q
        rw [if_neg Bool.false_ne_true, if_neg Bool.false_ne_true, if_neg Bool.false_ne_true, if_neg Bool.false_ne_true, pk_sub (by omega), nI_dec (by omega)]
        exact ⟨by congr 1, by congr 1⟩
      · rw [if_pos rfl, if_pos rfl, if_pos rfl, if_pos rfl, nI_add]
        exact ⟨rfl, rfl⟩
    -- behind a place that was passed
    have tail : ∀ l' zc' zm', WI W H b hr nl pr n m real zC nb dir k0 (j + 1) l' (-1) zc' zm' →
        ∃ l2 j2 e zc2 zm2, (if dI dir = nI 1 then Puller_walk_99 (pj_lp4 Puller_walk_29 nC) (dI dir) (nI limC) (nI (pl dir k0 j)) (nI j) (nI (pl dir k0 j) + nI 1) zc' else Puller_walk_99 (pj_lp4 Puller_walk_29 nC) (dI dir) (nI limC) (nI (pl dir k0 j)) (nI j) (nI (pl dir k0 j) - nI 1) zc') = some ((), zc2) ∧
          Md_pulls_111 (pj_lp6 Md_pulls_33 nM) (dI dir) (nI limM) (b2i real) (sI' dir) (nI (pl dir k0 j)) zm' = some ((), zm2) ∧ j2 ≤ plJ dir (W * H) k0 ∧ WI W H b hr nl pr n m real zC nb dir k0 j2 l2 e zc2 zm2 := fun l' zc' zm' hI' => by
      obtain ⟨a1, ⟨b1, b2, b3⟩, c1, L, ⟨m1, m2, m3⟩, i1, ⟨kj, kc⟩, mm, oo, p, hp, hp8, hA, hK⟩ := id hI'
      have hFc : pa_F W H b (zc'.1 8) (zc'.2 8) w := by rw [(a1 8 (by decide) (by decide)).1, (a1 8 (by decide) (by decide)).2]; exact hF
      have hFm := hA.1.1
      have cu : ∀ k, k < 64 → zm'.1 1 (202 + k) = b2i (tb (zC.2 8 9) k) := fun k hk => by rw [hFm.2.2.2.2.2.2.2.1 k hk, hp8 9 (by decide)]
      have me : Md_isEnd (nI (pl dir k0 j)) (if dir then nI 0 else nI 1) zm' = some (b2i (!gon dir (W * H) (tb (zC.2 8 9)) (pl dir k0 j)), zm') := by
        rw [Md_isEnd_eq hFm.2.1.2.2.2.1 hFm.2.1.2.2.2.2.1 ⟨p1, p2⟩ _ cu, end_gon dir _ hk p2]
      have ce : Fabric_hasThreadBetween (nI (pl dir k0 j)) (if dir then nI (pl dir k0 j) + nI 1 else nI (pl dir k0 j) - nI 1) zc' = some (b2i (gon dir (W * H) (tb (zC.2 8 9)) (pl dir k0 j)), zc') := by
        rw [thread_c hFc dir _ hk, (a1 8 (by decide) (by decide)).2]
      have cform : (if dI dir = nI 1 then Puller_walk_99 (pj_lp4 Puller_walk_29 nC) (dI dir) (nI limC) (nI (pl dir k0 j)) (nI j) (nI (pl dir k0 j) + nI 1) zc' else Puller_walk_99 (pj_lp4 Puller_walk_29 nC) (dI dir) (nI limC) (nI (pl dir k0 j)) (nI j) (nI (pl dir k0 j) - nI 1) zc')
          = (if gon dir (W * H) (tb (zC.2 8 9)) (pl dir k0 j) then pj_lp4 Puller_walk_29 nC (dI dir) (nI limC) (if dir then nI (pl dir k0 j) + nI 1 else nI (pl dir k0 j) - nI 1) (nI (j + 1)) zc' else some ((), zc')) := by
        unfold Puller_walk_99
        have : ∀ (X Y : Option (Unit × pj_S)), (if dI dir = nI 1 then X else Y) = if dir then X else Y := fun X Y => by cases dir <;> rfl
        rw [this]
        cases dir
        · rw [if_neg Bool.false_ne_true] at ce ⊢
          rw [ce, pj_cS, ib0, nI_add, pj_bI, if_neg Bool.false_ne_true]
        · rw [if_pos rfl] at ce ⊢
          rw [ce, pj_cS, ib0, nI_add, pj_bI, if_pos rfl, nI_add]
      have stopM : ∀ x, pj_lp6 Md_pulls_33 nM (dI dir) (nI limM) (b2i real) (sI' dir) x (nI 0) zm' = some ((), zm') := fun x => by
        obtain ⟨q, rfl⟩ : ∃ q, nM = q + 1 := ⟨nM - 1, by omega⟩
        rw [pj_lp6_s]
        unfold Md_pulls_33
        rw [if_pos (by decide)]
      have mform : Md_pulls_111 (pj_lp6 Md_pulls_33 nM) (dI dir) (nI limM) (b2i real) (sI' dir) (nI (pl dir k0 j)) zm'
          = (if limM ≤ l'.length then some ((), zm') else if gon dir (W * H) (tb (zC.2 8 9)) (pl dir k0 j) then pj_lp6 Md_pulls_33 nM (dI dir) (nI limM) (b2i real) (sI' dir) (nI (pl dir k0 j) + sI' dir) (nI 1) zm' else some ((), zm')) := by
        unfold Md_pulls_111 Md_pulls_151 Md_pulls_147 Md_pulls_152
        rw [m1]
        by_cases c : limM ≤ l'.length
        · rw [if_pos (nI_le c (by omega)), if_pos c, pj_bI, stopM]
        · rw [if_neg (by rw [nI_leP (by omega) (by omega)]; exact c), if_neg c]
          cases dir
          · rw [if_neg Bool.false_ne_true] at me
            rw [if_neg (by decide), me, pj_cS, ib0]
            cases gon false (W * H) (tb (zC.2 8 9)) (pl false k0 j)
            · rw [if_pos (by decide), if_neg Bool.false_ne_true, pj_bI, stopM]
            · rw [if_neg (by decide), if_pos rfl, pj_bI]
          · rw [if_pos rfl] at me
            rw [if_pos (by decide), me, pj_cS, ib0]
            cases gon true (W * H) (tb (zC.2 8 9)) (pl true k0 j)
            · rw [if_pos (by decide), if_neg Bool.false_ne_true, pj_bI, stopM]
            · rw [if_neg (by decide), if_pos rfl, pj_bI]
      rw [cform, mform]
      cases g : gon dir (W * H) (tb (zC.2 8 9)) (pl dir k0 j)
      · rw [if_neg Bool.false_ne_true, if_neg Bool.false_ne_true]
        refine ⟨l', j + 1, -1, zc', zm', rfl, ?_, by omega, hI'⟩
        split <;> rfl
      · have hj2 := gonJ g
        obtain ⟨n1, n2⟩ := nxt hj2
        rw [if_pos rfl, if_pos rfl, n1, n2]
        by_cases c : limM ≤ l'.length
        · rw [if_pos c]
          have cC := (hl1 l'.length (by omega)).mpr c
          refine ⟨l', j + 1, -1, zc', zm', ?_, rfl, by omega, hI'⟩
          obtain ⟨q, rfl⟩ : ∃ q, nC = q + 1 := ⟨nC - 1, by omega⟩
          rw [pj_lp4_s]
          unfold Puller_walk_29
          rw [if_neg (by rw [nI_leP (by decide) (by omega)]; omega), b1, if_pos (nI_le cC (by omega))]
        · rw [if_neg c]
          have cC : ¬ limC ≤ l'.length := fun q => c ((hl1 l'.length (by omega)).mp q)
          exact ih (j + 1) l' zc' zm' nC nM (by omega) (by omega) (by omega) (by omega) cC hI'
    obtain ⟨a1, ⟨b1, b2, b3⟩, c1, L, ⟨m1, m2, m3⟩, i1, ⟨kj, kc⟩, mm, oo, p, hp, hp8, hA, hK⟩ := id hI
    have hFc : pa_F W H b (zc.1 8) (zc.2 8) w := by rw [(a1 8 (by decide) (by decide)).1, (a1 8 (by decide) (by decide)).2]; exact hF
    have hFm := hA.1.1
    have hx : ∀ t, t < 64 → tb (zc.2 6 3) t = true → stit W H t = true := fun t ht q => by
      rw [i1 t ht, Bool.and_eq_true] at q
      exact hF.here t q.1
    have kk : ∀ s, s < 64 → zm.1 1 (10 + s) = nI (kdb (tb (zC.2 8 4)) (tb (zC.2 8 5)) s) := fun s hs => by
      have := hFm.2.2.2.1 s hs
      rw [hp8 4 (by decide), hp8 5 (by decide)] at this
      exact this
    have s64 : stA W (pl dir k0 j) < 64 := by omega
    have n10 : ¬ nI 1 = 0 := by decide
    have ij : nI j + nI 1 = nI (j + 1) := by rw [nI_add]
    have il : nI l.length + nI 1 = nI (l.length + 1) := by rw [nI_add]
    rw [pj_lp4_s, pj_lp6_s]
    generalize pj_lp4 Puller_walk_29 nC = sC at tail ⊢
    generalize pj_lp6 Md_pulls_33 nM = sM at tail ⊢
    unfold Puller_walk_29 Md_pulls_33
    rw [if_neg (by rw [nI_leP (by decide) (by omega)]; omega), b1, if_neg (by rw [nI_leP (by omega) (by omega)]; exact hlim), Fabric_stitchAt_eq hFc _ hk, pj_cS, Puller_undone_eq hF a1 (by omega) b1 hx _ s64, if_neg n10, Md_stitchAt_eq hFm.2.1.2.2.2.1 ⟨hF.1.1, hF.1.2.1⟩ _ (by omega), pj_cS, Md_isHeld_eq hFm.2.1.2.2.2.2.1 hFm.2.1.2.2.2.2.2 hF.1.2.2 L _ s64, pj_cS, ib0]
    cases hh : hl W H b (kdb (tb (zC.2 8 4)) (tb (zC.2 8 5))) (tb (zC.2 8 7)) (tb (zc.2 6 3)) (stA W (pl dir k0 j))
    · rw [if_neg Bool.false_ne_true, if_neg Bool.false_ne_true, m2, ij, pj_bI, pj_gIn (n := stA W (pl dir k0 j)) s64 (by decide), nI_clamp (n := stA W (pl dir k0 j)) (by omega)]
      have l9 : (pj_sI zm 0 27 (nI (j + 1))).1 9 (stA W (pl dir k0 j)) = b2i (tb (zc.2 6 3) (stA W (pl dir k0 j))) := L.1 _ s64
      rw [l9, ib1]
      cases hx3 : tb (zc.2 6 3) (stA W (pl dir k0 j))
      · rw [if_neg Bool.false_ne_true, if_neg Bool.false_ne_true, pj_cS, if_neg n10, pj_bI]
        exact tail l _ _ (hI.pass s64 es hx3)
      · obtain ⟨z2, u1, u2, u3⟩ := Md_goes_eq (W := W) (kd := kdb (tb (zC.2 8 4)) (tb (zC.2 8 5))) (he := tb (zc.2 6 3)) (ca := tb (zC.2 8 7)) (z := pj_sI zm 0 27 (nI (j + 1))) hFm.2.1.2.2.2.1 hF.1.2.1 kk (kdb_lt _ _) L _ s64 hx3
        obtain ⟨zm4, v1, v2⟩ := hI.go s64 es hx3 u2 u3
        have r26 : z2.1 0 26 = nI l.length := by rw [u2 0 (by decide) (by decide), ag_1, upd_ne (by decide)]; exact m1
        rw [if_pos rfl, if_pos rfl, pj_cS, if_neg n10, pj_bI, u1, pj_cS, r26, il, pj_bI, ib0]
        cases real
        · rw [if_neg Bool.false_ne_true] at v1
          rw [if_neg Bool.false_ne_true, ← v1]
          exact tail _ _ _ v2
        · rw [if_pos rfl] at v1
          rw [if_pos rfl, v1, pj_cS]
          exact tail _ _ _ v2
    · rw [if_pos rfl, if_pos rfl, pj_cS, if_pos (by decide)]
      exact ⟨l, j, _, _, _, rfl, rfl, by omega, hI.stop (nI (pl dir k0 j))⟩
end WALK3
