theorem pj_m1 (i : Nat) {w : Cond} (h : tables_1_1[i]? = some w) (g : goodWord w = true) : w ∈ pj_tbl := by
  have h := List.mem_of_getElem? h
  exact List.mem_filter.mpr ⟨List.mem_append_right _ (List.mem_append_left _ h), g⟩
theorem pj_m2 (i : Nat) {w : Cond} (h : tables_1_2[i]? = some w) (g : goodWord w = true) : w ∈ pj_tbl := by
  have h := List.mem_of_getElem? h
  exact List.mem_filter.mpr ⟨List.mem_append_right _ (List.mem_append_right _ (List.mem_append_left _ h)), g⟩
theorem pj_m3 (i : Nat) {w : Cond} (h : tables_1_3[i]? = some w) (g : goodWord w = true) : w ∈ pj_tbl := by
  have h := List.mem_of_getElem? h
  exact List.mem_filter.mpr ⟨List.mem_append_right _ (List.mem_append_right _ (List.mem_append_right _ (List.mem_append_left _ h))), g⟩
theorem pj_m4 (i : Nat) {w : Cond} (h : tables_1_4[i]? = some w) (g : goodWord w = true) : w ∈ pj_tbl := by
  have h := List.mem_of_getElem? h
  exact List.mem_filter.mpr ⟨List.mem_append_right _ (List.mem_append_right _ (List.mem_append_right _ (List.mem_append_right _ (List.mem_append_left _ h)))), g⟩
theorem pj_m5 (i : Nat) {w : Cond} (h : tables_1_5[i]? = some w) (g : goodWord w = true) : w ∈ pj_tbl := by
  have h := List.mem_of_getElem? h
  exact List.mem_filter.mpr ⟨List.mem_append_right _ (List.mem_append_right _ (List.mem_append_right _ (List.mem_append_right _ (List.mem_append_right _ (List.mem_append_left _ h))))), g⟩
theorem pj_m6 (i : Nat) {w : Cond} (h : tables_1_6[i]? = some w) (g : goodWord w = true) : w ∈ pj_tbl := by
  have h := List.mem_of_getElem? h
  exact List.mem_filter.mpr ⟨List.mem_append_right _ (List.mem_append_right _ (List.mem_append_right _ (List.mem_append_right _ (List.mem_append_right _ (List.mem_append_right _ (h)))))), g⟩
def pj_LC : List pj_Y := [.inl (10, [(2, 1), (2, 2), (2, 3), (2, 4), (2, 5), (2, 6), (2, 7), (0, 0)]), .inl (8, [(2, 8), (2, 9), (2, 10), (2, 11), (0, 0), (0, 0)]), .inl (8, [(2, 12), (2, 13), (2, 14), (2, 15), (0, 0), (0, 0)]), .inl (4, [(2, 16), (2, 17), (2, 18), (2, 19), (2, 20), (2, 21), (2, 22), (0, 0), (0, 0)]), .inl (7, [(2, 23), (0, 0)]), .inl (3, [(2, 24), (2, 25), (2, 26), (2, 27), (0, 0), (0, 0), (0, 0), (0, 0), (0, 0), (0, 0)]), .inl (5, [(2, 28), (0, 0), (0, 0), (1, 0), (1, 0)]), .inl (6, [(0, 0), (1, 0)]), .inl (1, [(0, 0), (0, 0), (0, 0), (1, 0), (1, 0), (1, 0), (1, 0), (1, 0), (1, 0), (1, 0)]), .inl (2, [(2, 29), (2, 30), (0, 0), (0, 0), (0, 0)]), .inl (0, [(2, 31), (2, 32), (2, 33), (0, 0)]), .inl (9, [(2, 34), (0, 0)]), .inl (1, [(0, 0), (0, 0), (0, 0), (1, 0), (1, 0), (1, 0), (1, 0), (1, 0), (1, 0), (1, 0)]), .inl (2, [(2, 35), (2, 36), (0, 0), (0, 0), (0, 0)]), .inl (0, [(2, 37), (2, 38), (2, 39), (0, 0)]), .inl (9, [(2, 40), (0, 0)]), .inr (8, 1), .inr (8, 1), .inr (8, 1), .inr (8, 0), .inr (8, 0), .inr (8, 0), .inr (8, 0), .inr (400, 2), .inr (401, 0), .inr (401, 0), .inr (401, 0), .inr (400, 0), .inr (36, 0), .inr (400, 0), .inr (64, 0), .inr (100, 0), .inr (100, 0), .inr (100, 0), .inr (20, 0), .inr (400, 0), .inr (64, 0), .inr (100, 0), .inr (100, 0), .inr (100, 0), .inr (20, 0)]
theorem LC0 {B : pj_B} (hB : B.2.2.2.1 = pj_LC) : B.2.2.2.1[0]? = some (.inl (10, [(2, 1), (2, 2), (2, 3), (2, 4), (2, 5), (2, 6), (2, 7), (0, 0)])) := by rw [hB]; rfl
theorem LC1 {B : pj_B} (hB : B.2.2.2.1 = pj_LC) : B.2.2.2.1[1]? = some (.inl (8, [(2, 8), (2, 9), (2, 10), (2, 11), (0, 0), (0, 0)])) := by rw [hB]; rfl
theorem LC2 {B : pj_B} (hB : B.2.2.2.1 = pj_LC) : B.2.2.2.1[2]? = some (.inl (8, [(2, 12), (2, 13), (2, 14), (2, 15), (0, 0), (0, 0)])) := by rw [hB]; rfl
theorem LC3 {B : pj_B} (hB : B.2.2.2.1 = pj_LC) : B.2.2.2.1[3]? = some (.inl (4, [(2, 16), (2, 17), (2, 18), (2, 19), (2, 20), (2, 21), (2, 22), (0, 0), (0, 0)])) := by rw [hB]; rfl
theorem LC4 {B : pj_B} (hB : B.2.2.2.1 = pj_LC) : B.2.2.2.1[4]? = some (.inl (7, [(2, 23), (0, 0)])) := by rw [hB]; rfl
theorem LC5 {B : pj_B} (hB : B.2.2.2.1 = pj_LC) : B.2.2.2.1[5]? = some (.inl (3, [(2, 24), (2, 25), (2, 26), (2, 27), (0, 0), (0, 0), (0, 0), (0, 0), (0, 0), (0, 0)])) := by rw [hB]; rfl
theorem LC6 {B : pj_B} (hB : B.2.2.2.1 = pj_LC) : B.2.2.2.1[6]? = some (.inl (5, [(2, 28), (0, 0), (0, 0), (1, 0), (1, 0)])) := by rw [hB]; rfl
theorem LC7 {B : pj_B} (hB : B.2.2.2.1 = pj_LC) : B.2.2.2.1[7]? = some (.inl (6, [(0, 0), (1, 0)])) := by rw [hB]; rfl
theorem LC8 {B : pj_B} (hB : B.2.2.2.1 = pj_LC) : B.2.2.2.1[8]? = some (.inl (1, [(0, 0), (0, 0), (0, 0), (1, 0), (1, 0), (1, 0), (1, 0), (1, 0), (1, 0), (1, 0)])) := by rw [hB]; rfl
theorem LC9 {B : pj_B} (hB : B.2.2.2.1 = pj_LC) : B.2.2.2.1[9]? = some (.inl (2, [(2, 29), (2, 30), (0, 0), (0, 0), (0, 0)])) := by rw [hB]; rfl
theorem LC10 {B : pj_B} (hB : B.2.2.2.1 = pj_LC) : B.2.2.2.1[10]? = some (.inl (0, [(2, 31), (2, 32), (2, 33), (0, 0)])) := by rw [hB]; rfl
theorem LC11 {B : pj_B} (hB : B.2.2.2.1 = pj_LC) : B.2.2.2.1[11]? = some (.inl (9, [(2, 34), (0, 0)])) := by rw [hB]; rfl
theorem LC12 {B : pj_B} (hB : B.2.2.2.1 = pj_LC) : B.2.2.2.1[12]? = some (.inl (1, [(0, 0), (0, 0), (0, 0), (1, 0), (1, 0), (1, 0), (1, 0), (1, 0), (1, 0), (1, 0)])) := by rw [hB]; rfl
theorem LC13 {B : pj_B} (hB : B.2.2.2.1 = pj_LC) : B.2.2.2.1[13]? = some (.inl (2, [(2, 35), (2, 36), (0, 0), (0, 0), (0, 0)])) := by rw [hB]; rfl
theorem LC14 {B : pj_B} (hB : B.2.2.2.1 = pj_LC) : B.2.2.2.1[14]? = some (.inl (0, [(2, 37), (2, 38), (2, 39), (0, 0)])) := by rw [hB]; rfl
theorem LC15 {B : pj_B} (hB : B.2.2.2.1 = pj_LC) : B.2.2.2.1[15]? = some (.inl (9, [(2, 40), (0, 0)])) := by rw [hB]; rfl
theorem LC16 {B : pj_B} (hB : B.2.2.2.1 = pj_LC) : B.2.2.2.1[16]? = some (.inr (8, 1)) := by rw [hB]; rfl
theorem LC17 {B : pj_B} (hB : B.2.2.2.1 = pj_LC) : B.2.2.2.1[17]? = some (.inr (8, 1)) := by rw [hB]; rfl
theorem LC18 {B : pj_B} (hB : B.2.2.2.1 = pj_LC) : B.2.2.2.1[18]? = some (.inr (8, 1)) := by rw [hB]; rfl
theorem LC19 {B : pj_B} (hB : B.2.2.2.1 = pj_LC) : B.2.2.2.1[19]? = some (.inr (8, 0)) := by rw [hB]; rfl
theorem LC20 {B : pj_B} (hB : B.2.2.2.1 = pj_LC) : B.2.2.2.1[20]? = some (.inr (8, 0)) := by rw [hB]; rfl
theorem LC21 {B : pj_B} (hB : B.2.2.2.1 = pj_LC) : B.2.2.2.1[21]? = some (.inr (8, 0)) := by rw [hB]; rfl
theorem LC22 {B : pj_B} (hB : B.2.2.2.1 = pj_LC) : B.2.2.2.1[22]? = some (.inr (8, 0)) := by rw [hB]; rfl
theorem LC23 {B : pj_B} (hB : B.2.2.2.1 = pj_LC) : B.2.2.2.1[23]? = some (.inr (400, 2)) := by rw [hB]; rfl
theorem LC24 {B : pj_B} (hB : B.2.2.2.1 = pj_LC) : B.2.2.2.1[24]? = some (.inr (401, 0)) := by rw [hB]; rfl
theorem LC25 {B : pj_B} (hB : B.2.2.2.1 = pj_LC) : B.2.2.2.1[25]? = some (.inr (401, 0)) := by rw [hB]; rfl
theorem LC26 {B : pj_B} (hB : B.2.2.2.1 = pj_LC) : B.2.2.2.1[26]? = some (.inr (401, 0)) := by rw [hB]; rfl
theorem LC27 {B : pj_B} (hB : B.2.2.2.1 = pj_LC) : B.2.2.2.1[27]? = some (.inr (400, 0)) := by rw [hB]; rfl
theorem LC28 {B : pj_B} (hB : B.2.2.2.1 = pj_LC) : B.2.2.2.1[28]? = some (.inr (36, 0)) := by rw [hB]; rfl
theorem LC29 {B : pj_B} (hB : B.2.2.2.1 = pj_LC) : B.2.2.2.1[29]? = some (.inr (400, 0)) := by rw [hB]; rfl
theorem LC30 {B : pj_B} (hB : B.2.2.2.1 = pj_LC) : B.2.2.2.1[30]? = some (.inr (64, 0)) := by rw [hB]; rfl
theorem LC31 {B : pj_B} (hB : B.2.2.2.1 = pj_LC) : B.2.2.2.1[31]? = some (.inr (100, 0)) := by rw [hB]; rfl
theorem LC32 {B : pj_B} (hB : B.2.2.2.1 = pj_LC) : B.2.2.2.1[32]? = some (.inr (100, 0)) := by rw [hB]; rfl
theorem LC33 {B : pj_B} (hB : B.2.2.2.1 = pj_LC) : B.2.2.2.1[33]? = some (.inr (100, 0)) := by rw [hB]; rfl
theorem LC34 {B : pj_B} (hB : B.2.2.2.1 = pj_LC) : B.2.2.2.1[34]? = some (.inr (20, 0)) := by rw [hB]; rfl
theorem LC35 {B : pj_B} (hB : B.2.2.2.1 = pj_LC) : B.2.2.2.1[35]? = some (.inr (400, 0)) := by rw [hB]; rfl
theorem LC36 {B : pj_B} (hB : B.2.2.2.1 = pj_LC) : B.2.2.2.1[36]? = some (.inr (64, 0)) := by rw [hB]; rfl
theorem LC37 {B : pj_B} (hB : B.2.2.2.1 = pj_LC) : B.2.2.2.1[37]? = some (.inr (100, 0)) := by rw [hB]; rfl
theorem LC38 {B : pj_B} (hB : B.2.2.2.1 = pj_LC) : B.2.2.2.1[38]? = some (.inr (100, 0)) := by rw [hB]; rfl
theorem LC39 {B : pj_B} (hB : B.2.2.2.1 = pj_LC) : B.2.2.2.1[39]? = some (.inr (100, 0)) := by rw [hB]; rfl
theorem LC40 {B : pj_B} (hB : B.2.2.2.1 = pj_LC) : B.2.2.2.1[40]? = some (.inr (20, 0)) := by rw [hB]; rfl
def pj_LM : List pj_Y := [.inl (11, [(2, 1), (2, 2), (2, 3), (0, 0), (0, 0), (2, 4), (2, 5), (2, 6), (2, 7), (2, 8), (0, 0), (0, 0), (0, 0), (0, 0), (0, 0), (0, 0), (0, 0), (0, 0), (0, 0), (0, 0), (0, 0), (0, 0), (2, 9), (2, 10), (2, 11), (2, 12), (0, 0), (0, 0), (0, 0), (2, 13), (2, 14), (2, 15), (0, 0)]), .inr (1554, 0), .inr (1554, 0), .inr (1568, 0), .inr (48, 0), .inr (820, 0), .inr (400, 0), .inr (420, 0), .inr (8, 0), .inr (64, 0), .inr (64, 0), .inr (64, 0), .inr (64, 0), .inr (64, 0), .inr (3, 0), .inr (3, 0)]
theorem LM0 {B : pj_B} (hB : B.2.2.2.1 = pj_LM) : B.2.2.2.1[0]? = some (.inl (11, [(2, 1), (2, 2), (2, 3), (0, 0), (0, 0), (2, 4), (2, 5), (2, 6), (2, 7), (2, 8), (0, 0), (0, 0), (0, 0), (0, 0), (0, 0), (0, 0), (0, 0), (0, 0), (0, 0), (0, 0), (0, 0), (0, 0), (2, 9), (2, 10), (2, 11), (2, 12), (0, 0), (0, 0), (0, 0), (2, 13), (2, 14), (2, 15), (0, 0)])) := by rw [hB]; rfl
theorem LM1 {B : pj_B} (hB : B.2.2.2.1 = pj_LM) : B.2.2.2.1[1]? = some (.inr (1554, 0)) := by rw [hB]; rfl
theorem LM2 {B : pj_B} (hB : B.2.2.2.1 = pj_LM) : B.2.2.2.1[2]? = some (.inr (1554, 0)) := by rw [hB]; rfl
theorem LM3 {B : pj_B} (hB : B.2.2.2.1 = pj_LM) : B.2.2.2.1[3]? = some (.inr (1568, 0)) := by rw [hB]; rfl
theorem LM4 {B : pj_B} (hB : B.2.2.2.1 = pj_LM) : B.2.2.2.1[4]? = some (.inr (48, 0)) := by rw [hB]; rfl
theorem LM5 {B : pj_B} (hB : B.2.2.2.1 = pj_LM) : B.2.2.2.1[5]? = some (.inr (820, 0)) := by rw [hB]; rfl
theorem LM6 {B : pj_B} (hB : B.2.2.2.1 = pj_LM) : B.2.2.2.1[6]? = some (.inr (400, 0)) := by rw [hB]; rfl
theorem LM7 {B : pj_B} (hB : B.2.2.2.1 = pj_LM) : B.2.2.2.1[7]? = some (.inr (420, 0)) := by rw [hB]; rfl
theorem LM8 {B : pj_B} (hB : B.2.2.2.1 = pj_LM) : B.2.2.2.1[8]? = some (.inr (8, 0)) := by rw [hB]; rfl
theorem LM9 {B : pj_B} (hB : B.2.2.2.1 = pj_LM) : B.2.2.2.1[9]? = some (.inr (64, 0)) := by rw [hB]; rfl
theorem LM10 {B : pj_B} (hB : B.2.2.2.1 = pj_LM) : B.2.2.2.1[10]? = some (.inr (64, 0)) := by rw [hB]; rfl
theorem LM11 {B : pj_B} (hB : B.2.2.2.1 = pj_LM) : B.2.2.2.1[11]? = some (.inr (64, 0)) := by rw [hB]; rfl
theorem LM12 {B : pj_B} (hB : B.2.2.2.1 = pj_LM) : B.2.2.2.1[12]? = some (.inr (64, 0)) := by rw [hB]; rfl
theorem LM13 {B : pj_B} (hB : B.2.2.2.1 = pj_LM) : B.2.2.2.1[13]? = some (.inr (64, 0)) := by rw [hB]; rfl
theorem LM14 {B : pj_B} (hB : B.2.2.2.1 = pj_LM) : B.2.2.2.1[14]? = some (.inr (3, 0)) := by rw [hB]; rfl
theorem LM15 {B : pj_B} (hB : B.2.2.2.1 = pj_LM) : B.2.2.2.1[15]? = some (.inr (3, 0)) := by rw [hB]; rfl
theorem pj_lp0_0 {ρ : Type} {F : (pj_S → Option ρ) → pj_S → Option ρ}  {z : pj_S} : pj_lp0 F 0  z = none := rfl
theorem pj_lp0_s {ρ : Type} {F : (pj_S → Option ρ) → pj_S → Option ρ} {n : Nat}  {z : pj_S} : pj_lp0 F (n + 1)  z = F (pj_lp0 F n)  z := rfl
theorem pj_lp1_0 {α0 ρ : Type} {F : (α0 → pj_S → Option ρ) → α0 → pj_S → Option ρ} {a0 : α0} {z : pj_S} : pj_lp1 F 0 a0 z = none := rfl
theorem pj_lp1_s {α0 ρ : Type} {F : (α0 → pj_S → Option ρ) → α0 → pj_S → Option ρ} {n : Nat} {a0 : α0} {z : pj_S} : pj_lp1 F (n + 1) a0 z = F (pj_lp1 F n) a0 z := rfl
theorem pj_lp2_0 {α0 α1 ρ : Type} {F : (α0 → α1 → pj_S → Option ρ) → α0 → α1 → pj_S → Option ρ} {a0 : α0} {a1 : α1} {z : pj_S} : pj_lp2 F 0 a0 a1 z = none := rfl
theorem pj_lp2_s {α0 α1 ρ : Type} {F : (α0 → α1 → pj_S → Option ρ) → α0 → α1 → pj_S → Option ρ} {n : Nat} {a0 : α0} {a1 : α1} {z : pj_S} : pj_lp2 F (n + 1) a0 a1 z = F (pj_lp2 F n) a0 a1 z := rfl
theorem pj_lp3_0 {α0 α1 α2 ρ : Type} {F : (α0 → α1 → α2 → pj_S → Option ρ) → α0 → α1 → α2 → pj_S → Option ρ} {a0 : α0} {a1 : α1} {a2 : α2} {z : pj_S} : pj_lp3 F 0 a0 a1 a2 z = none := rfl
theorem pj_lp3_s {α0 α1 α2 ρ : Type} {F : (α0 → α1 → α2 → pj_S → Option ρ) → α0 → α1 → α2 → pj_S → Option ρ} {n : Nat} {a0 : α0} {a1 : α1} {a2 : α2} {z : pj_S} : pj_lp3 F (n + 1) a0 a1 a2 z = F (pj_lp3 F n) a0 a1 a2 z := rfl
theorem pj_lp4_0 {α0 α1 α2 α3 ρ : Type} {F : (α0 → α1 → α2 → α3 → pj_S → Option ρ) → α0 → α1 → α2 → α3 → pj_S → Option ρ} {a0 : α0} {a1 : α1} {a2 : α2} {a3 : α3} {z : pj_S} : pj_lp4 F 0 a0 a1 a2 a3 z = none := rfl
theorem pj_lp4_s {α0 α1 α2 α3 ρ : Type} {F : (α0 → α1 → α2 → α3 → pj_S → Option ρ) → α0 → α1 → α2 → α3 → pj_S → Option ρ} {n : Nat} {a0 : α0} {a1 : α1} {a2 : α2} {a3 : α3} {z : pj_S} : pj_lp4 F (n + 1) a0 a1 a2 a3 z = F (pj_lp4 F n) a0 a1 a2 a3 z := rfl
theorem pj_lp5_0 {α0 α1 α2 α3 α4 ρ : Type} {F : (α0 → α1 → α2 → α3 → α4 → pj_S → Option ρ) → α0 → α1 → α2 → α3 → α4 → pj_S → Option ρ} {a0 : α0} {a1 : α1} {a2 : α2} {a3 : α3} {a4 : α4} {z : pj_S} : pj_lp5 F 0 a0 a1 a2 a3 a4 z = none := rfl
theorem pj_lp5_s {α0 α1 α2 α3 α4 ρ : Type} {F : (α0 → α1 → α2 → α3 → α4 → pj_S → Option ρ) → α0 → α1 → α2 → α3 → α4 → pj_S → Option ρ} {n : Nat} {a0 : α0} {a1 : α1} {a2 : α2} {a3 : α3} {a4 : α4} {z : pj_S} : pj_lp5 F (n + 1) a0 a1 a2 a3 a4 z = F (pj_lp5 F n) a0 a1 a2 a3 a4 z := rfl
theorem pj_lp6_0 {α0 α1 α2 α3 α4 α5 ρ : Type} {F : (α0 → α1 → α2 → α3 → α4 → α5 → pj_S → Option ρ) → α0 → α1 → α2 → α3 → α4 → α5 → pj_S → Option ρ} {a0 : α0} {a1 : α1} {a2 : α2} {a3 : α3} {a4 : α4} {a5 : α5} {z : pj_S} : pj_lp6 F 0 a0 a1 a2 a3 a4 a5 z = none := rfl
theorem pj_lp6_s {α0 α1 α2 α3 α4 α5 ρ : Type} {F : (α0 → α1 → α2 → α3 → α4 → α5 → pj_S → Option ρ) → α0 → α1 → α2 → α3 → α4 → α5 → pj_S → Option ρ} {n : Nat} {a0 : α0} {a1 : α1} {a2 : α2} {a3 : α3} {a4 : α4} {a5 : α5} {z : pj_S} : pj_lp6 F (n + 1) a0 a1 a2 a3 a4 a5 z = F (pj_lp6 F n) a0 a1 a2 a3 a4 a5 z := rfl
theorem pj_lp7_0 {α0 α1 α2 α3 α4 α5 α6 ρ : Type} {F : (α0 → α1 → α2 → α3 → α4 → α5 → α6 → pj_S → Option ρ) → α0 → α1 → α2 → α3 → α4 → α5 → α6 → pj_S → Option ρ} {a0 : α0} {a1 : α1} {a2 : α2} {a3 : α3} {a4 : α4} {a5 : α5} {a6 : α6} {z : pj_S} : pj_lp7 F 0 a0 a1 a2 a3 a4 a5 a6 z = none := rfl
theorem pj_lp7_s {α0 α1 α2 α3 α4 α5 α6 ρ : Type} {F : (α0 → α1 → α2 → α3 → α4 → α5 → α6 → pj_S → Option ρ) → α0 → α1 → α2 → α3 → α4 → α5 → α6 → pj_S → Option ρ} {n : Nat} {a0 : α0} {a1 : α1} {a2 : α2} {a3 : α3} {a4 : α4} {a5 : α5} {a6 : α6} {z : pj_S} : pj_lp7 F (n + 1) a0 a1 a2 a3 a4 a5 a6 z = F (pj_lp7 F n) a0 a1 a2 a3 a4 a5 a6 z := rfl
theorem pj_lp8_0 {α0 α1 α2 α3 α4 α5 α6 α7 ρ : Type} {F : (α0 → α1 → α2 → α3 → α4 → α5 → α6 → α7 → pj_S → Option ρ) → α0 → α1 → α2 → α3 → α4 → α5 → α6 → α7 → pj_S → Option ρ} {a0 : α0} {a1 : α1} {a2 : α2} {a3 : α3} {a4 : α4} {a5 : α5} {a6 : α6} {a7 : α7} {z : pj_S} : pj_lp8 F 0 a0 a1 a2 a3 a4 a5 a6 a7 z = none := rfl
theorem pj_lp8_s {α0 α1 α2 α3 α4 α5 α6 α7 ρ : Type} {F : (α0 → α1 → α2 → α3 → α4 → α5 → α6 → α7 → pj_S → Option ρ) → α0 → α1 → α2 → α3 → α4 → α5 → α6 → α7 → pj_S → Option ρ} {n : Nat} {a0 : α0} {a1 : α1} {a2 : α2} {a3 : α3} {a4 : α4} {a5 : α5} {a6 : α6} {a7 : α7} {z : pj_S} : pj_lp8 F (n + 1) a0 a1 a2 a3 a4 a5 a6 a7 z = F (pj_lp8 F n) a0 a1 a2 a3 a4 a5 a6 a7 z := rfl
theorem pj_lp9_0 {α0 α1 α2 α3 α4 α5 α6 α7 α8 ρ : Type} {F : (α0 → α1 → α2 → α3 → α4 → α5 → α6 → α7 → α8 → pj_S → Option ρ) → α0 → α1 → α2 → α3 → α4 → α5 → α6 → α7 → α8 → pj_S → Option ρ} {a0 : α0} {a1 : α1} {a2 : α2} {a3 : α3} {a4 : α4} {a5 : α5} {a6 : α6} {a7 : α7} {a8 : α8} {z : pj_S} : pj_lp9 F 0 a0 a1 a2 a3 a4 a5 a6 a7 a8 z = none := rfl
theorem pj_lp9_s {α0 α1 α2 α3 α4 α5 α6 α7 α8 ρ : Type} {F : (α0 → α1 → α2 → α3 → α4 → α5 → α6 → α7 → α8 → pj_S → Option ρ) → α0 → α1 → α2 → α3 → α4 → α5 → α6 → α7 → α8 → pj_S → Option ρ} {n : Nat} {a0 : α0} {a1 : α1} {a2 : α2} {a3 : α3} {a4 : α4} {a5 : α5} {a6 : α6} {a7 : α7} {a8 : α8} {z : pj_S} : pj_lp9 F (n + 1) a0 a1 a2 a3 a4 a5 a6 a7 a8 z = F (pj_lp9 F n) a0 a1 a2 a3 a4 a5 a6 a7 a8 z := rfl
theorem pj_lp10_0 {α0 α1 α2 α3 α4 α5 α6 α7 α8 α9 ρ : Type} {F : (α0 → α1 → α2 → α3 → α4 → α5 → α6 → α7 → α8 → α9 → pj_S → Option ρ) → α0 → α1 → α2 → α3 → α4 → α5 → α6 → α7 → α8 → α9 → pj_S → Option ρ} {a0 : α0} {a1 : α1} {a2 : α2} {a3 : α3} {a4 : α4} {a5 : α5} {a6 : α6} {a7 : α7} {a8 : α8} {a9 : α9} {z : pj_S} : pj_lp10 F 0 a0 a1 a2 a3 a4 a5 a6 a7 a8 a9 z = none := rfl
theorem pj_lp10_s {α0 α1 α2 α3 α4 α5 α6 α7 α8 α9 ρ : Type} {F : (α0 → α1 → α2 → α3 → α4 → α5 → α6 → α7 → α8 → α9 → pj_S → Option ρ) → α0 → α1 → α2 → α3 → α4 → α5 → α6 → α7 → α8 → α9 → pj_S → Option ρ} {n : Nat} {a0 : α0} {a1 : α1} {a2 : α2} {a3 : α3} {a4 : α4} {a5 : α5} {a6 : α6} {a7 : α7} {a8 : α8} {a9 : α9} {z : pj_S} : pj_lp10 F (n + 1) a0 a1 a2 a3 a4 a5 a6 a7 a8 a9 z = F (pj_lp10 F n) a0 a1 a2 a3 a4 a5 a6 a7 a8 a9 z := rfl
theorem pj_lp11_0 {α0 α1 α2 α3 α4 α5 α6 α7 α8 α9 α10 ρ : Type} {F : (α0 → α1 → α2 → α3 → α4 → α5 → α6 → α7 → α8 → α9 → α10 → pj_S → Option ρ) → α0 → α1 → α2 → α3 → α4 → α5 → α6 → α7 → α8 → α9 → α10 → pj_S → Option ρ} {a0 : α0} {a1 : α1} {a2 : α2} {a3 : α3} {a4 : α4} {a5 : α5} {a6 : α6} {a7 : α7} {a8 : α8} {a9 : α9} {a10 : α10} {z : pj_S} : pj_lp11 F 0 a0 a1 a2 a3 a4 a5 a6 a7 a8 a9 a10 z = none := rfl
theorem pj_lp11_s {α0 α1 α2 α3 α4 α5 α6 α7 α8 α9 α10 ρ : Type} {F : (α0 → α1 → α2 → α3 → α4 → α5 → α6 → α7 → α8 → α9 → α10 → pj_S → Option ρ) → α0 → α1 → α2 → α3 → α4 → α5 → α6 → α7 → α8 → α9 → α10 → pj_S → Option ρ} {n : Nat} {a0 : α0} {a1 : α1} {a2 : α2} {a3 : α3} {a4 : α4} {a5 : α5} {a6 : α6} {a7 : α7} {a8 : α8} {a9 : α9} {a10 : α10} {z : pj_S} : pj_lp11 F (n + 1) a0 a1 a2 a3 a4 a5 a6 a7 a8 a9 a10 z = F (pj_lp11 F n) a0 a1 a2 a3 a4 a5 a6 a7 a8 a9 a10 z := rfl
theorem pj_lp12_0 {α0 α1 α2 α3 α4 α5 α6 α7 α8 α9 α10 α11 ρ : Type} {F : (α0 → α1 → α2 → α3 → α4 → α5 → α6 → α7 → α8 → α9 → α10 → α11 → pj_S → Option ρ) → α0 → α1 → α2 → α3 → α4 → α5 → α6 → α7 → α8 → α9 → α10 → α11 → pj_S → Option ρ} {a0 : α0} {a1 : α1} {a2 : α2} {a3 : α3} {a4 : α4} {a5 : α5} {a6 : α6} {a7 : α7} {a8 : α8} {a9 : α9} {a10 : α10} {a11 : α11} {z : pj_S} : pj_lp12 F 0 a0 a1 a2 a3 a4 a5 a6 a7 a8 a9 a10 a11 z = none := rfl
theorem pj_lp12_s {α0 α1 α2 α3 α4 α5 α6 α7 α8 α9 α10 α11 ρ : Type} {F : (α0 → α1 → α2 → α3 → α4 → α5 → α6 → α7 → α8 → α9 → α10 → α11 → pj_S → Option ρ) → α0 → α1 → α2 → α3 → α4 → α5 → α6 → α7 → α8 → α9 → α10 → α11 → pj_S → Option ρ} {n : Nat} {a0 : α0} {a1 : α1} {a2 : α2} {a3 : α3} {a4 : α4} {a5 : α5} {a6 : α6} {a7 : α7} {a8 : α8} {a9 : α9} {a10 : α10} {a11 : α11} {z : pj_S} : pj_lp12 F (n + 1) a0 a1 a2 a3 a4 a5 a6 a7 a8 a9 a10 a11 z = F (pj_lp12 F n) a0 a1 a2 a3 a4 a5 a6 a7 a8 a9 a10 a11 z := rfl
theorem jf_9 : Cond.fieldLink RJ0 9 "java/lang/String" "value" "[B" ∈ pj_tbl := (pj_m6 137 rfl rfl)
theorem jf_15 : Cond.fieldLink RJ0 15 "java/lang/String" "coder" "B" ∈ pj_tbl := (pj_m6 138 rfl rfl)
theorem jf_38 : Cond.fieldLink RJ0 38 "java/lang/String" "COMPACT_STRINGS" "Z" ∈ pj_tbl := (pj_m3 147 rfl rfl)
theorem jf_1053 : Cond.fieldLink RJ0 1053 "jdk/internal/util/Preconditions" "SIOOBE_FORMATTER" "Ljava/util/function/BiFunction;" ∈ pj_tbl := (pj_m3 163 rfl rfl)
theorem tinX0 : ∀ w ∈ u_ws RX0 TX0 4, w ∈ pj_tbl := fun w h => List.mem_filter.mpr ⟨inX0 w h, (by decide +kernel : ∀ w ∈ wsX00, goodWord w = true) w h⟩
theorem ttyX0 : ∀ k, k < 4 → (parseFieldDescriptor (TX0 k).2.2.1).isSome = true := by decide +kernel
theorem tinX1 : ∀ w ∈ u_ws RX1 TX1 10, w ∈ pj_tbl := fun w h => List.mem_filter.mpr ⟨inX1 w h, (by decide +kernel : ∀ w ∈ wsX10, goodWord w = true) w h⟩
theorem ttyX1 : ∀ k, k < 10 → (parseFieldDescriptor (TX1 k).2.2.1).isSome = true := by decide +kernel
theorem tinX10 : ∀ w ∈ u_ws RX10 TX10 8, w ∈ pj_tbl := fun w h => List.mem_filter.mpr ⟨inX10 w h, (by decide +kernel : ∀ w ∈ wsX100, goodWord w = true) w h⟩
theorem ttyX10 : ∀ k, k < 8 → (parseFieldDescriptor (TX10 k).2.2.1).isSome = true := by decide +kernel
theorem tinX11 : ∀ w ∈ u_ws RX11 TX11 33, w ∈ pj_tbl := fun w h => List.mem_filter.mpr ⟨inX11 w h, (by decide +kernel : ∀ w ∈ wsX110, goodWord w = true) w h⟩
theorem ttyX11 : ∀ k, k < 33 → (parseFieldDescriptor (TX11 k).2.2.1).isSome = true := by decide +kernel
theorem tinX2 : ∀ w ∈ u_ws RX2 TX2 5, w ∈ pj_tbl := fun w h => List.mem_filter.mpr ⟨inX2 w h, (by decide +kernel : ∀ w ∈ wsX20, goodWord w = true) w h⟩
theorem ttyX2 : ∀ k, k < 5 → (parseFieldDescriptor (TX2 k).2.2.1).isSome = true := by decide +kernel
theorem tinX3 : ∀ w ∈ u_ws RX3 TX3 10, w ∈ pj_tbl := fun w h => List.mem_filter.mpr ⟨inX3 w h, (by decide +kernel : ∀ w ∈ wsX30, goodWord w = true) w h⟩
theorem ttyX3 : ∀ k, k < 10 → (parseFieldDescriptor (TX3 k).2.2.1).isSome = true := by decide +kernel
theorem tinX4 : ∀ w ∈ u_ws RX4 TX4 9, w ∈ pj_tbl := fun w h => List.mem_filter.mpr ⟨inX4 w h, (by decide +kernel : ∀ w ∈ wsX40, goodWord w = true) w h⟩
theorem ttyX4 : ∀ k, k < 9 → (parseFieldDescriptor (TX4 k).2.2.1).isSome = true := by decide +kernel
theorem tinX5 : ∀ w ∈ u_ws RX5 TX5 5, w ∈ pj_tbl := fun w h => List.mem_filter.mpr ⟨inX5 w h, (by decide +kernel : ∀ w ∈ wsX50, goodWord w = true) w h⟩
theorem ttyX5 : ∀ k, k < 5 → (parseFieldDescriptor (TX5 k).2.2.1).isSome = true := by decide +kernel
theorem tinX6 : ∀ w ∈ u_ws RX6 TX6 2, w ∈ pj_tbl := fun w h => List.mem_filter.mpr ⟨inX6 w h, (by decide +kernel : ∀ w ∈ wsX60, goodWord w = true) w h⟩
theorem ttyX6 : ∀ k, k < 2 → (parseFieldDescriptor (TX6 k).2.2.1).isSome = true := by decide +kernel
theorem tinX7 : ∀ w ∈ u_ws RX7 TX7 2, w ∈ pj_tbl := fun w h => List.mem_filter.mpr ⟨inX7 w h, (by decide +kernel : ∀ w ∈ wsX70, goodWord w = true) w h⟩
theorem ttyX7 : ∀ k, k < 2 → (parseFieldDescriptor (TX7 k).2.2.1).isSome = true := by decide +kernel
theorem tinX8 : ∀ w ∈ u_ws RX8 TX8 6, w ∈ pj_tbl := fun w h => List.mem_filter.mpr ⟨inX8 w h, (by decide +kernel : ∀ w ∈ wsX80, goodWord w = true) w h⟩
theorem ttyX8 : ∀ k, k < 6 → (parseFieldDescriptor (TX8 k).2.2.1).isSome = true := by decide +kernel
theorem tinX9 : ∀ w ∈ u_ws RX9 TX9 2, w ∈ pj_tbl := fun w h => List.mem_filter.mpr ⟨inX9 w h, (by decide +kernel : ∀ w ∈ wsX90, goodWord w = true) w h⟩
theorem ttyX9 : ∀ k, k < 2 → (parseFieldDescriptor (TX9 k).2.2.1).isSome = true := by decide +kernel
theorem fl_PJ_10 : pj_fl RX10 10 10 0 RX10 TX10 8 := ⟨rfl, by decide, rfl, (pj_m2 89 rfl rfl), tinX10, ttyX10, nmX10⟩
theorem fl_PJ_16 : pj_fl RX10 16 10 1 RX10 TX10 8 := ⟨rfl, by decide, rfl, (pj_m2 90 rfl rfl), tinX10, ttyX10, nmX10⟩
theorem fl_PJ_22 : pj_fl RX10 22 10 2 RX10 TX10 8 := ⟨rfl, by decide, rfl, (pj_m2 91 rfl rfl), tinX10, ttyX10, nmX10⟩
theorem fl_PJ_29 : pj_fl RX10 29 10 3 RX10 TX10 8 := ⟨rfl, by decide, rfl, (pj_m2 92 rfl rfl), tinX10, ttyX10, nmX10⟩
theorem fl_PJ_36 : pj_fl RX10 36 10 4 RX10 TX10 8 := ⟨rfl, by decide, rfl, (pj_m2 93 rfl rfl), tinX10, ttyX10, nmX10⟩
theorem fl_PJ_43 : pj_fl RX10 43 10 5 RX10 TX10 8 := ⟨rfl, by decide, rfl, (pj_m2 94 rfl rfl), tinX10, ttyX10, nmX10⟩
theorem fl_PJ_50 : pj_fl RX10 50 10 6 RX10 TX10 8 := ⟨rfl, by decide, rfl, (pj_m2 95 rfl rfl), tinX10, ttyX10, nmX10⟩
theorem fl_PJ_58 : pj_fl RX10 58 8 5 RX8 TX8 6 := ⟨rfl, by decide, rfl, (pj_m1 165 rfl rfl), tinX8, ttyX8, nmX8⟩
theorem fl_PJ_65 : pj_fl RX10 65 8 0 RX8 TX8 6 := ⟨rfl, by decide, rfl, (pj_m1 153 rfl rfl), tinX8, ttyX8, nmX8⟩
theorem fl_PJ_92 : pj_fl RX10 92 1 9 RX1 TX1 10 := ⟨rfl, by decide, rfl, (pj_m1 64 rfl rfl), tinX1, ttyX1, nmX1⟩
theorem fl_PJ_108 : pj_fl RX10 108 5 1 RX5 TX5 5 := ⟨rfl, by decide, rfl, (pj_m2 41 rfl rfl), tinX5, ttyX5, nmX5⟩
theorem fl_PJ_111 : pj_fl RX10 111 8 4 RX8 TX8 6 := ⟨rfl, by decide, rfl, (pj_m1 164 rfl rfl), tinX8, ttyX8, nmX8⟩
theorem fl_PJ_126 : pj_fl RX10 126 7 1 RX7 TX7 2 := ⟨rfl, by decide, rfl, (pj_m1 225 rfl rfl), tinX7, ttyX7, nmX7⟩
theorem fl_PJ_129 : pj_fl RX10 129 8 1 RX8 TX8 6 := ⟨rfl, by decide, rfl, (pj_m1 155 rfl rfl), tinX8, ttyX8, nmX8⟩
theorem fl_PJ_137 : pj_fl RX10 137 2 3 RX2 TX2 5 := ⟨rfl, by decide, rfl, (pj_m1 99 rfl rfl), tinX2, ttyX2, nmX2⟩
theorem fl_PJ_142 : pj_fl RX10 142 3 8 RX3 TX3 10 := ⟨rfl, by decide, rfl, (pj_m2 7 rfl rfl), tinX3, ttyX3, nmX3⟩
theorem fl_PJ_145 : pj_fl RX10 145 3 9 RX3 TX3 10 := ⟨rfl, by decide, rfl, (pj_m2 9 rfl rfl), tinX3, ttyX3, nmX3⟩
theorem fl_PJ_155 : pj_fl RX10 155 1 6 RX1 TX1 10 := ⟨rfl, by decide, rfl, (pj_m1 54 rfl rfl), tinX1, ttyX1, nmX1⟩
theorem fl_PJ_162 : pj_fl RX10 162 1 7 RX1 TX1 10 := ⟨rfl, by decide, rfl, (pj_m1 58 rfl rfl), tinX1, ttyX1, nmX1⟩
theorem fl_PJ_180 : pj_fl RX10 180 1 8 RX1 TX1 10 := ⟨rfl, by decide, rfl, (pj_m1 61 rfl rfl), tinX1, ttyX1, nmX1⟩
theorem fl_PJ_189 : pj_fl RX10 189 8 3 RX8 TX8 6 := ⟨rfl, by decide, rfl, (pj_m1 161 rfl rfl), tinX8, ttyX8, nmX8⟩
theorem fl_PJ_198 : pj_fl RX10 198 8 2 RX8 TX8 6 := ⟨rfl, by decide, rfl, (pj_m1 158 rfl rfl), tinX8, ttyX8, nmX8⟩
theorem fl_PJ_225 : pj_fl RX10 225 6 0 RX6 TX6 2 := ⟨rfl, by decide, rfl, (pj_m2 66 rfl rfl), tinX6, ttyX6, nmX6⟩
theorem fl_PJ_228 : pj_fl RX10 228 6 1 RX6 TX6 2 := ⟨rfl, by decide, rfl, (pj_m2 68 rfl rfl), tinX6, ttyX6, nmX6⟩
theorem fl_PJ_231 : pj_fl RX10 231 5 2 RX5 TX5 5 := ⟨rfl, by decide, rfl, (pj_m2 43 rfl rfl), tinX5, ttyX5, nmX5⟩
theorem fl_PJ_237 : pj_fl RX10 237 1 0 RX1 TX1 10 := ⟨rfl, by decide, rfl, (pj_m1 41 rfl rfl), tinX1, ttyX1, nmX1⟩
theorem fl_PJ_240 : pj_fl RX10 240 1 1 RX1 TX1 10 := ⟨rfl, by decide, rfl, (pj_m1 43 rfl rfl), tinX1, ttyX1, nmX1⟩
theorem fl_PJ_266 : pj_fl RX10 266 10 7 RX10 TX10 8 := ⟨rfl, by decide, rfl, (pj_m2 96 rfl rfl), tinX10, ttyX10, nmX10⟩
theorem fl_PJ_270 : pj_fl RX10 270 1 2 RX1 TX1 10 := ⟨rfl, by decide, rfl, (pj_m1 45 rfl rfl), tinX1, ttyX1, nmX1⟩
theorem fl_PJ_273 : pj_fl RX10 273 9 1 RX9 TX9 2 := ⟨rfl, by decide, rfl, (pj_m1 145 rfl rfl), tinX9, ttyX9, nmX9⟩
theorem fl_PJ_274 : pj_fl RX10 274 0 3 RX0 TX0 4 := ⟨rfl, by decide, rfl, (pj_m1 125 rfl rfl), tinX0, ttyX0, nmX0⟩
theorem fl_PJ_275 : pj_fl RX10 275 4 7 RX4 TX4 9 := ⟨rfl, by decide, rfl, (pj_m1 195 rfl rfl), tinX4, ttyX4, nmX4⟩
theorem fl_PJ_288 : pj_fl RX10 288 5 3 RX5 TX5 5 := ⟨rfl, by decide, rfl, (pj_m2 45 rfl rfl), tinX5, ttyX5, nmX5⟩
theorem fl_Book_9 : pj_fl RX0 9 0 0 RX0 TX0 4 := ⟨rfl, by decide, rfl, (pj_m1 119 rfl rfl), tinX0, ttyX0, nmX0⟩
theorem fl_Book_15 : pj_fl RX0 15 0 1 RX0 TX0 4 := ⟨rfl, by decide, rfl, (pj_m1 120 rfl rfl), tinX0, ttyX0, nmX0⟩
theorem fl_Book_18 : pj_fl RX0 18 0 2 RX0 TX0 4 := ⟨rfl, by decide, rfl, (pj_m1 121 rfl rfl), tinX0, ttyX0, nmX0⟩
theorem fl_Book_27 : pj_fl RX0 27 0 3 RX0 TX0 4 := ⟨rfl, by decide, rfl, (pj_m1 123 rfl rfl), tinX0, ttyX0, nmX0⟩
theorem fl_Fabric_9 : pj_fl RX1 9 1 0 RX1 TX1 10 := ⟨rfl, by decide, rfl, (pj_m1 40 rfl rfl), tinX1, ttyX1, nmX1⟩
theorem fl_Fabric_15 : pj_fl RX1 15 1 1 RX1 TX1 10 := ⟨rfl, by decide, rfl, (pj_m1 42 rfl rfl), tinX1, ttyX1, nmX1⟩
theorem fl_Fabric_18 : pj_fl RX1 18 1 2 RX1 TX1 10 := ⟨rfl, by decide, rfl, (pj_m1 44 rfl rfl), tinX1, ttyX1, nmX1⟩
theorem fl_Fabric_26 : pj_fl RX1 26 1 3 RX1 TX1 10 := ⟨rfl, by decide, rfl, (pj_m1 46 rfl rfl), tinX1, ttyX1, nmX1⟩
theorem fl_Fabric_30 : pj_fl RX1 30 1 4 RX1 TX1 10 := ⟨rfl, by decide, rfl, (pj_m1 47 rfl rfl), tinX1, ttyX1, nmX1⟩
theorem fl_Fabric_33 : pj_fl RX1 33 1 5 RX1 TX1 10 := ⟨rfl, by decide, rfl, (pj_m1 48 rfl rfl), tinX1, ttyX1, nmX1⟩
theorem fl_Fabric_36 : pj_fl RX1 36 1 6 RX1 TX1 10 := ⟨rfl, by decide, rfl, (pj_m1 51 rfl rfl), tinX1, ttyX1, nmX1⟩
theorem fl_Fabric_39 : pj_fl RX1 39 1 7 RX1 TX1 10 := ⟨rfl, by decide, rfl, (pj_m1 56 rfl rfl), tinX1, ttyX1, nmX1⟩
theorem fl_Fabric_42 : pj_fl RX1 42 1 8 RX1 TX1 10 := ⟨rfl, by decide, rfl, (pj_m1 59 rfl rfl), tinX1, ttyX1, nmX1⟩
theorem fl_Fabric_45 : pj_fl RX1 45 1 9 RX1 TX1 10 := ⟨rfl, by decide, rfl, (pj_m1 62 rfl rfl), tinX1, ttyX1, nmX1⟩
theorem fl_Law_9 : pj_fl RX2 9 2 0 RX2 TX2 5 := ⟨rfl, by decide, rfl, (pj_m1 92 rfl rfl), tinX2, ttyX2, nmX2⟩
theorem fl_Law_15 : pj_fl RX2 15 2 1 RX2 TX2 5 := ⟨rfl, by decide, rfl, (pj_m1 94 rfl rfl), tinX2, ttyX2, nmX2⟩
theorem fl_Law_18 : pj_fl RX2 18 2 2 RX2 TX2 5 := ⟨rfl, by decide, rfl, (pj_m1 95 rfl rfl), tinX2, ttyX2, nmX2⟩
theorem fl_Law_22 : pj_fl RX2 22 2 3 RX2 TX2 5 := ⟨rfl, by decide, rfl, (pj_m1 97 rfl rfl), tinX2, ttyX2, nmX2⟩
theorem fl_Law_40 : pj_fl RX2 40 2 4 RX2 TX2 5 := ⟨rfl, by decide, rfl, (pj_m1 100 rfl rfl), tinX2, ttyX2, nmX2⟩
theorem fl_Reader_9 : pj_fl RX3 9 3 0 RX3 TX3 10 := ⟨rfl, by decide, rfl, (pj_m1 238 rfl rfl), tinX3, ttyX3, nmX3⟩
theorem fl_Reader_15 : pj_fl RX3 15 3 1 RX3 TX3 10 := ⟨rfl, by decide, rfl, (pj_m1 239 rfl rfl), tinX3, ttyX3, nmX3⟩
theorem fl_Reader_18 : pj_fl RX3 18 3 2 RX3 TX3 10 := ⟨rfl, by decide, rfl, (pj_m2 0 rfl rfl), tinX3, ttyX3, nmX3⟩
theorem fl_Reader_21 : pj_fl RX3 21 3 3 RX3 TX3 10 := ⟨rfl, by decide, rfl, (pj_m2 1 rfl rfl), tinX3, ttyX3, nmX3⟩
theorem fl_Reader_24 : pj_fl RX3 24 3 9 RX3 TX3 10 := ⟨rfl, by decide, rfl, (pj_m2 8 rfl rfl), tinX3, ttyX3, nmX3⟩
theorem fl_Reader_28 : pj_fl RX3 28 3 8 RX3 TX3 10 := ⟨rfl, by decide, rfl, (pj_m2 6 rfl rfl), tinX3, ttyX3, nmX3⟩
theorem fl_Reader_31 : pj_fl RX3 31 3 5 RX3 TX3 10 := ⟨rfl, by decide, rfl, (pj_m2 3 rfl rfl), tinX3, ttyX3, nmX3⟩
theorem fl_Reader_34 : pj_fl RX3 34 3 6 RX3 TX3 10 := ⟨rfl, by decide, rfl, (pj_m2 4 rfl rfl), tinX3, ttyX3, nmX3⟩
theorem fl_Reader_37 : pj_fl RX3 37 3 7 RX3 TX3 10 := ⟨rfl, by decide, rfl, (pj_m2 5 rfl rfl), tinX3, ttyX3, nmX3⟩
theorem fl_Reader_58 : pj_fl RX3 58 3 4 RX3 TX3 10 := ⟨rfl, by decide, rfl, (pj_m2 2 rfl rfl), tinX3, ttyX3, nmX3⟩
theorem fl_Past_9 : pj_fl RX4 9 4 0 RX4 TX4 9 := ⟨rfl, by decide, rfl, (pj_m1 187 rfl rfl), tinX4, ttyX4, nmX4⟩
theorem fl_Past_15 : pj_fl RX4 15 4 1 RX4 TX4 9 := ⟨rfl, by decide, rfl, (pj_m1 188 rfl rfl), tinX4, ttyX4, nmX4⟩
theorem fl_Past_18 : pj_fl RX4 18 4 2 RX4 TX4 9 := ⟨rfl, by decide, rfl, (pj_m1 189 rfl rfl), tinX4, ttyX4, nmX4⟩
theorem fl_Past_21 : pj_fl RX4 21 4 3 RX4 TX4 9 := ⟨rfl, by decide, rfl, (pj_m1 190 rfl rfl), tinX4, ttyX4, nmX4⟩
theorem fl_Past_25 : pj_fl RX4 25 4 4 RX4 TX4 9 := ⟨rfl, by decide, rfl, (pj_m1 191 rfl rfl), tinX4, ttyX4, nmX4⟩
theorem fl_Past_28 : pj_fl RX4 28 4 5 RX4 TX4 9 := ⟨rfl, by decide, rfl, (pj_m1 192 rfl rfl), tinX4, ttyX4, nmX4⟩
theorem fl_Past_31 : pj_fl RX4 31 4 6 RX4 TX4 9 := ⟨rfl, by decide, rfl, (pj_m1 193 rfl rfl), tinX4, ttyX4, nmX4⟩
theorem fl_Past_34 : pj_fl RX4 34 4 7 RX4 TX4 9 := ⟨rfl, by decide, rfl, (pj_m1 194 rfl rfl), tinX4, ttyX4, nmX4⟩
theorem fl_Past_38 : pj_fl RX4 38 4 8 RX4 TX4 9 := ⟨rfl, by decide, rfl, (pj_m1 196 rfl rfl), tinX4, ttyX4, nmX4⟩
theorem fl_Past_41 : pj_fl RX4 41 8 0 RX8 TX8 6 := ⟨rfl, by decide, rfl, (pj_m1 152 rfl rfl), tinX8, ttyX8, nmX8⟩
theorem fl_Past_47 : pj_fl RX4 47 1 6 RX1 TX1 10 := ⟨rfl, by decide, rfl, (pj_m1 52 rfl rfl), tinX1, ttyX1, nmX1⟩
theorem fl_Past_52 : pj_fl RX4 52 1 8 RX1 TX1 10 := ⟨rfl, by decide, rfl, (pj_m1 60 rfl rfl), tinX1, ttyX1, nmX1⟩
theorem fl_Past_54 : pj_fl RX4 54 1 9 RX1 TX1 10 := ⟨rfl, by decide, rfl, (pj_m1 63 rfl rfl), tinX1, ttyX1, nmX1⟩
theorem fl_Past_56 : pj_fl RX4 56 8 4 RX8 TX8 6 := ⟨rfl, by decide, rfl, (pj_m1 163 rfl rfl), tinX8, ttyX8, nmX8⟩
theorem fl_Past_58 : pj_fl RX4 58 8 5 RX8 TX8 6 := ⟨rfl, by decide, rfl, (pj_m1 166 rfl rfl), tinX8, ttyX8, nmX8⟩
theorem fl_Past_60 : pj_fl RX4 60 8 2 RX8 TX8 6 := ⟨rfl, by decide, rfl, (pj_m1 157 rfl rfl), tinX8, ttyX8, nmX8⟩
theorem fl_Past_64 : pj_fl RX4 64 0 3 RX0 TX0 4 := ⟨rfl, by decide, rfl, (pj_m1 124 rfl rfl), tinX0, ttyX0, nmX0⟩
theorem fl_Past_67 : pj_fl RX4 67 8 3 RX8 TX8 6 := ⟨rfl, by decide, rfl, (pj_m1 160 rfl rfl), tinX8, ttyX8, nmX8⟩
theorem fl_Past_71 : pj_fl RX4 71 9 1 RX9 TX9 2 := ⟨rfl, by decide, rfl, (pj_m1 144 rfl rfl), tinX9, ttyX9, nmX9⟩
theorem fl_Puller_9 : pj_fl RX5 9 5 0 RX5 TX5 5 := ⟨rfl, by decide, rfl, (pj_m2 37 rfl rfl), tinX5, ttyX5, nmX5⟩
theorem fl_Puller_15 : pj_fl RX5 15 5 1 RX5 TX5 5 := ⟨rfl, by decide, rfl, (pj_m2 39 rfl rfl), tinX5, ttyX5, nmX5⟩
theorem fl_Puller_19 : pj_fl RX5 19 5 2 RX5 TX5 5 := ⟨rfl, by decide, rfl, (pj_m2 42 rfl rfl), tinX5, ttyX5, nmX5⟩
theorem fl_Puller_22 : pj_fl RX5 22 1 6 RX1 TX1 10 := ⟨rfl, by decide, rfl, (pj_m1 50 rfl rfl), tinX1, ttyX1, nmX1⟩
theorem fl_Puller_28 : pj_fl RX5 28 5 3 RX5 TX5 5 := ⟨rfl, by decide, rfl, (pj_m2 44 rfl rfl), tinX5, ttyX5, nmX5⟩
theorem fl_Puller_29 : pj_fl RX5 29 5 4 RX5 TX5 5 := ⟨rfl, by decide, rfl, (pj_m2 46 rfl rfl), tinX5, ttyX5, nmX5⟩
theorem fl_Puller_48 : pj_fl RX5 48 1 7 RX1 TX1 10 := ⟨rfl, by decide, rfl, (pj_m1 57 rfl rfl), tinX1, ttyX1, nmX1⟩
theorem fl_Saver_9 : pj_fl RX6 9 1 6 RX1 TX1 10 := ⟨rfl, by decide, rfl, (pj_m1 49 rfl rfl), tinX1, ttyX1, nmX1⟩
theorem fl_Saver_15 : pj_fl RX6 15 1 7 RX1 TX1 10 := ⟨rfl, by decide, rfl, (pj_m1 55 rfl rfl), tinX1, ttyX1, nmX1⟩
theorem fl_Saver_20 : pj_fl RX6 20 6 0 RX6 TX6 2 := ⟨rfl, by decide, rfl, (pj_m2 65 rfl rfl), tinX6, ttyX6, nmX6⟩
theorem fl_Saver_26 : pj_fl RX6 26 6 1 RX6 TX6 2 := ⟨rfl, by decide, rfl, (pj_m2 67 rfl rfl), tinX6, ttyX6, nmX6⟩
theorem fl_Tape_9 : pj_fl RX7 9 7 0 RX7 TX7 2 := ⟨rfl, by decide, rfl, (pj_m1 223 rfl rfl), tinX7, ttyX7, nmX7⟩
theorem fl_Tape_15 : pj_fl RX7 15 7 1 RX7 TX7 2 := ⟨rfl, by decide, rfl, (pj_m1 224 rfl rfl), tinX7, ttyX7, nmX7⟩
theorem fl_Whole_12 : pj_fl RX8 12 8 0 RX8 TX8 6 := ⟨rfl, by decide, rfl, (pj_m1 151 rfl rfl), tinX8, ttyX8, nmX8⟩
theorem fl_Whole_21 : pj_fl RX8 21 8 1 RX8 TX8 6 := ⟨rfl, by decide, rfl, (pj_m1 154 rfl rfl), tinX8, ttyX8, nmX8⟩
theorem fl_Whole_28 : pj_fl RX8 28 8 2 RX8 TX8 6 := ⟨rfl, by decide, rfl, (pj_m1 156 rfl rfl), tinX8, ttyX8, nmX8⟩
theorem fl_Whole_35 : pj_fl RX8 35 8 3 RX8 TX8 6 := ⟨rfl, by decide, rfl, (pj_m1 159 rfl rfl), tinX8, ttyX8, nmX8⟩
theorem fl_Whole_46 : pj_fl RX8 46 0 3 RX0 TX0 4 := ⟨rfl, by decide, rfl, (pj_m1 122 rfl rfl), tinX0, ttyX0, nmX0⟩
theorem fl_Whole_50 : pj_fl RX8 50 9 1 RX9 TX9 2 := ⟨rfl, by decide, rfl, (pj_m1 143 rfl rfl), tinX9, ttyX9, nmX9⟩
theorem fl_Whole_51 : pj_fl RX8 51 8 4 RX8 TX8 6 := ⟨rfl, by decide, rfl, (pj_m1 162 rfl rfl), tinX8, ttyX8, nmX8⟩
theorem fl_Whole_58 : pj_fl RX8 58 2 0 RX2 TX2 5 := ⟨rfl, by decide, rfl, (pj_m1 93 rfl rfl), tinX2, ttyX2, nmX2⟩
theorem fl_Whole_62 : pj_fl RX8 62 2 2 RX2 TX2 5 := ⟨rfl, by decide, rfl, (pj_m1 96 rfl rfl), tinX2, ttyX2, nmX2⟩
theorem fl_Whole_65 : pj_fl RX8 65 2 3 RX2 TX2 5 := ⟨rfl, by decide, rfl, (pj_m1 98 rfl rfl), tinX2, ttyX2, nmX2⟩
theorem fl_Whole_78 : pj_fl RX8 78 8 5 RX8 TX8 6 := ⟨rfl, by decide, rfl, (pj_m1 167 rfl rfl), tinX8, ttyX8, nmX8⟩
theorem fl_Whole_81 : pj_fl RX8 81 1 6 RX1 TX1 10 := ⟨rfl, by decide, rfl, (pj_m1 53 rfl rfl), tinX1, ttyX1, nmX1⟩
theorem fl_Whole_91 : pj_fl RX8 91 5 1 RX5 TX5 5 := ⟨rfl, by decide, rfl, (pj_m2 40 rfl rfl), tinX5, ttyX5, nmX5⟩
theorem fl_Whole_94 : pj_fl RX8 94 5 0 RX5 TX5 5 := ⟨rfl, by decide, rfl, (pj_m2 38 rfl rfl), tinX5, ttyX5, nmX5⟩
theorem fl_Whole_100 : pj_fl RX8 100 5 4 RX5 TX5 5 := ⟨rfl, by decide, rfl, (pj_m2 47 rfl rfl), tinX5, ttyX5, nmX5⟩
theorem fl_Wool_9 : pj_fl RX9 9 9 0 RX9 TX9 2 := ⟨rfl, by decide, rfl, (pj_m1 141 rfl rfl), tinX9, ttyX9, nmX9⟩
theorem fl_Wool_21 : pj_fl RX9 21 9 1 RX9 TX9 2 := ⟨rfl, by decide, rfl, (pj_m1 142 rfl rfl), tinX9, ttyX9, nmX9⟩
theorem fl_Md_7 : pj_fl RX11 7 11 0 RX11 TX11 33 := ⟨rfl, by decide, rfl, (pj_m4 198 rfl rfl), tinX11, ttyX11, nmX11⟩
theorem fl_Md_13 : pj_fl RX11 13 11 1 RX11 TX11 33 := ⟨rfl, by decide, rfl, (pj_m4 199 rfl rfl), tinX11, ttyX11, nmX11⟩
theorem fl_Md_16 : pj_fl RX11 16 11 2 RX11 TX11 33 := ⟨rfl, by decide, rfl, (pj_m4 200 rfl rfl), tinX11, ttyX11, nmX11⟩
theorem fl_Md_19 : pj_fl RX11 19 11 5 RX11 TX11 33 := ⟨rfl, by decide, rfl, (pj_m4 203 rfl rfl), tinX11, ttyX11, nmX11⟩
theorem fl_Md_22 : pj_fl RX11 22 11 6 RX11 TX11 33 := ⟨rfl, by decide, rfl, (pj_m4 204 rfl rfl), tinX11, ttyX11, nmX11⟩
theorem fl_Md_25 : pj_fl RX11 25 11 7 RX11 TX11 33 := ⟨rfl, by decide, rfl, (pj_m4 205 rfl rfl), tinX11, ttyX11, nmX11⟩
theorem fl_Md_28 : pj_fl RX11 28 11 8 RX11 TX11 33 := ⟨rfl, by decide, rfl, (pj_m4 206 rfl rfl), tinX11, ttyX11, nmX11⟩
theorem fl_Md_31 : pj_fl RX11 31 11 9 RX11 TX11 33 := ⟨rfl, by decide, rfl, (pj_m4 207 rfl rfl), tinX11, ttyX11, nmX11⟩
theorem fl_Md_34 : pj_fl RX11 34 11 21 RX11 TX11 33 := ⟨rfl, by decide, rfl, (pj_m4 219 rfl rfl), tinX11, ttyX11, nmX11⟩
theorem fl_Md_38 : pj_fl RX11 38 11 22 RX11 TX11 33 := ⟨rfl, by decide, rfl, (pj_m4 220 rfl rfl), tinX11, ttyX11, nmX11⟩
theorem fl_Md_41 : pj_fl RX11 41 11 23 RX11 TX11 33 := ⟨rfl, by decide, rfl, (pj_m4 221 rfl rfl), tinX11, ttyX11, nmX11⟩
theorem fl_Md_44 : pj_fl RX11 44 11 24 RX11 TX11 33 := ⟨rfl, by decide, rfl, (pj_m4 222 rfl rfl), tinX11, ttyX11, nmX11⟩
theorem fl_Md_47 : pj_fl RX11 47 11 25 RX11 TX11 33 := ⟨rfl, by decide, rfl, (pj_m4 223 rfl rfl), tinX11, ttyX11, nmX11⟩
theorem fl_Md_50 : pj_fl RX11 50 11 29 RX11 TX11 33 := ⟨rfl, by decide, rfl, (pj_m4 227 rfl rfl), tinX11, ttyX11, nmX11⟩
theorem fl_Md_53 : pj_fl RX11 53 11 30 RX11 TX11 33 := ⟨rfl, by decide, rfl, (pj_m4 228 rfl rfl), tinX11, ttyX11, nmX11⟩
theorem fl_Md_56 : pj_fl RX11 56 11 31 RX11 TX11 33 := ⟨rfl, by decide, rfl, (pj_m4 229 rfl rfl), tinX11, ttyX11, nmX11⟩
theorem fl_Md_67 : pj_fl RX11 67 11 3 RX11 TX11 33 := ⟨rfl, by decide, rfl, (pj_m4 201 rfl rfl), tinX11, ttyX11, nmX11⟩
theorem fl_Md_80 : pj_fl RX11 80 11 12 RX11 TX11 33 := ⟨rfl, by decide, rfl, (pj_m4 210 rfl rfl), tinX11, ttyX11, nmX11⟩
theorem fl_Md_83 : pj_fl RX11 83 11 13 RX11 TX11 33 := ⟨rfl, by decide, rfl, (pj_m4 211 rfl rfl), tinX11, ttyX11, nmX11⟩
theorem fl_Md_86 : pj_fl RX11 86 11 15 RX11 TX11 33 := ⟨rfl, by decide, rfl, (pj_m4 213 rfl rfl), tinX11, ttyX11, nmX11⟩
theorem fl_Md_134 : pj_fl RX11 134 11 14 RX11 TX11 33 := ⟨rfl, by decide, rfl, (pj_m4 212 rfl rfl), tinX11, ttyX11, nmX11⟩
theorem fl_Md_146 : pj_fl RX11 146 11 16 RX11 TX11 33 := ⟨rfl, by decide, rfl, (pj_m4 214 rfl rfl), tinX11, ttyX11, nmX11⟩
theorem fl_Md_149 : pj_fl RX11 149 11 17 RX11 TX11 33 := ⟨rfl, by decide, rfl, (pj_m4 215 rfl rfl), tinX11, ttyX11, nmX11⟩
theorem fl_Md_152 : pj_fl RX11 152 11 18 RX11 TX11 33 := ⟨rfl, by decide, rfl, (pj_m4 216 rfl rfl), tinX11, ttyX11, nmX11⟩
theorem fl_Md_161 : pj_fl RX11 161 11 11 RX11 TX11 33 := ⟨rfl, by decide, rfl, (pj_m4 209 rfl rfl), tinX11, ttyX11, nmX11⟩
theorem fl_Md_164 : pj_fl RX11 164 11 20 RX11 TX11 33 := ⟨rfl, by decide, rfl, (pj_m4 218 rfl rfl), tinX11, ttyX11, nmX11⟩
theorem fl_Md_195 : pj_fl RX11 195 11 10 RX11 TX11 33 := ⟨rfl, by decide, rfl, (pj_m4 208 rfl rfl), tinX11, ttyX11, nmX11⟩
theorem fl_Md_201 : pj_fl RX11 201 11 19 RX11 TX11 33 := ⟨rfl, by decide, rfl, (pj_m4 217 rfl rfl), tinX11, ttyX11, nmX11⟩
theorem fl_Md_249 : pj_fl RX11 249 11 26 RX11 TX11 33 := ⟨rfl, by decide, rfl, (pj_m4 224 rfl rfl), tinX11, ttyX11, nmX11⟩
theorem fl_Md_252 : pj_fl RX11 252 11 27 RX11 TX11 33 := ⟨rfl, by decide, rfl, (pj_m4 225 rfl rfl), tinX11, ttyX11, nmX11⟩
theorem fl_Md_255 : pj_fl RX11 255 11 28 RX11 TX11 33 := ⟨rfl, by decide, rfl, (pj_m4 226 rfl rfl), tinX11, ttyX11, nmX11⟩
theorem fl_Md_295 : pj_fl RX11 295 11 32 RX11 TX11 33 := ⟨rfl, by decide, rfl, (pj_m4 230 rfl rfl), tinX11, ttyX11, nmX11⟩
theorem fl_Md_319 : pj_fl RX11 319 11 4 RX11 TX11 33 := ⟨rfl, by decide, rfl, (pj_m4 202 rfl rfl), tinX11, ttyX11, nmX11⟩
theorem fy_0_3 : parseFieldDescriptor (TX0 3).2.2.1 = some .int := by decide +kernel
theorem fy_1_0 : parseFieldDescriptor (TX1 0).2.2.1 = some .int := by decide +kernel
theorem fy_1_1 : parseFieldDescriptor (TX1 1).2.2.1 = some .int := by decide +kernel
theorem fy_1_2 : parseFieldDescriptor (TX1 2).2.2.1 = some .boolean := by decide +kernel
theorem fy_1_3 : parseFieldDescriptor (TX1 3).2.2.1 = some .long := by decide +kernel
theorem fy_1_4 : parseFieldDescriptor (TX1 4).2.2.1 = some .long := by decide +kernel
theorem fy_1_5 : parseFieldDescriptor (TX1 5).2.2.1 = some .long := by decide +kernel
theorem fy_1_6 : parseFieldDescriptor (TX1 6).2.2.1 = some .long := by decide +kernel
theorem fy_1_7 : parseFieldDescriptor (TX1 7).2.2.1 = some .long := by decide +kernel
theorem fy_1_8 : parseFieldDescriptor (TX1 8).2.2.1 = some .long := by decide +kernel
theorem fy_1_9 : parseFieldDescriptor (TX1 9).2.2.1 = some .long := by decide +kernel
theorem fy_2_2 : parseFieldDescriptor (TX2 2).2.2.1 = some .int := by decide +kernel
theorem fy_2_3 : parseFieldDescriptor (TX2 3).2.2.1 = some .int := by decide +kernel
theorem fy_2_4 : parseFieldDescriptor (TX2 4).2.2.1 = some .int := by decide +kernel
theorem fy_3_4 : parseFieldDescriptor (TX3 4).2.2.1 = some .int := by decide +kernel
theorem fy_3_5 : parseFieldDescriptor (TX3 5).2.2.1 = some .int := by decide +kernel
theorem fy_3_6 : parseFieldDescriptor (TX3 6).2.2.1 = some .int := by decide +kernel
theorem fy_3_7 : parseFieldDescriptor (TX3 7).2.2.1 = some .int := by decide +kernel
theorem fy_3_8 : parseFieldDescriptor (TX3 8).2.2.1 = some .int := by decide +kernel
theorem fy_3_9 : parseFieldDescriptor (TX3 9).2.2.1 = some .int := by decide +kernel
theorem fy_4_7 : parseFieldDescriptor (TX4 7).2.2.1 = some .int := by decide +kernel
theorem fy_4_8 : parseFieldDescriptor (TX4 8).2.2.1 = some .int := by decide +kernel
theorem fy_5_1 : parseFieldDescriptor (TX5 1).2.2.1 = some .int := by decide +kernel
theorem fy_5_2 : parseFieldDescriptor (TX5 2).2.2.1 = some .int := by decide +kernel
theorem fy_5_3 : parseFieldDescriptor (TX5 3).2.2.1 = some .long := by decide +kernel
theorem fy_5_4 : parseFieldDescriptor (TX5 4).2.2.1 = some .long := by decide +kernel
theorem fy_6_0 : parseFieldDescriptor (TX6 0).2.2.1 = some .int := by decide +kernel
theorem fy_6_1 : parseFieldDescriptor (TX6 1).2.2.1 = some .long := by decide +kernel
theorem fy_7_1 : parseFieldDescriptor (TX7 1).2.2.1 = some .int := by decide +kernel
theorem fy_8_4 : parseFieldDescriptor (TX8 4).2.2.1 = some .int := by decide +kernel
theorem fy_8_5 : parseFieldDescriptor (TX8 5).2.2.1 = some .int := by decide +kernel
theorem fy_9_1 : parseFieldDescriptor (TX9 1).2.2.1 = some .int := by decide +kernel
theorem fy_10_7 : parseFieldDescriptor (TX10 7).2.2.1 = some .boolean := by decide +kernel
theorem fy_11_3 : parseFieldDescriptor (TX11 3).2.2.1 = some .int := by decide +kernel
theorem fy_11_4 : parseFieldDescriptor (TX11 4).2.2.1 = some .boolean := by decide +kernel
theorem fy_11_10 : parseFieldDescriptor (TX11 10).2.2.1 = some .int := by decide +kernel
theorem fy_11_11 : parseFieldDescriptor (TX11 11).2.2.1 = some .int := by decide +kernel
theorem fy_11_12 : parseFieldDescriptor (TX11 12).2.2.1 = some .int := by decide +kernel
theorem fy_11_13 : parseFieldDescriptor (TX11 13).2.2.1 = some .int := by decide +kernel
theorem fy_11_14 : parseFieldDescriptor (TX11 14).2.2.1 = some .int := by decide +kernel
theorem fy_11_15 : parseFieldDescriptor (TX11 15).2.2.1 = some .int := by decide +kernel
theorem fy_11_16 : parseFieldDescriptor (TX11 16).2.2.1 = some .int := by decide +kernel
theorem fy_11_17 : parseFieldDescriptor (TX11 17).2.2.1 = some .int := by decide +kernel
theorem fy_11_18 : parseFieldDescriptor (TX11 18).2.2.1 = some .int := by decide +kernel
theorem fy_11_19 : parseFieldDescriptor (TX11 19).2.2.1 = some .int := by decide +kernel
theorem fy_11_20 : parseFieldDescriptor (TX11 20).2.2.1 = some .int := by decide +kernel
theorem fy_11_21 : parseFieldDescriptor (TX11 21).2.2.1 = some .int := by decide +kernel
theorem fy_11_26 : parseFieldDescriptor (TX11 26).2.2.1 = some .int := by decide +kernel
theorem fy_11_27 : parseFieldDescriptor (TX11 27).2.2.1 = some .int := by decide +kernel
theorem fy_11_28 : parseFieldDescriptor (TX11 28).2.2.1 = some .int := by decide +kernel
theorem fy_11_32 : parseFieldDescriptor (TX11 32).2.2.1 = some .int := by decide +kernel
theorem co_PJ_207 : Cond.constantLong RX10 207 (-1 : Int64) ∈ pj_tbl := (pj_m4 60 rfl rfl)
theorem co_Fabric_56 : Cond.constantLong RX1 56 (-1 : Int64) ∈ pj_tbl := (pj_m2 149 rfl rfl)
theorem co_Fabric_58 : Cond.constantLong RX1 58 (6148914691236517205 : Int64) ∈ pj_tbl := (pj_m2 224 rfl rfl)
theorem co_Fabric_60 : Cond.constantLong RX1 60 (-6148914691236517206 : Int64) ∈ pj_tbl := (pj_m2 225 rfl rfl)
theorem co_Puller_55 : Cond.constantLong RX5 55 (-1 : Int64) ∈ pj_tbl := (pj_m2 226 rfl rfl)
theorem co_Saver_18 : Cond.constantLong RX6 18 (-1 : Int64) ∈ pj_tbl := (pj_m4 77 rfl rfl)
theorem co_Whole_85 : Cond.constantLong RX8 85 (-1 : Int64) ∈ pj_tbl := (pj_m2 178 rfl rfl)
theorem co_Whole_110 : Cond.constant RX8 110 (nI 1664525) ∈ pj_tbl := (pj_m3 77 rfl rfl)
theorem co_Whole_111 : Cond.constant RX8 111 (nI 1013904223) ∈ pj_tbl := (pj_m3 78 rfl rfl)
theorem co_Whole_133 : Cond.constant RX8 133 (nI 1000000) ∈ pj_tbl := (pj_m4 132 rfl rfl)
theorem co_Md_74 : Cond.constant RX11 74 (nI 1664525) ∈ pj_tbl := (pj_m6 42 rfl rfl)
theorem co_Md_75 : Cond.constant RX11 75 (nI 1013904223) ∈ pj_tbl := (pj_m6 43 rfl rfl)
theorem co_Md_315 : Cond.constant RX11 315 (nI 1000000) ∈ pj_tbl := (pj_m6 116 rfl rfl)
theorem co_JLong_314 : Cond.constantLong RJ13 314 (6148914691236517205 : Int64) ∈ pj_tbl := (pj_m3 67 rfl rfl)
theorem co_JLong_316 : Cond.constantLong RJ13 316 (3689348814741910323 : Int64) ∈ pj_tbl := (pj_m3 68 rfl rfl)
theorem co_JLong_318 : Cond.constantLong RJ13 318 (1085102592571150095 : Int64) ∈ pj_tbl := (pj_m3 69 rfl rfl)
theorem wc_X8_begin : Cond.code yX8_begin cX8_begin 3 none ∈ pj_tbl := (pj_m2 77 rfl rfl)
theorem wi_X8 : Cond.initialized RX8 ∈ pj_tbl := (pj_m1 2 rfl rfl)
theorem nh_X8 : RX8 ≠ "java/lang/invoke/MethodHandle" ∧ RX8 ≠ "java/lang/invoke/VarHandle" := by decide +kernel
theorem pd_0 : (parseMethodDescriptor "(II)V").map (fun d => d.parameters.length) = some 2 := by decide +kernel
theorem wm_X8_begin : Cond.instanceMethod yX8_begin ∈ pj_tbl := (pj_m2 75 rfl rfl)
theorem ws_X8_begin : Cond.selects RX8 yX8_begin yX8_begin ∈ pj_tbl := (pj_m2 76 rfl rfl)
theorem cl_PJ_54 : pj_gV RX10 54 yX8_begin cX8_begin 3 none 2 := ⟨(pj_m2 74 rfl rfl), wm_X8_begin, ws_X8_begin, wi_X8, wc_X8_begin, nh_X8.1, nh_X8.2, pd_0⟩
theorem wc_X4_forget : Cond.code yX4_forget cX4_forget 1 none ∈ pj_tbl := (pj_m2 121 rfl rfl)
theorem wi_X4 : Cond.initialized RX4 ∈ pj_tbl := (pj_m1 7 rfl rfl)
theorem nh_X4 : RX4 ≠ "java/lang/invoke/MethodHandle" ∧ RX4 ≠ "java/lang/invoke/VarHandle" := by decide +kernel
theorem pd_1 : (parseMethodDescriptor "()V").map (fun d => d.parameters.length) = some 0 := by decide +kernel
theorem wm_X4_forget : Cond.instanceMethod yX4_forget ∈ pj_tbl := (pj_m2 119 rfl rfl)
theorem ws_X4_forget : Cond.selects RX4 yX4_forget yX4_forget ∈ pj_tbl := (pj_m2 120 rfl rfl)
theorem cl_PJ_62 : pj_gV RX10 62 yX4_forget cX4_forget 1 none 0 := ⟨(pj_m2 118 rfl rfl), wm_X4_forget, ws_X4_forget, wi_X4, wc_X4_forget, nh_X4.1, nh_X4.2, pd_1⟩
theorem wc_X1_tellBound : Cond.code yX1_tellBound cX1_tellBound 2 (some .boolean) ∈ pj_tbl := (pj_m2 133 rfl rfl)
theorem wi_X1 : Cond.initialized RX1 ∈ pj_tbl := (pj_m1 3 rfl rfl)
theorem nh_X1 : RX1 ≠ "java/lang/invoke/MethodHandle" ∧ RX1 ≠ "java/lang/invoke/VarHandle" := by decide +kernel
theorem pd_2 : (parseMethodDescriptor "(I)Z").map (fun d => d.parameters.length) = some 1 := by decide +kernel
theorem wm_X1_tellBound : Cond.instanceMethod yX1_tellBound ∈ pj_tbl := (pj_m2 131 rfl rfl)
theorem ws_X1_tellBound : Cond.selects RX1 yX1_tellBound yX1_tellBound ∈ pj_tbl := (pj_m2 132 rfl rfl)
theorem cl_PJ_69 : pj_gV RX10 69 yX1_tellBound cX1_tellBound 2 (some .boolean) 1 := ⟨(pj_m2 130 rfl rfl), wm_X1_tellBound, ws_X1_tellBound, wi_X1, wc_X1_tellBound, nh_X1.1, nh_X1.2, pd_2⟩
theorem wc_X10_tellOfStitch : Cond.code yX10_tellOfStitch cX10_tellOfStitch 4 (some .boolean) ∈ pj_tbl := (pj_m2 137 rfl rfl)
theorem wi_X10 : Cond.initialized RX10 ∈ pj_tbl := (pj_m1 1 rfl rfl)
theorem nh_X10 : RX10 ≠ "java/lang/invoke/MethodHandle" ∧ RX10 ≠ "java/lang/invoke/VarHandle" := by decide +kernel
theorem pd_3 : (parseMethodDescriptor "(III)Z").map (fun d => d.parameters.length) = some 3 := by decide +kernel
theorem wm_X10_tellOfStitch : Cond.instanceMethod yX10_tellOfStitch ∈ pj_tbl := (pj_m2 136 rfl rfl)
theorem ws_X10_tellOfStitch : Cond.selects RX10 yX10_tellOfStitch yX10_tellOfStitch ∈ pj_tbl := (pj_mem 0 rfl rfl)
theorem cl_PJ_75 : pj_gV RX10 75 yX10_tellOfStitch cX10_tellOfStitch 4 (some .boolean) 3 := ⟨(pj_m2 134 rfl rfl), wm_X10_tellOfStitch, ws_X10_tellOfStitch, wi_X10, wc_X10_tellOfStitch, nh_X10.1, nh_X10.2, pd_3⟩
theorem wc_X1_isHere : Cond.code yX1_isHere cX1_isHere 2 (some .boolean) ∈ pj_tbl := (pj_m2 165 rfl rfl)
theorem wm_X1_isHere : Cond.instanceMethod yX1_isHere ∈ pj_tbl := (pj_m2 163 rfl rfl)
theorem ws_X1_isHere : Cond.selects RX1 yX1_isHere yX1_isHere ∈ pj_tbl := (pj_m2 164 rfl rfl)
theorem cl_PJ_79 : pj_gV RX10 79 yX1_isHere cX1_isHere 2 (some .boolean) 1 := ⟨(pj_m2 162 rfl rfl), wm_X1_isHere, ws_X1_isHere, wi_X1, wc_X1_isHere, nh_X1.1, nh_X1.2, pd_2⟩
theorem wc_X4_keep : Cond.code yX4_keep cX4_keep 3 none ∈ pj_tbl := (pj_m2 170 rfl rfl)
theorem pd_4 : (parseMethodDescriptor "(LPulledJersey$Whole;)V").map (fun d => d.parameters.length) = some 1 := by decide +kernel
theorem wm_X4_keep : Cond.instanceMethod yX4_keep ∈ pj_tbl := (pj_m2 168 rfl rfl)
theorem ws_X4_keep : Cond.selects RX4 yX4_keep yX4_keep ∈ pj_tbl := (pj_m2 169 rfl rfl)
theorem cl_PJ_82 : pj_gV RX10 82 yX4_keep cX4_keep 3 none 1 := ⟨(pj_m2 167 rfl rfl), wm_X4_keep, ws_X4_keep, wi_X4, wc_X4_keep, nh_X4.1, nh_X4.2, pd_4⟩
theorem wc_X8_letGo : Cond.code yX8_letGo cX8_letGo 3 none ∈ pj_tbl := (pj_m2 177 rfl rfl)
theorem wm_X8_letGo : Cond.instanceMethod yX8_letGo ∈ pj_tbl := (pj_m2 175 rfl rfl)
theorem ws_X8_letGo : Cond.selects RX8 yX8_letGo yX8_letGo ∈ pj_tbl := (pj_m2 176 rfl rfl)
theorem cl_PJ_86 : pj_gV RX10 86 yX8_letGo cX8_letGo 3 none 2 := ⟨(pj_m2 174 rfl rfl), wm_X8_letGo, ws_X8_letGo, wi_X8, wc_X8_letGo, nh_X8.1, nh_X8.2, pd_0⟩
theorem wc_X1_canCut : Cond.code yX1_canCut cX1_canCut 2 (some .boolean) ∈ pj_tbl := (pj_m2 190 rfl rfl)
theorem wm_X1_canCut : Cond.instanceMethod yX1_canCut ∈ pj_tbl := (pj_m2 188 rfl rfl)
theorem ws_X1_canCut : Cond.selects RX1 yX1_canCut yX1_canCut ∈ pj_tbl := (pj_m2 189 rfl rfl)
theorem cl_PJ_89 : pj_gV RX10 89 yX1_canCut cX1_canCut 2 (some .boolean) 1 := ⟨(pj_m2 187 rfl rfl), wm_X1_canCut, ws_X1_canCut, wi_X1, wc_X1_canCut, nh_X1.1, nh_X1.2, pd_2⟩
theorem wc_X1_isEnd : Cond.code yX1_isEnd cX1_isEnd 3 (some .boolean) ∈ pj_tbl := (pj_m2 202 rfl rfl)
theorem pd_5 : (parseMethodDescriptor "(II)Z").map (fun d => d.parameters.length) = some 2 := by decide +kernel
theorem wm_X1_isEnd : Cond.instanceMethod yX1_isEnd ∈ pj_tbl := (pj_m2 200 rfl rfl)
theorem ws_X1_isEnd : Cond.selects RX1 yX1_isEnd yX1_isEnd ∈ pj_tbl := (pj_m2 201 rfl rfl)
theorem cl_PJ_96 : pj_gV RX10 96 yX1_isEnd cX1_isEnd 3 (some .boolean) 2 := ⟨(pj_m2 199 rfl rfl), wm_X1_isEnd, ws_X1_isEnd, wi_X1, wc_X1_isEnd, nh_X1.1, nh_X1.2, pd_5⟩
theorem wc_X5_walk : Cond.code yX5_walk cX5_walk 9 none ∈ pj_tbl := (pj_m2 206 rfl rfl)
theorem wi_X5 : Cond.initialized RX5 ∈ pj_tbl := (pj_m1 10 rfl rfl)
theorem nh_X5 : RX5 ≠ "java/lang/invoke/MethodHandle" ∧ RX5 ≠ "java/lang/invoke/VarHandle" := by decide +kernel
theorem pd_6 : (parseMethodDescriptor "(LPulledJersey$Fabric;III)V").map (fun d => d.parameters.length) = some 4 := by decide +kernel
theorem wm_X5_walk : Cond.instanceMethod yX5_walk ∈ pj_tbl := (pj_m2 204 rfl rfl)
theorem ws_X5_walk : Cond.selects RX5 yX5_walk yX5_walk ∈ pj_tbl := (pj_m2 205 rfl rfl)
theorem cl_PJ_100 : pj_gV RX10 100 yX5_walk cX5_walk 9 none 4 := ⟨(pj_m2 203 rfl rfl), wm_X5_walk, ws_X5_walk, wi_X5, wc_X5_walk, nh_X5.1, nh_X5.2, pd_6⟩
theorem wc_X8_windUp : Cond.code yX8_windUp cX8_windUp 3 none ∈ pj_tbl := (pj_m2 235 rfl rfl)
theorem pd_7 : (parseMethodDescriptor "(LPulledJersey$Puller;)V").map (fun d => d.parameters.length) = some 1 := by decide +kernel
theorem wm_X8_windUp : Cond.instanceMethod yX8_windUp ∈ pj_tbl := (pj_m2 233 rfl rfl)
theorem ws_X8_windUp : Cond.selects RX8 yX8_windUp yX8_windUp ∈ pj_tbl := (pj_m2 234 rfl rfl)
theorem cl_PJ_104 : pj_gV RX10 104 yX8_windUp cX8_windUp 3 none 1 := ⟨(pj_m2 232 rfl rfl), wm_X8_windUp, ws_X8_windUp, wi_X8, wc_X8_windUp, nh_X8.1, nh_X8.2, pd_7⟩
theorem wc_X8_passHour : Cond.code yX8_passHour cX8_passHour 7 (some .int) ∈ pj_tbl := (pj_m3 18 rfl rfl)
theorem pd_8 : (parseMethodDescriptor "()I").map (fun d => d.parameters.length) = some 0 := by decide +kernel
theorem wm_X8_passHour : Cond.instanceMethod yX8_passHour ∈ pj_tbl := (pj_m3 16 rfl rfl)
theorem ws_X8_passHour : Cond.selects RX8 yX8_passHour yX8_passHour ∈ pj_tbl := (pj_m3 17 rfl rfl)
theorem cl_PJ_114 : pj_gV RX10 114 yX8_passHour cX8_passHour 7 (some .int) 0 := ⟨(pj_m3 15 rfl rfl), wm_X8_passHour, ws_X8_passHour, wi_X8, wc_X8_passHour, nh_X8.1, nh_X8.2, pd_8⟩
theorem wc_X7_hasRoom : Cond.code yX7_hasRoom cX7_hasRoom 1 (some .boolean) ∈ pj_tbl := (pj_m3 87 rfl rfl)
theorem wi_X7 : Cond.initialized RX7 ∈ pj_tbl := (pj_m1 8 rfl rfl)
theorem nh_X7 : RX7 ≠ "java/lang/invoke/MethodHandle" ∧ RX7 ≠ "java/lang/invoke/VarHandle" := by decide +kernel
theorem pd_9 : (parseMethodDescriptor "()Z").map (fun d => d.parameters.length) = some 0 := by decide +kernel
theorem wm_X7_hasRoom : Cond.instanceMethod yX7_hasRoom ∈ pj_tbl := (pj_m3 85 rfl rfl)
theorem ws_X7_hasRoom : Cond.selects RX7 yX7_hasRoom yX7_hasRoom ∈ pj_tbl := (pj_m3 86 rfl rfl)
theorem cl_PJ_118 : pj_gV RX10 118 yX7_hasRoom cX7_hasRoom 1 (some .boolean) 0 := ⟨(pj_m3 84 rfl rfl), wm_X7_hasRoom, ws_X7_hasRoom, wi_X7, wc_X7_hasRoom, nh_X7.1, nh_X7.2, pd_9⟩
theorem wc_X7_add : Cond.code yX7_add cX7_add 3 none ∈ pj_tbl := (pj_m3 91 rfl rfl)
theorem pd_10 : (parseMethodDescriptor "(I)V").map (fun d => d.parameters.length) = some 1 := by decide +kernel
theorem wm_X7_add : Cond.instanceMethod yX7_add ∈ pj_tbl := (pj_m3 89 rfl rfl)
theorem ws_X7_add : Cond.selects RX7 yX7_add yX7_add ∈ pj_tbl := (pj_m3 90 rfl rfl)
theorem cl_PJ_122 : pj_gV RX10 122 yX7_add cX7_add 3 none 1 := ⟨(pj_m3 88 rfl rfl), wm_X7_add, ws_X7_add, wi_X7, wc_X7_add, nh_X7.1, nh_X7.2, pd_10⟩
theorem wc_X3_read : Cond.code yX3_read cX3_read 4 (some .boolean) ∈ pj_tbl := (pj_m3 103 rfl rfl)
theorem wi_X3 : Cond.initialized RX3 ∈ pj_tbl := (pj_m1 9 rfl rfl)
theorem nh_X3 : RX3 ≠ "java/lang/invoke/MethodHandle" ∧ RX3 ≠ "java/lang/invoke/VarHandle" := by decide +kernel
theorem pd_11 : (parseMethodDescriptor "(LPulledJersey$Tape;LPulledJersey$Law;)Z").map (fun d => d.parameters.length) = some 2 := by decide +kernel
theorem wm_X3_read : Cond.instanceMethod yX3_read ∈ pj_tbl := (pj_m3 101 rfl rfl)
theorem ws_X3_read : Cond.selects RX3 yX3_read yX3_read ∈ pj_tbl := (pj_m3 102 rfl rfl)
theorem cl_PJ_133 : pj_gV RX10 133 yX3_read cX3_read 4 (some .boolean) 2 := ⟨(pj_m3 100 rfl rfl), wm_X3_read, ws_X3_read, wi_X3, wc_X3_read, nh_X3.1, nh_X3.2, pd_11⟩
theorem wc_X1_has : Cond.code yX1_has cX1_has 2 (some .boolean) ∈ pj_tbl := (pj_m2 141 rfl rfl)
theorem wm_X1_has : Cond.instanceMethod yX1_has ∈ pj_tbl := (pj_m2 139 rfl rfl)
theorem ws_X1_has : Cond.selects RX1 yX1_has yX1_has ∈ pj_tbl := (pj_m2 140 rfl rfl)
theorem cl_PJ_148 : pj_gV RX10 148 yX1_has cX1_has 2 (some .boolean) 1 := ⟨(pj_m2 138 rfl rfl), wm_X1_has, ws_X1_has, wi_X1, wc_X1_has, nh_X1.1, nh_X1.2, pd_2⟩
theorem wc_X1_kindOf : Cond.code yX1_kindOf cX1_kindOf 2 (some .int) ∈ pj_tbl := (pj_m3 6 rfl rfl)
theorem pd_12 : (parseMethodDescriptor "(I)I").map (fun d => d.parameters.length) = some 1 := by decide +kernel
theorem wm_X1_kindOf : Cond.instanceMethod yX1_kindOf ∈ pj_tbl := (pj_m3 4 rfl rfl)
theorem ws_X1_kindOf : Cond.selects RX1 yX1_kindOf yX1_kindOf ∈ pj_tbl := (pj_m3 5 rfl rfl)
theorem cl_PJ_151 : pj_gV RX10 151 yX1_kindOf cX1_kindOf 2 (some .int) 1 := ⟨(pj_m4 25 rfl rfl), wm_X1_kindOf, ws_X1_kindOf, wi_X1, wc_X1_kindOf, nh_X1.1, nh_X1.2, pd_12⟩
theorem wc_X10_bitOf : Cond.code yX10_bitOf cX10_bitOf 3 (some .int) ∈ pj_tbl := (pj_m2 144 rfl rfl)
theorem pd_13 : (parseMethodDescriptor "(JI)I").map (fun d => d.parameters.length) = some 2 := by decide +kernel
theorem wt_X10_bitOf : Cond.static yX10_bitOf ∈ pj_tbl := (pj_m2 143 rfl rfl)
theorem cl_PJ_158 : pj_gS RX10 158 yX10_bitOf cX10_bitOf 3 (some .int) 2 := ⟨(pj_m4 26 rfl rfl), wt_X10_bitOf, wi_X10, wc_X10_bitOf, nh_X10.1, nh_X10.2, pd_13⟩
theorem wc_X1_heldOf : Cond.code yX1_heldOf cX1_heldOf 7 (some .long) ∈ pj_tbl := (pj_m2 219 rfl rfl)
theorem pd_14 : (parseMethodDescriptor "(JJ)J").map (fun d => d.parameters.length) = some 2 := by decide +kernel
theorem wm_X1_heldOf : Cond.instanceMethod yX1_heldOf ∈ pj_tbl := (pj_m2 217 rfl rfl)
theorem ws_X1_heldOf : Cond.selects RX1 yX1_heldOf yX1_heldOf ∈ pj_tbl := (pj_m2 218 rfl rfl)
theorem cl_PJ_165 : pj_gV RX10 165 yX1_heldOf cX1_heldOf 7 (some .long) 2 := ⟨(pj_m4 27 rfl rfl), wm_X1_heldOf, ws_X1_heldOf, wi_X1, wc_X1_heldOf, nh_X1.1, nh_X1.2, pd_14⟩
theorem wc_X1_placeOf : Cond.code yX1_placeOf cX1_placeOf 4 (some .int) ∈ pj_tbl := (pj_m4 31 rfl rfl)
theorem wm_X1_placeOf : Cond.instanceMethod yX1_placeOf ∈ pj_tbl := (pj_m4 29 rfl rfl)
theorem ws_X1_placeOf : Cond.selects RX1 yX1_placeOf yX1_placeOf ∈ pj_tbl := (pj_m4 30 rfl rfl)
theorem cl_PJ_169 : pj_gV RX10 169 yX1_placeOf cX1_placeOf 4 (some .int) 1 := ⟨(pj_m4 28 rfl rfl), wm_X1_placeOf, ws_X1_placeOf, wi_X1, wc_X1_placeOf, nh_X1.1, nh_X1.2, pd_12⟩
theorem wc_X1_loose : Cond.code yX1_loose cX1_loose 1 (some .long) ∈ pj_tbl := (pj_m3 22 rfl rfl)
theorem pd_15 : (parseMethodDescriptor "()J").map (fun d => d.parameters.length) = some 0 := by decide +kernel
theorem wm_X1_loose : Cond.instanceMethod yX1_loose ∈ pj_tbl := (pj_m3 20 rfl rfl)
theorem ws_X1_loose : Cond.selects RX1 yX1_loose yX1_loose ∈ pj_tbl := (pj_m3 21 rfl rfl)
theorem cl_PJ_172 : pj_gV RX10 172 yX1_loose cX1_loose 1 (some .long) 0 := ⟨(pj_m4 32 rfl rfl), wm_X1_loose, ws_X1_loose, wi_X1, wc_X1_loose, nh_X1.1, nh_X1.2, pd_15⟩
theorem wc_X2_oddsOf : Cond.code yX2_oddsOf cX2_oddsOf 8 (some .int) ∈ pj_tbl := (pj_m3 28 rfl rfl)
theorem wi_X2 : Cond.initialized RX2 ∈ pj_tbl := (pj_m1 4 rfl rfl)
theorem nh_X2 : RX2 ≠ "java/lang/invoke/MethodHandle" ∧ RX2 ≠ "java/lang/invoke/VarHandle" := by decide +kernel
theorem pd_16 : (parseMethodDescriptor "(LPulledJersey$Fabric;II)I").map (fun d => d.parameters.length) = some 3 := by decide +kernel
theorem wm_X2_oddsOf : Cond.instanceMethod yX2_oddsOf ∈ pj_tbl := (pj_m3 26 rfl rfl)
theorem ws_X2_oddsOf : Cond.selects RX2 yX2_oddsOf yX2_oddsOf ∈ pj_tbl := (pj_m3 27 rfl rfl)
theorem cl_PJ_176 : pj_gV RX10 176 yX2_oddsOf cX2_oddsOf 8 (some .int) 3 := ⟨(pj_m4 33 rfl rfl), wm_X2_oddsOf, ws_X2_oddsOf, wi_X2, wc_X2_oddsOf, nh_X2.1, nh_X2.2, pd_16⟩
theorem wc_X1_places : Cond.code yX1_places cX1_places 1 (some .int) ∈ pj_tbl := (pj_m2 194 rfl rfl)
theorem wm_X1_places : Cond.instanceMethod yX1_places ∈ pj_tbl := (pj_m2 192 rfl rfl)
theorem ws_X1_places : Cond.selects RX1 yX1_places yX1_places ∈ pj_tbl := (pj_m2 193 rfl rfl)
theorem cl_PJ_183 : pj_gV RX10 183 yX1_places cX1_places 1 (some .int) 0 := ⟨(pj_m4 38 rfl rfl), wm_X1_places, ws_X1_places, wi_X1, wc_X1_places, nh_X1.1, nh_X1.2, pd_8⟩
theorem wc_X1_stitchAt : Cond.code yX1_stitchAt cX1_stitchAt 4 (some .int) ∈ pj_tbl := (pj_m2 210 rfl rfl)
theorem wm_X1_stitchAt : Cond.instanceMethod yX1_stitchAt ∈ pj_tbl := (pj_m2 208 rfl rfl)
theorem ws_X1_stitchAt : Cond.selects RX1 yX1_stitchAt yX1_stitchAt ∈ pj_tbl := (pj_m2 209 rfl rfl)
theorem cl_PJ_186 : pj_gV RX10 186 yX1_stitchAt cX1_stitchAt 4 (some .int) 1 := ⟨(pj_m4 39 rfl rfl), wm_X1_stitchAt, ws_X1_stitchAt, wi_X1, wc_X1_stitchAt, nh_X1.1, nh_X1.2, pd_12⟩
theorem wc_X9_lengthOf : Cond.code yX9_lengthOf cX9_lengthOf 2 (some .int) ∈ pj_tbl := (pj_m4 47 rfl rfl)
theorem wi_X9 : Cond.initialized RX9 ∈ pj_tbl := (pj_m1 6 rfl rfl)
theorem nh_X9 : RX9 ≠ "java/lang/invoke/MethodHandle" ∧ RX9 ≠ "java/lang/invoke/VarHandle" := by decide +kernel
theorem wm_X9_lengthOf : Cond.instanceMethod yX9_lengthOf ∈ pj_tbl := (pj_m4 45 rfl rfl)
theorem ws_X9_lengthOf : Cond.selects RX9 yX9_lengthOf yX9_lengthOf ∈ pj_tbl := (pj_m4 46 rfl rfl)
theorem cl_PJ_193 : pj_gV RX10 193 yX9_lengthOf cX9_lengthOf 2 (some .int) 1 := ⟨(pj_m4 44 rfl rfl), wm_X9_lengthOf, ws_X9_lengthOf, wi_X9, wc_X9_lengthOf, nh_X9.1, nh_X9.2, pd_12⟩
theorem wc_X0_read : Cond.code yX0_read cX0_read 3 (some .int) ∈ pj_tbl := (pj_m4 55 rfl rfl)
theorem wi_X0 : Cond.initialized RX0 ∈ pj_tbl := (pj_m1 5 rfl rfl)
theorem nh_X0 : RX0 ≠ "java/lang/invoke/MethodHandle" ∧ RX0 ≠ "java/lang/invoke/VarHandle" := by decide +kernel
theorem pd_17 : (parseMethodDescriptor "(II)I").map (fun d => d.parameters.length) = some 2 := by decide +kernel
theorem wm_X0_read : Cond.instanceMethod yX0_read ∈ pj_tbl := (pj_m4 53 rfl rfl)
theorem ws_X0_read : Cond.selects RX0 yX0_read yX0_read ∈ pj_tbl := (pj_m4 54 rfl rfl)
theorem cl_PJ_202 : pj_gV RX10 202 yX0_read cX0_read 3 (some .int) 2 := ⟨(pj_m4 52 rfl rfl), wm_X0_read, ws_X0_read, wi_X0, wc_X0_read, nh_X0.1, nh_X0.2, pd_17⟩
theorem wc_X1_inTheEnd : Cond.code yX1_inTheEnd cX1_inTheEnd 10 (some .long) ∈ pj_tbl := (pj_m4 64 rfl rfl)
theorem wm_X1_inTheEnd : Cond.instanceMethod yX1_inTheEnd ∈ pj_tbl := (pj_m4 62 rfl rfl)
theorem ws_X1_inTheEnd : Cond.selects RX1 yX1_inTheEnd yX1_inTheEnd ∈ pj_tbl := (pj_m4 63 rfl rfl)
theorem cl_PJ_209 : pj_gV RX10 209 yX1_inTheEnd cX1_inTheEnd 10 (some .long) 2 := ⟨(pj_m4 61 rfl rfl), wm_X1_inTheEnd, ws_X1_inTheEnd, wi_X1, wc_X1_inTheEnd, nh_X1.1, nh_X1.2, pd_14⟩
theorem wc_J13_bitCount_95d88 : Cond.code yJ13_bitCount_95d88 cJ13_bitCount_95d88 2 (some .int) ∈ pj_tbl := (pj_m3 66 rfl rfl)
theorem wi_J13 : Cond.initialized RJ13 ∈ pj_tbl := (pj_m1 14 rfl rfl)
theorem nh_J13 : RJ13 ≠ "java/lang/invoke/MethodHandle" ∧ RJ13 ≠ "java/lang/invoke/VarHandle" := by decide +kernel
theorem pd_18 : (parseMethodDescriptor "(J)I").map (fun d => d.parameters.length) = some 1 := by decide +kernel
theorem wt_J13_bitCount_95d88 : Cond.static yJ13_bitCount_95d88 ∈ pj_tbl := (pj_m3 65 rfl rfl)
theorem cl_PJ_212 : pj_gS RX10 212 yJ13_bitCount_95d88 cJ13_bitCount_95d88 2 (some .int) 1 := ⟨(pj_m4 65 rfl rfl), wt_J13_bitCount_95d88, wi_J13, wc_J13_bitCount_95d88, nh_J13.1, nh_J13.2, pd_18⟩
theorem wc_X10_numberIn : Cond.code yX10_numberIn cX10_numberIn 5 (some .int) ∈ pj_tbl := (pj_m4 68 rfl rfl)
theorem wt_X10_numberIn : Cond.static yX10_numberIn ∈ pj_tbl := (pj_m4 67 rfl rfl)
theorem cl_PJ_218 : pj_gS RX10 218 yX10_numberIn cX10_numberIn 5 (some .int) 2 := ⟨(pj_m4 66 rfl rfl), wt_X10_numberIn, wi_X10, wc_X10_numberIn, nh_X10.1, nh_X10.2, pd_13⟩
theorem wc_X6_search : Cond.code yX6_search cX6_search 5 none ∈ pj_tbl := (pj_m4 76 rfl rfl)
theorem wi_X6 : Cond.initialized RX6 ∈ pj_tbl := (pj_m1 11 rfl rfl)
theorem nh_X6 : RX6 ≠ "java/lang/invoke/MethodHandle" ∧ RX6 ≠ "java/lang/invoke/VarHandle" := by decide +kernel
theorem pd_19 : (parseMethodDescriptor "(LPulledJersey$Fabric;I)V").map (fun d => d.parameters.length) = some 2 := by decide +kernel
theorem wm_X6_search : Cond.instanceMethod yX6_search ∈ pj_tbl := (pj_m4 74 rfl rfl)
theorem ws_X6_search : Cond.selects RX6 yX6_search yX6_search ∈ pj_tbl := (pj_m4 75 rfl rfl)
theorem cl_PJ_221 : pj_gV RX10 221 yX6_search cX6_search 5 none 2 := ⟨(pj_m4 73 rfl rfl), wm_X6_search, ws_X6_search, wi_X6, wc_X6_search, nh_X6.1, nh_X6.2, pd_19⟩
theorem wc_X10_undoesAll : Cond.code yX10_undoesAll cX10_undoesAll 3 (some .boolean) ∈ pj_tbl := (pj_m4 99 rfl rfl)
theorem wm_X10_undoesAll : Cond.instanceMethod yX10_undoesAll ∈ pj_tbl := (pj_m4 98 rfl rfl)
theorem ws_X10_undoesAll : Cond.selects RX10 yX10_undoesAll yX10_undoesAll ∈ pj_tbl := (pj_mem 19 rfl rfl)
theorem cl_PJ_234 : pj_gV RX10 234 yX10_undoesAll cX10_undoesAll 3 (some .boolean) 2 := ⟨(pj_m4 96 rfl rfl), wm_X10_undoesAll, ws_X10_undoesAll, wi_X10, wc_X10_undoesAll, nh_X10.1, nh_X10.2, pd_5⟩
theorem wc_X10_rectangle : Cond.code yX10_rectangle cX10_rectangle 9 (some .long) ∈ pj_tbl := (pj_m2 84 rfl rfl)
theorem pd_20 : (parseMethodDescriptor "(IIII)J").map (fun d => d.parameters.length) = some 4 := by decide +kernel
theorem wt_X10_rectangle : Cond.static yX10_rectangle ∈ pj_tbl := (pj_m2 83 rfl rfl)
theorem cl_PJ_243 : pj_gS RX10 243 yX10_rectangle cX10_rectangle 9 (some .long) 4 := ⟨(pj_m4 104 rfl rfl), wt_X10_rectangle, wi_X10, wc_X10_rectangle, nh_X10.1, nh_X10.2, pd_20⟩
theorem wc_X1_cutsAround : Cond.code yX1_cutsAround cX1_cutsAround 8 (some .int) ∈ pj_tbl := (pj_m4 108 rfl rfl)
theorem wm_X1_cutsAround : Cond.instanceMethod yX1_cutsAround ∈ pj_tbl := (pj_m4 106 rfl rfl)
theorem ws_X1_cutsAround : Cond.selects RX1 yX1_cutsAround yX1_cutsAround ∈ pj_tbl := (pj_m4 107 rfl rfl)
theorem cl_PJ_247 : pj_gV RX10 247 yX1_cutsAround cX1_cutsAround 8 (some .int) 1 := ⟨(pj_m4 105 rfl rfl), wm_X1_cutsAround, ws_X1_cutsAround, wi_X1, wc_X1_cutsAround, nh_X1.1, nh_X1.2, pd_18⟩
theorem wc_X9_fewestFor : Cond.code yX9_fewestFor cX9_fewestFor 6 (some .int) ∈ pj_tbl := (pj_m4 118 rfl rfl)
theorem wm_X9_fewestFor : Cond.instanceMethod yX9_fewestFor ∈ pj_tbl := (pj_m4 116 rfl rfl)
theorem ws_X9_fewestFor : Cond.selects RX9 yX9_fewestFor yX9_fewestFor ∈ pj_tbl := (pj_m4 117 rfl rfl)
theorem cl_PJ_250 : pj_gV RX10 250 yX9_fewestFor cX9_fewestFor 6 (some .int) 1 := ⟨(pj_m4 115 rfl rfl), wm_X9_fewestFor, ws_X9_fewestFor, wi_X9, wc_X9_fewestFor, nh_X9.1, nh_X9.2, pd_12⟩
theorem wc_X8_likelyQuiet : Cond.code yX8_likelyQuiet cX8_likelyQuiet 5 (some .int) ∈ pj_tbl := (pj_m4 131 rfl rfl)
theorem wm_X8_likelyQuiet : Cond.instanceMethod yX8_likelyQuiet ∈ pj_tbl := (pj_m4 129 rfl rfl)
theorem ws_X8_likelyQuiet : Cond.selects RX8 yX8_likelyQuiet yX8_likelyQuiet ∈ pj_tbl := (pj_m4 130 rfl rfl)
theorem cl_PJ_253 : pj_gV RX10 253 yX8_likelyQuiet cX8_likelyQuiet 5 (some .int) 0 := ⟨(pj_m4 128 rfl rfl), wm_X8_likelyQuiet, ws_X8_likelyQuiet, wi_X8, wc_X8_likelyQuiet, nh_X8.1, nh_X8.2, pd_8⟩
theorem wc_X1_firsts : Cond.code yX1_firsts cX1_firsts 6 (some .long) ∈ pj_tbl := (pj_m4 140 rfl rfl)
theorem wm_X1_firsts : Cond.instanceMethod yX1_firsts ∈ pj_tbl := (pj_m4 138 rfl rfl)
theorem ws_X1_firsts : Cond.selects RX1 yX1_firsts yX1_firsts ∈ pj_tbl := (pj_m4 139 rfl rfl)
theorem cl_PJ_256 : pj_gV RX10 256 yX1_firsts cX1_firsts 6 (some .long) 0 := ⟨(pj_m4 137 rfl rfl), wm_X1_firsts, ws_X1_firsts, wi_X1, wc_X1_firsts, nh_X1.1, nh_X1.2, pd_15⟩
theorem wc_X4_goBack : Cond.code yX4_goBack cX4_goBack 3 (some .boolean) ∈ pj_tbl := (pj_m4 149 rfl rfl)
theorem pd_21 : (parseMethodDescriptor "(LPulledJersey$Whole;)Z").map (fun d => d.parameters.length) = some 1 := by decide +kernel
theorem wm_X4_goBack : Cond.instanceMethod yX4_goBack ∈ pj_tbl := (pj_m4 147 rfl rfl)
theorem ws_X4_goBack : Cond.selects RX4 yX4_goBack yX4_goBack ∈ pj_tbl := (pj_m4 148 rfl rfl)
theorem cl_PJ_259 : pj_gV RX10 259 yX4_goBack cX4_goBack 3 (some .boolean) 1 := ⟨(pj_m4 146 rfl rfl), wm_X4_goBack, ws_X4_goBack, wi_X4, wc_X4_goBack, nh_X4.1, nh_X4.2, pd_21⟩
theorem wc_X8_copyFrom : Cond.code yX8_copyFrom cX8_copyFrom 2 none ∈ pj_tbl := (pj_m4 157 rfl rfl)
theorem wm_X8_copyFrom : Cond.instanceMethod yX8_copyFrom ∈ pj_tbl := (pj_m4 155 rfl rfl)
theorem ws_X8_copyFrom : Cond.selects RX8 yX8_copyFrom yX8_copyFrom ∈ pj_tbl := (pj_m4 156 rfl rfl)
theorem cl_PJ_263 : pj_gV RX10 263 yX8_copyFrom cX8_copyFrom 2 none 1 := ⟨(pj_m4 154 rfl rfl), wm_X8_copyFrom, ws_X8_copyFrom, wi_X8, wc_X8_copyFrom, nh_X8.1, nh_X8.2, pd_4⟩
theorem wc_X9_total : Cond.code yX9_total cX9_total 3 (some .int) ∈ pj_tbl := (pj_m4 180 rfl rfl)
theorem wm_X9_total : Cond.instanceMethod yX9_total ∈ pj_tbl := (pj_m4 178 rfl rfl)
theorem ws_X9_total : Cond.selects RX9 yX9_total yX9_total ∈ pj_tbl := (pj_m4 179 rfl rfl)
theorem cl_PJ_276 : pj_gV RX10 276 yX9_total cX9_total 3 (some .int) 0 := ⟨(pj_m4 177 rfl rfl), wm_X9_total, ws_X9_total, wi_X9, wc_X9_total, nh_X9.1, nh_X9.2, pd_8⟩
theorem wc_X1_tellKind : Cond.code yX1_tellKind cX1_tellKind 5 (some .boolean) ∈ pj_tbl := (pj_m2 148 rfl rfl)
theorem wm_X1_tellKind : Cond.instanceMethod yX1_tellKind ∈ pj_tbl := (pj_m2 146 rfl rfl)
theorem ws_X1_tellKind : Cond.selects RX1 yX1_tellKind yX1_tellKind ∈ pj_tbl := (pj_m2 147 rfl rfl)
theorem cl_PJ_279 : pj_gV RX10 279 yX1_tellKind cX1_tellKind 5 (some .boolean) 2 := ⟨(pj_m2 145 rfl rfl), wm_X1_tellKind, ws_X1_tellKind, wi_X1, wc_X1_tellKind, nh_X1.1, nh_X1.2, pd_5⟩
theorem wc_X1_tellCaught : Cond.code yX1_tellCaught cX1_tellCaught 5 (some .boolean) ∈ pj_tbl := (pj_m2 153 rfl rfl)
theorem wm_X1_tellCaught : Cond.instanceMethod yX1_tellCaught ∈ pj_tbl := (pj_m2 151 rfl rfl)
theorem ws_X1_tellCaught : Cond.selects RX1 yX1_tellCaught yX1_tellCaught ∈ pj_tbl := (pj_m2 152 rfl rfl)
theorem cl_PJ_282 : pj_gV RX10 282 yX1_tellCaught cX1_tellCaught 5 (some .boolean) 2 := ⟨(pj_m2 150 rfl rfl), wm_X1_tellCaught, ws_X1_tellCaught, wi_X1, wc_X1_tellCaught, nh_X1.1, nh_X1.2, pd_5⟩
theorem wc_X1_bringBack : Cond.code yX1_bringBack cX1_bringBack 2 none ∈ pj_tbl := (pj_m2 157 rfl rfl)
theorem wm_X1_bringBack : Cond.instanceMethod yX1_bringBack ∈ pj_tbl := (pj_m2 155 rfl rfl)
theorem ws_X1_bringBack : Cond.selects RX1 yX1_bringBack yX1_bringBack ∈ pj_tbl := (pj_m2 156 rfl rfl)
theorem cl_PJ_285 : pj_gV RX10 285 yX1_bringBack cX1_bringBack 2 none 1 := ⟨(pj_m2 154 rfl rfl), wm_X1_bringBack, ws_X1_bringBack, wi_X1, wc_X1_bringBack, nh_X1.1, nh_X1.2, pd_10⟩
theorem cl_Book_21 : pj_gA RX0 21 := ⟨(pj_m4 167 rfl rfl), (pj_m4 16 rfl rfl), (pj_m4 15 rfl rfl), (pj_m1 19 rfl rfl)⟩
theorem cl_Fabric_22 : pj_gN RX1 22 yX10_rectangle cX10_rectangle 9 (some .long) 4 := ⟨by decide +kernel, wt_X10_rectangle, wi_X10, wc_X10_rectangle, nh_X10.1, nh_X10.2, pd_20⟩
theorem cl_Fabric_48 : pj_gN RX1 48 yX10_bitOf cX10_bitOf 3 (some .int) 2 := ⟨by decide +kernel, wt_X10_bitOf, wi_X10, wc_X10_bitOf, nh_X10.1, nh_X10.2, pd_13⟩
theorem cl_Fabric_52 : pj_gV RX1 52 yX1_has cX1_has 2 (some .boolean) 1 := ⟨(pj_m2 166 rfl rfl), wm_X1_has, ws_X1_has, wi_X1, wc_X1_has, nh_X1.1, nh_X1.2, pd_2⟩
theorem wc_X1_loopsUnder : Cond.code yX1_loopsUnder cX1_loopsUnder 19 (some .long) ∈ pj_tbl := (pj_m2 223 rfl rfl)
theorem pd_22 : (parseMethodDescriptor "(J)J").map (fun d => d.parameters.length) = some 1 := by decide +kernel
theorem wm_X1_loopsUnder : Cond.instanceMethod yX1_loopsUnder ∈ pj_tbl := (pj_m2 221 rfl rfl)
theorem ws_X1_loopsUnder : Cond.selects RX1 yX1_loopsUnder yX1_loopsUnder ∈ pj_tbl := (pj_m2 222 rfl rfl)
theorem cl_Fabric_62 : pj_gV RX1 62 yX1_loopsUnder cX1_loopsUnder 19 (some .long) 1 := ⟨(pj_m2 220 rfl rfl), wm_X1_loopsUnder, ws_X1_loopsUnder, wi_X1, wc_X1_loopsUnder, nh_X1.1, nh_X1.2, pd_22⟩
theorem cl_Fabric_66 : pj_gV RX1 66 yX1_heldOf cX1_heldOf 7 (some .long) 2 := ⟨(pj_m3 23 rfl rfl), wm_X1_heldOf, ws_X1_heldOf, wi_X1, wc_X1_heldOf, nh_X1.1, nh_X1.2, pd_14⟩
theorem cl_Fabric_70 : pj_gV RX1 70 yX1_inTheEnd cX1_inTheEnd 10 (some .long) 2 := ⟨(pj_m4 141 rfl rfl), wm_X1_inTheEnd, ws_X1_inTheEnd, wi_X1, wc_X1_inTheEnd, nh_X1.1, nh_X1.2, pd_14⟩
theorem cl_Fabric_73 : pj_gV RX1 73 yX1_places cX1_places 1 (some .int) 0 := ⟨(pj_m2 191 rfl rfl), wm_X1_places, ws_X1_places, wi_X1, wc_X1_places, nh_X1.1, nh_X1.2, pd_8⟩
theorem wc_J9_min_7cf53 : Cond.code yJ9_min_7cf53 cJ9_min_7cf53 2 (some .int) ∈ pj_tbl := (pj_m2 173 rfl rfl)
theorem wi_J9 : Cond.initialized RJ9 ∈ pj_tbl := (pj_m1 13 rfl rfl)
theorem nh_J9 : RJ9 ≠ "java/lang/invoke/MethodHandle" ∧ RJ9 ≠ "java/lang/invoke/VarHandle" := by decide +kernel
theorem cl_Fabric_77 : pj_gS RX1 77 Lib.Math.min.name Lib.Math.min.code 2 (some .int) 2 := ⟨(pj_m2 231 rfl rfl), (pj_m2 172 rfl rfl), (pj_m1 13 rfl rfl), (pj_m2 173 rfl rfl), nh_J9.1, nh_J9.2, pd_17⟩
theorem cl_Fabric_83 : pj_gV RX1 83 yX1_stitchAt cX1_stitchAt 4 (some .int) 1 := ⟨(pj_m4 109 rfl rfl), wm_X1_stitchAt, ws_X1_stitchAt, wi_X1, wc_X1_stitchAt, nh_X1.1, nh_X1.2, pd_12⟩
theorem wc_X1_hasThreadBetween : Cond.code yX1_hasThreadBetween cX1_hasThreadBetween 3 (some .boolean) ∈ pj_tbl := (pj_m2 230 rfl rfl)
theorem wm_X1_hasThreadBetween : Cond.instanceMethod yX1_hasThreadBetween ∈ pj_tbl := (pj_m2 228 rfl rfl)
theorem ws_X1_hasThreadBetween : Cond.selects RX1 yX1_hasThreadBetween yX1_hasThreadBetween ∈ pj_tbl := (pj_m2 229 rfl rfl)
theorem cl_Fabric_87 : pj_gV RX1 87 yX1_hasThreadBetween cX1_hasThreadBetween 3 (some .boolean) 2 := ⟨(pj_m4 110 rfl rfl), wm_X1_hasThreadBetween, ws_X1_hasThreadBetween, wi_X1, wc_X1_hasThreadBetween, nh_X1.1, nh_X1.2, pd_5⟩
theorem cl_Fabric_95 : pj_gV RX1 95 yX1_kindOf cX1_kindOf 2 (some .int) 1 := ⟨(pj_m3 3 rfl rfl), wm_X1_kindOf, ws_X1_kindOf, wi_X1, wc_X1_kindOf, nh_X1.1, nh_X1.2, pd_12⟩
theorem cl_Fabric_98 : pj_gS RX1 98 yJ13_bitCount_95d88 cJ13_bitCount_95d88 2 (some .int) 1 := ⟨(pj_m3 64 rfl rfl), wt_J13_bitCount_95d88, wi_J13, wc_J13_bitCount_95d88, nh_J13.1, nh_J13.2, pd_18⟩
theorem cl_Law_25 : pj_gS RX2 25 Lib.Math.min.name Lib.Math.min.code 2 (some .int) 2 := ⟨(pj_m3 36 rfl rfl), (pj_m2 172 rfl rfl), (pj_m1 13 rfl rfl), (pj_m2 173 rfl rfl), nh_J9.1, nh_J9.2, pd_17⟩
theorem wc_J9_max_7cf53 : Cond.code yJ9_max_7cf53 cJ9_max_7cf53 2 (some .int) ∈ pj_tbl := (pj_m3 39 rfl rfl)
theorem cl_Law_31 : pj_gS RX2 31 Lib.Math.max.name Lib.Math.max.code 2 (some .int) 2 := ⟨(pj_m3 37 rfl rfl), (pj_m3 38 rfl rfl), (pj_m1 13 rfl rfl), (pj_m3 39 rfl rfl), nh_J9.1, nh_J9.2, pd_17⟩
theorem cl_Law_34 : pj_gA RX2 34 := ⟨(pj_m4 14 rfl rfl), (pj_m4 16 rfl rfl), (pj_m4 15 rfl rfl), (pj_m1 19 rfl rfl)⟩
theorem wc_X2_pop : Cond.code yX2_pop cX2_pop 1 (some .int) ∈ pj_tbl := (pj_m3 32 rfl rfl)
theorem wm_X2_pop : Cond.instanceMethod yX2_pop ∈ pj_tbl := (pj_m3 31 rfl rfl)
theorem ws_X2_pop : Cond.selects RX2 yX2_pop yX2_pop ∈ pj_tbl := (pj_mem 2 rfl rfl)
theorem cl_Law_43 : pj_gV RX2 43 yX2_pop cX2_pop 1 (some .int) 0 := ⟨(pj_m3 29 rfl rfl), wm_X2_pop, ws_X2_pop, wi_X2, wc_X2_pop, nh_X2.1, nh_X2.2, pd_8⟩
theorem wc_X2_heldToOdds : Cond.code yX2_heldToOdds cX2_heldToOdds 1 (some .int) ∈ pj_tbl := (pj_m3 35 rfl rfl)
theorem wt_X2_heldToOdds : Cond.static yX2_heldToOdds ∈ pj_tbl := (pj_m3 34 rfl rfl)
theorem cl_Law_47 : pj_gS RX2 47 yX2_heldToOdds cX2_heldToOdds 1 (some .int) 1 := ⟨(pj_m3 33 rfl rfl), wt_X2_heldToOdds, wi_X2, wc_X2_heldToOdds, nh_X2.1, nh_X2.2, pd_12⟩
theorem wc_X2_reckon : Cond.code yX2_reckon cX2_reckon 7 none ∈ pj_tbl := (pj_m3 43 rfl rfl)
theorem pd_23 : (parseMethodDescriptor "(ILPulledJersey$Fabric;II)V").map (fun d => d.parameters.length) = some 4 := by decide +kernel
theorem wm_X2_reckon : Cond.instanceMethod yX2_reckon ∈ pj_tbl := (pj_m3 42 rfl rfl)
theorem ws_X2_reckon : Cond.selects RX2 yX2_reckon yX2_reckon ∈ pj_tbl := (pj_mem 3 rfl rfl)
theorem cl_Law_51 : pj_gV RX2 51 yX2_reckon cX2_reckon 7 none 4 := ⟨(pj_m3 40 rfl rfl), wm_X2_reckon, ws_X2_reckon, wi_X2, wc_X2_reckon, nh_X2.1, nh_X2.2, pd_23⟩
theorem wc_X2_push : Cond.code yX2_push cX2_push 2 none ∈ pj_tbl := (pj_m3 47 rfl rfl)
theorem wm_X2_push : Cond.instanceMethod yX2_push ∈ pj_tbl := (pj_m3 46 rfl rfl)
theorem ws_X2_push : Cond.selects RX2 yX2_push yX2_push ∈ pj_tbl := (pj_mem 4 rfl rfl)
theorem cl_Law_55 : pj_gV RX2 55 yX2_push cX2_push 2 none 1 := ⟨(pj_m3 44 rfl rfl), wm_X2_push, ws_X2_push, wi_X2, wc_X2_push, nh_X2.1, nh_X2.2, pd_10⟩
theorem wc_X2_traitOf : Cond.code yX2_traitOf cX2_traitOf 4 (some .int) ∈ pj_tbl := (pj_m3 50 rfl rfl)
theorem pd_24 : (parseMethodDescriptor "(ILPulledJersey$Fabric;II)I").map (fun d => d.parameters.length) = some 4 := by decide +kernel
theorem wt_X2_traitOf : Cond.static yX2_traitOf ∈ pj_tbl := (pj_m3 49 rfl rfl)
theorem cl_Law_59 : pj_gS RX2 59 yX2_traitOf cX2_traitOf 4 (some .int) 4 := ⟨(pj_m3 48 rfl rfl), wt_X2_traitOf, wi_X2, wc_X2_traitOf, nh_X2.1, nh_X2.2, pd_24⟩
theorem wc_X2_ofTwo : Cond.code yX2_ofTwo cX2_ofTwo 3 (some .int) ∈ pj_tbl := (pj_m3 72 rfl rfl)
theorem pd_25 : (parseMethodDescriptor "(III)I").map (fun d => d.parameters.length) = some 3 := by decide +kernel
theorem wt_X2_ofTwo : Cond.static yX2_ofTwo ∈ pj_tbl := (pj_m3 71 rfl rfl)
theorem cl_Law_63 : pj_gS RX2 63 yX2_ofTwo cX2_ofTwo 3 (some .int) 3 := ⟨(pj_m3 70 rfl rfl), wt_X2_ofTwo, wi_X2, wc_X2_ofTwo, nh_X2.1, nh_X2.2, pd_25⟩
theorem cl_Law_67 : pj_gV RX2 67 yX1_kindOf cX1_kindOf 2 (some .int) 1 := ⟨(pj_m3 51 rfl rfl), wm_X1_kindOf, ws_X1_kindOf, wi_X1, wc_X1_kindOf, nh_X1.1, nh_X1.2, pd_12⟩
theorem wc_X1_besideOf : Cond.code yX1_besideOf cX1_besideOf 5 (some .int) ∈ pj_tbl := (pj_m3 55 rfl rfl)
theorem wm_X1_besideOf : Cond.instanceMethod yX1_besideOf ∈ pj_tbl := (pj_m3 53 rfl rfl)
theorem ws_X1_besideOf : Cond.selects RX1 yX1_besideOf yX1_besideOf ∈ pj_tbl := (pj_m3 54 rfl rfl)
theorem cl_Law_72 : pj_gV RX2 72 yX1_besideOf cX1_besideOf 5 (some .int) 1 := ⟨(pj_m3 52 rfl rfl), wm_X1_besideOf, ws_X1_besideOf, wi_X1, wc_X1_besideOf, nh_X1.1, nh_X1.2, pd_12⟩
theorem wc_X1_belowOf : Cond.code yX1_belowOf cX1_belowOf 2 (some .int) ∈ pj_tbl := (pj_m3 59 rfl rfl)
theorem wm_X1_belowOf : Cond.instanceMethod yX1_belowOf ∈ pj_tbl := (pj_m3 57 rfl rfl)
theorem ws_X1_belowOf : Cond.selects RX1 yX1_belowOf yX1_belowOf ∈ pj_tbl := (pj_m3 58 rfl rfl)
theorem cl_Law_75 : pj_gV RX2 75 yX1_belowOf cX1_belowOf 2 (some .int) 1 := ⟨(pj_m3 56 rfl rfl), wm_X1_belowOf, ws_X1_belowOf, wi_X1, wc_X1_belowOf, nh_X1.1, nh_X1.2, pd_12⟩
theorem wc_X1_goneInColumn : Cond.code yX1_goneInColumn cX1_goneInColumn 4 (some .int) ∈ pj_tbl := (pj_m3 63 rfl rfl)
theorem wm_X1_goneInColumn : Cond.instanceMethod yX1_goneInColumn ∈ pj_tbl := (pj_m3 61 rfl rfl)
theorem ws_X1_goneInColumn : Cond.selects RX1 yX1_goneInColumn yX1_goneInColumn ∈ pj_tbl := (pj_m3 62 rfl rfl)
theorem cl_Law_78 : pj_gV RX2 78 yX1_goneInColumn cX1_goneInColumn 4 (some .int) 1 := ⟨(pj_m3 60 rfl rfl), wm_X1_goneInColumn, ws_X1_goneInColumn, wi_X1, wc_X1_goneInColumn, nh_X1.1, nh_X1.2, pd_12⟩
theorem wc_X3_scan : Cond.code yX3_scan cX3_scan 6 none ∈ pj_tbl := (pj_m3 107 rfl rfl)
theorem pd_26 : (parseMethodDescriptor "(LPulledJersey$Tape;)V").map (fun d => d.parameters.length) = some 1 := by decide +kernel
theorem wm_X3_scan : Cond.instanceMethod yX3_scan ∈ pj_tbl := (pj_m3 106 rfl rfl)
theorem ws_X3_scan : Cond.selects RX3 yX3_scan yX3_scan ∈ pj_tbl := (pj_mem 6 rfl rfl)
theorem cl_Reader_40 : pj_gV RX3 40 yX3_scan cX3_scan 6 none 1 := ⟨(pj_m3 104 rfl rfl), wm_X3_scan, ws_X3_scan, wi_X3, wc_X3_scan, nh_X3.1, nh_X3.2, pd_26⟩
theorem wc_X3_token : Cond.code yX3_token cX3_token 1 (some .int) ∈ pj_tbl := (pj_m3 209 rfl rfl)
theorem wm_X3_token : Cond.instanceMethod yX3_token ∈ pj_tbl := (pj_m3 208 rfl rfl)
theorem ws_X3_token : Cond.selects RX3 yX3_token yX3_token ∈ pj_tbl := (pj_mem 7 rfl rfl)
theorem cl_Reader_44 : pj_gV RX3 44 yX3_token cX3_token 1 (some .int) 0 := ⟨(pj_m3 206 rfl rfl), wm_X3_token, ws_X3_token, wi_X3, wc_X3_token, nh_X3.1, nh_X3.2, pd_8⟩
theorem wc_X3_readLine : Cond.code yX3_readLine cX3_readLine 2 (some .boolean) ∈ pj_tbl := (pj_m3 213 rfl rfl)
theorem wm_X3_readLine : Cond.instanceMethod yX3_readLine ∈ pj_tbl := (pj_m3 212 rfl rfl)
theorem ws_X3_readLine : Cond.selects RX3 yX3_readLine yX3_readLine ∈ pj_tbl := (pj_mem 8 rfl rfl)
theorem cl_Reader_48 : pj_gV RX3 48 yX3_readLine cX3_readLine 2 (some .boolean) 0 := ⟨(pj_m3 210 rfl rfl), wm_X3_readLine, ws_X3_readLine, wi_X3, wc_X3_readLine, nh_X3.1, nh_X3.2, pd_9⟩
theorem wc_X2_take : Cond.code yX2_take cX2_take 4 none ∈ pj_tbl := (pj_m4 13 rfl rfl)
theorem pd_27 : (parseMethodDescriptor "([III)V").map (fun d => d.parameters.length) = some 3 := by decide +kernel
theorem wm_X2_take : Cond.instanceMethod yX2_take ∈ pj_tbl := (pj_m4 11 rfl rfl)
theorem ws_X2_take : Cond.selects RX2 yX2_take yX2_take ∈ pj_tbl := (pj_m4 12 rfl rfl)
theorem cl_Reader_52 : pj_gV RX3 52 yX2_take cX2_take 4 none 3 := ⟨(pj_m4 10 rfl rfl), wm_X2_take, ws_X2_take, wi_X2, wc_X2_take, nh_X2.1, nh_X2.2, pd_27⟩
theorem wc_X7_behindBlanks : Cond.code yX7_behindBlanks cX7_behindBlanks 3 (some .int) ∈ pj_tbl := (pj_m3 111 rfl rfl)
theorem wm_X7_behindBlanks : Cond.instanceMethod yX7_behindBlanks ∈ pj_tbl := (pj_m3 109 rfl rfl)
theorem ws_X7_behindBlanks : Cond.selects RX7 yX7_behindBlanks yX7_behindBlanks ∈ pj_tbl := (pj_m3 110 rfl rfl)
theorem cl_Reader_61 : pj_gV RX3 61 yX7_behindBlanks cX7_behindBlanks 3 (some .int) 1 := ⟨(pj_m3 108 rfl rfl), wm_X7_behindBlanks, ws_X7_behindBlanks, wi_X7, wc_X7_behindBlanks, nh_X7.1, nh_X7.2, pd_12⟩
theorem wc_X7_behindToken : Cond.code yX7_behindToken cX7_behindToken 4 (some .int) ∈ pj_tbl := (pj_m3 119 rfl rfl)
theorem wm_X7_behindToken : Cond.instanceMethod yX7_behindToken ∈ pj_tbl := (pj_m3 117 rfl rfl)
theorem ws_X7_behindToken : Cond.selects RX7 yX7_behindToken yX7_behindToken ∈ pj_tbl := (pj_m3 118 rfl rfl)
theorem cl_Reader_67 : pj_gV RX3 67 yX7_behindToken cX7_behindToken 4 (some .int) 1 := ⟨(pj_m3 116 rfl rfl), wm_X7_behindToken, ws_X7_behindToken, wi_X7, wc_X7_behindToken, nh_X7.1, nh_X7.2, pd_12⟩
theorem wc_X3_tokenOf : Cond.code yX3_tokenOf cX3_tokenOf 4 (some .int) ∈ pj_tbl := (pj_m3 128 rfl rfl)
theorem pd_28 : (parseMethodDescriptor "(LPulledJersey$Tape;II)I").map (fun d => d.parameters.length) = some 3 := by decide +kernel
theorem wt_X3_tokenOf : Cond.static yX3_tokenOf ∈ pj_tbl := (pj_m3 127 rfl rfl)
theorem cl_Reader_70 : pj_gS RX3 70 yX3_tokenOf cX3_tokenOf 4 (some .int) 3 := ⟨(pj_m3 126 rfl rfl), wt_X3_tokenOf, wi_X3, wc_X3_tokenOf, nh_X3.1, nh_X3.2, pd_28⟩
theorem wc_X7_numberAt : Cond.code yX7_numberAt cX7_numberAt 5 (some .int) ∈ pj_tbl := (pj_m3 205 rfl rfl)
theorem wm_X7_numberAt : Cond.instanceMethod yX7_numberAt ∈ pj_tbl := (pj_m3 203 rfl rfl)
theorem ws_X7_numberAt : Cond.selects RX7 yX7_numberAt yX7_numberAt ∈ pj_tbl := (pj_m3 204 rfl rfl)
theorem cl_Reader_74 : pj_gV RX3 74 yX7_numberAt cX7_numberAt 5 (some .int) 2 := ⟨(pj_m3 202 rfl rfl), wm_X7_numberAt, ws_X7_numberAt, wi_X7, wc_X7_numberAt, nh_X7.1, nh_X7.2, pd_17⟩
theorem wc_X7_signAt : Cond.code yX7_signAt cX7_signAt 2 (some .int) ∈ pj_tbl := (pj_m3 115 rfl rfl)
theorem wm_X7_signAt : Cond.instanceMethod yX7_signAt ∈ pj_tbl := (pj_m3 113 rfl rfl)
theorem ws_X7_signAt : Cond.selects RX7 yX7_signAt yX7_signAt ∈ pj_tbl := (pj_m3 114 rfl rfl)
theorem cl_Reader_78 : pj_gV RX3 78 yX7_signAt cX7_signAt 2 (some .int) 1 := ⟨(pj_m3 129 rfl rfl), wm_X7_signAt, ws_X7_signAt, wi_X7, wc_X7_signAt, nh_X7.1, nh_X7.2, pd_12⟩
theorem wc_X7_isLetter : Cond.code yX7_isLetter cX7_isLetter 1 (some .boolean) ∈ pj_tbl := (pj_m3 122 rfl rfl)
theorem wt_X7_isLetter : Cond.static yX7_isLetter ∈ pj_tbl := (pj_m3 121 rfl rfl)
theorem cl_Reader_81 : pj_gS RX3 81 yX7_isLetter cX7_isLetter 1 (some .boolean) 1 := ⟨(pj_m3 130 rfl rfl), wt_X7_isLetter, wi_X7, wc_X7_isLetter, nh_X7.1, nh_X7.2, pd_2⟩
theorem wc_X3_wordOf : Cond.code yX3_wordOf cX3_wordOf 3 (some .int) ∈ pj_tbl := (pj_m3 133 rfl rfl)
theorem wt_X3_wordOf : Cond.static yX3_wordOf ∈ pj_tbl := (pj_m3 132 rfl rfl)
theorem cl_Reader_85 : pj_gS RX3 85 yX3_wordOf cX3_wordOf 3 (some .int) 3 := ⟨(pj_m3 131 rfl rfl), wt_X3_wordOf, wi_X3, wc_X3_wordOf, nh_X3.1, nh_X3.2, pd_28⟩
theorem wc_X7_isDigit : Cond.code yX7_isDigit cX7_isDigit 1 (some .boolean) ∈ pj_tbl := (pj_m3 125 rfl rfl)
theorem wt_X7_isDigit : Cond.static yX7_isDigit ∈ pj_tbl := (pj_m3 124 rfl rfl)
theorem cl_Reader_88 : pj_gS RX3 88 yX7_isDigit cX7_isDigit 1 (some .boolean) 1 := ⟨(pj_m3 201 rfl rfl), wt_X7_isDigit, wi_X7, wc_X7_isDigit, nh_X7.1, nh_X7.2, pd_2⟩
theorem wc_X7_spells : Cond.code yX7_spells cX7_spells 5 (some .boolean) ∈ pj_tbl := (pj_m3 138 rfl rfl)
theorem pd_29 : (parseMethodDescriptor "(Ljava/lang/String;II)Z").map (fun d => d.parameters.length) = some 3 := by decide +kernel
theorem wm_X7_spells : Cond.instanceMethod yX7_spells ∈ pj_tbl := (pj_m3 136 rfl rfl)
theorem ws_X7_spells : Cond.selects RX7 yX7_spells yX7_spells ∈ pj_tbl := (pj_m3 137 rfl rfl)
theorem cl_Reader_93 : pj_gV RX3 93 yX7_spells cX7_spells 5 (some .boolean) 3 := ⟨(pj_m3 135 rfl rfl), wm_X7_spells, ws_X7_spells, wi_X7, wc_X7_spells, nh_X7.1, nh_X7.2, pd_29⟩
theorem wc_X3_traitWordOf : Cond.code yX3_traitWordOf cX3_traitWordOf 3 (some .int) ∈ pj_tbl := (pj_m3 193 rfl rfl)
theorem wt_X3_traitWordOf : Cond.static yX3_traitWordOf ∈ pj_tbl := (pj_m3 192 rfl rfl)
theorem cl_Reader_105 : pj_gS RX3 105 yX3_traitWordOf cX3_traitWordOf 3 (some .int) 3 := ⟨(pj_m3 191 rfl rfl), wt_X3_traitWordOf, wi_X3, wc_X3_traitWordOf, nh_X3.1, nh_X3.2, pd_28⟩
theorem wc_X3_fails : Cond.code yX3_fails cX3_fails 2 (some .boolean) ∈ pj_tbl := (pj_m3 217 rfl rfl)
theorem wm_X3_fails : Cond.instanceMethod yX3_fails ∈ pj_tbl := (pj_m3 216 rfl rfl)
theorem ws_X3_fails : Cond.selects RX3 yX3_fails yX3_fails ∈ pj_tbl := (pj_mem 9 rfl rfl)
theorem cl_Reader_122 : pj_gV RX3 122 yX3_fails cX3_fails 2 (some .boolean) 1 := ⟨(pj_m3 214 rfl rfl), wm_X3_fails, ws_X3_fails, wi_X3, wc_X3_fails, nh_X3.1, nh_X3.2, pd_2⟩
theorem wc_X3_readSum : Cond.code yX3_readSum cX3_readSum 4 (some .boolean) ∈ pj_tbl := (pj_m3 221 rfl rfl)
theorem wm_X3_readSum : Cond.instanceMethod yX3_readSum ∈ pj_tbl := (pj_m3 220 rfl rfl)
theorem ws_X3_readSum : Cond.selects RX3 yX3_readSum yX3_readSum ∈ pj_tbl := (pj_mem 10 rfl rfl)
theorem cl_Reader_125 : pj_gV RX3 125 yX3_readSum cX3_readSum 4 (some .boolean) 0 := ⟨(pj_m3 218 rfl rfl), wm_X3_readSum, ws_X3_readSum, wi_X3, wc_X3_readSum, nh_X3.1, nh_X3.2, pd_9⟩
theorem wc_X3_readCondition : Cond.code yX3_readCondition cX3_readCondition 5 (some .boolean) ∈ pj_tbl := (pj_m4 1 rfl rfl)
theorem wm_X3_readCondition : Cond.instanceMethod yX3_readCondition ∈ pj_tbl := (pj_m4 0 rfl rfl)
theorem ws_X3_readCondition : Cond.selects RX3 yX3_readCondition yX3_readCondition ∈ pj_tbl := (pj_mem 15 rfl rfl)
theorem cl_Reader_128 : pj_gV RX3 128 yX3_readCondition cX3_readCondition 5 (some .boolean) 1 := ⟨(pj_m3 238 rfl rfl), wm_X3_readCondition, ws_X3_readCondition, wi_X3, wc_X3_readCondition, nh_X3.1, nh_X3.2, pd_2⟩
theorem wc_X3_emit : Cond.code yX3_emit cX3_emit 2 none ∈ pj_tbl := (pj_m3 233 rfl rfl)
theorem wm_X3_emit : Cond.instanceMethod yX3_emit ∈ pj_tbl := (pj_m3 232 rfl rfl)
theorem ws_X3_emit : Cond.selects RX3 yX3_emit yX3_emit ∈ pj_tbl := (pj_mem 13 rfl rfl)
theorem cl_Reader_131 : pj_gV RX3 131 yX3_emit cX3_emit 2 none 1 := ⟨(pj_m3 230 rfl rfl), wm_X3_emit, ws_X3_emit, wi_X3, wc_X3_emit, nh_X3.1, nh_X3.2, pd_10⟩
theorem wc_X3_readSign : Cond.code yX3_readSign cX3_readSign 2 (some .boolean) ∈ pj_tbl := (pj_m4 9 rfl rfl)
theorem wm_X3_readSign : Cond.instanceMethod yX3_readSign ∈ pj_tbl := (pj_m4 8 rfl rfl)
theorem ws_X3_readSign : Cond.selects RX3 yX3_readSign yX3_readSign ∈ pj_tbl := (pj_mem 17 rfl rfl)
theorem cl_Reader_135 : pj_gV RX3 135 yX3_readSign cX3_readSign 2 (some .boolean) 1 := ⟨(pj_m4 6 rfl rfl), wm_X3_readSign, ws_X3_readSign, wi_X3, wc_X3_readSign, nh_X3.1, nh_X3.2, pd_2⟩
theorem wc_X3_readClause : Cond.code yX3_readClause cX3_readClause 4 (some .boolean) ∈ pj_tbl := (pj_m4 5 rfl rfl)
theorem wm_X3_readClause : Cond.instanceMethod yX3_readClause ∈ pj_tbl := (pj_m4 4 rfl rfl)
theorem ws_X3_readClause : Cond.selects RX3 yX3_readClause yX3_readClause ∈ pj_tbl := (pj_mem 16 rfl rfl)
theorem cl_Reader_138 : pj_gV RX3 138 yX3_readClause cX3_readClause 4 (some .boolean) 1 := ⟨(pj_m4 2 rfl rfl), wm_X3_readClause, ws_X3_readClause, wi_X3, wc_X3_readClause, nh_X3.1, nh_X3.2, pd_2⟩
theorem wc_X3_readUnit : Cond.code yX3_readUnit cX3_readUnit 2 (some .boolean) ∈ pj_tbl := (pj_m3 225 rfl rfl)
theorem wm_X3_readUnit : Cond.instanceMethod yX3_readUnit ∈ pj_tbl := (pj_m3 224 rfl rfl)
theorem ws_X3_readUnit : Cond.selects RX3 yX3_readUnit yX3_readUnit ∈ pj_tbl := (pj_mem 11 rfl rfl)
theorem cl_Reader_141 : pj_gV RX3 141 yX3_readUnit cX3_readUnit 2 (some .boolean) 0 := ⟨(pj_m3 222 rfl rfl), wm_X3_readUnit, ws_X3_readUnit, wi_X3, wc_X3_readUnit, nh_X3.1, nh_X3.2, pd_9⟩
theorem wc_X3_readDivisor : Cond.code yX3_readDivisor cX3_readDivisor 1 (some .boolean) ∈ pj_tbl := (pj_m3 237 rfl rfl)
theorem wm_X3_readDivisor : Cond.instanceMethod yX3_readDivisor ∈ pj_tbl := (pj_m3 236 rfl rfl)
theorem ws_X3_readDivisor : Cond.selects RX3 yX3_readDivisor yX3_readDivisor ∈ pj_tbl := (pj_mem 14 rfl rfl)
theorem cl_Reader_144 : pj_gV RX3 144 yX3_readDivisor cX3_readDivisor 1 (some .boolean) 0 := ⟨(pj_m3 234 rfl rfl), wm_X3_readDivisor, ws_X3_readDivisor, wi_X3, wc_X3_readDivisor, nh_X3.1, nh_X3.2, pd_9⟩
theorem wc_X3_value : Cond.code yX3_value cX3_value 1 (some .int) ∈ pj_tbl := (pj_m3 229 rfl rfl)
theorem wm_X3_value : Cond.instanceMethod yX3_value ∈ pj_tbl := (pj_m3 228 rfl rfl)
theorem ws_X3_value : Cond.selects RX3 yX3_value yX3_value ∈ pj_tbl := (pj_mem 12 rfl rfl)
theorem cl_Reader_147 : pj_gV RX3 147 yX3_value cX3_value 1 (some .int) 0 := ⟨(pj_m3 226 rfl rfl), wm_X3_value, ws_X3_value, wi_X3, wc_X3_value, nh_X3.1, nh_X3.2, pd_8⟩
theorem cl_Past_74 : pj_gS RX4 74 Lib.Math.min.name Lib.Math.min.code 2 (some .int) 2 := ⟨(pj_m2 171 rfl rfl), (pj_m2 172 rfl rfl), (pj_m1 13 rfl rfl), (pj_m2 173 rfl rfl), nh_J9.1, nh_J9.2, pd_17⟩
theorem cl_Puller_32 : pj_gV RX5 32 yX1_stitchAt cX1_stitchAt 4 (some .int) 1 := ⟨(pj_m2 207 rfl rfl), wm_X1_stitchAt, ws_X1_stitchAt, wi_X1, wc_X1_stitchAt, nh_X1.1, nh_X1.2, pd_12⟩
theorem wc_X5_comesUndone : Cond.code yX5_comesUndone cX5_comesUndone 3 (some .boolean) ∈ pj_tbl := (pj_m2 214 rfl rfl)
theorem pd_30 : (parseMethodDescriptor "(LPulledJersey$Fabric;I)Z").map (fun d => d.parameters.length) = some 2 := by decide +kernel
theorem wm_X5_comesUndone : Cond.instanceMethod yX5_comesUndone ∈ pj_tbl := (pj_m2 213 rfl rfl)
theorem ws_X5_comesUndone : Cond.selects RX5 yX5_comesUndone yX5_comesUndone ∈ pj_tbl := (pj_mem 1 rfl rfl)
theorem cl_Puller_36 : pj_gV RX5 36 yX5_comesUndone cX5_comesUndone 3 (some .boolean) 2 := ⟨(pj_m2 211 rfl rfl), wm_X5_comesUndone, ws_X5_comesUndone, wi_X5, wc_X5_comesUndone, nh_X5.1, nh_X5.2, pd_30⟩
theorem cl_Puller_40 : pj_gV RX5 40 yX1_hasThreadBetween cX1_hasThreadBetween 3 (some .boolean) 2 := ⟨(pj_m2 227 rfl rfl), wm_X1_hasThreadBetween, ws_X1_hasThreadBetween, wi_X1, wc_X1_hasThreadBetween, nh_X1.1, nh_X1.2, pd_5⟩
theorem cl_Puller_44 : pj_gN RX5 44 yX10_bitOf cX10_bitOf 3 (some .int) 2 := ⟨by decide +kernel, wt_X10_bitOf, wi_X10, wc_X10_bitOf, nh_X10.1, nh_X10.2, pd_13⟩
theorem cl_Puller_51 : pj_gV RX5 51 yX1_heldOf cX1_heldOf 7 (some .long) 2 := ⟨(pj_m2 216 rfl rfl), wm_X1_heldOf, ws_X1_heldOf, wi_X1, wc_X1_heldOf, nh_X1.1, nh_X1.2, pd_14⟩
theorem cl_Saver_29 : pj_gS RX6 29 yJ13_bitCount_95d88 cJ13_bitCount_95d88 2 (some .int) 1 := ⟨(pj_m4 78 rfl rfl), wt_J13_bitCount_95d88, wi_J13, wc_J13_bitCount_95d88, nh_J13.1, nh_J13.2, pd_18⟩
theorem cl_Saver_35 : pj_gS RX6 35 Lib.Math.min.name Lib.Math.min.code 2 (some .int) 2 := ⟨(pj_m4 79 rfl rfl), (pj_m2 172 rfl rfl), (pj_m1 13 rfl rfl), (pj_m2 173 rfl rfl), nh_J9.1, nh_J9.2, pd_17⟩
theorem wc_X6_goingWith : Cond.code yX6_goingWith cX6_goingWith 3 (some .long) ∈ pj_tbl := (pj_m4 82 rfl rfl)
theorem pd_31 : (parseMethodDescriptor "(LPulledJersey$Fabric;J)J").map (fun d => d.parameters.length) = some 2 := by decide +kernel
theorem wt_X6_goingWith : Cond.static yX6_goingWith ∈ pj_tbl := (pj_m4 81 rfl rfl)
theorem cl_Saver_41 : pj_gS RX6 41 yX6_goingWith cX6_goingWith 3 (some .long) 2 := ⟨(pj_m4 80 rfl rfl), wt_X6_goingWith, wi_X6, wc_X6_goingWith, nh_X6.1, nh_X6.2, pd_31⟩
theorem wc_X6_choose : Cond.code yX6_choose cX6_choose 16 none ∈ pj_tbl := (pj_m4 87 rfl rfl)
theorem pd_32 : (parseMethodDescriptor "(LPulledJersey$Fabric;JIJJ)V").map (fun d => d.parameters.length) = some 5 := by decide +kernel
theorem wm_X6_choose : Cond.instanceMethod yX6_choose ∈ pj_tbl := (pj_m4 86 rfl rfl)
theorem ws_X6_choose : Cond.selects RX6 yX6_choose yX6_choose ∈ pj_tbl := (pj_mem 18 rfl rfl)
theorem cl_Saver_45 : pj_gV RX6 45 yX6_choose cX6_choose 16 none 5 := ⟨(pj_m4 84 rfl rfl), wm_X6_choose, ws_X6_choose, wi_X6, wc_X6_choose, nh_X6.1, nh_X6.2, pd_32⟩
theorem cl_Saver_49 : pj_gV RX6 49 yX1_inTheEnd cX1_inTheEnd 10 (some .long) 2 := ⟨(pj_m4 83 rfl rfl), wm_X1_inTheEnd, ws_X1_inTheEnd, wi_X1, wc_X1_inTheEnd, nh_X1.1, nh_X1.2, pd_14⟩
theorem cl_Tape_19 : pj_gV RX7 19 yX7_signAt cX7_signAt 2 (some .int) 1 := ⟨(pj_m3 112 rfl rfl), wm_X7_signAt, ws_X7_signAt, wi_X7, wc_X7_signAt, nh_X7.1, nh_X7.2, pd_12⟩
theorem cl_Tape_23 : pj_gS RX7 23 yX7_isLetter cX7_isLetter 1 (some .boolean) 1 := ⟨(pj_m3 120 rfl rfl), wt_X7_isLetter, wi_X7, wc_X7_isLetter, nh_X7.1, nh_X7.2, pd_2⟩
theorem cl_Tape_27 : pj_gS RX7 27 yX7_isDigit cX7_isDigit 1 (some .boolean) 1 := ⟨(pj_m3 123 rfl rfl), wt_X7_isDigit, wi_X7, wc_X7_isDigit, nh_X7.1, nh_X7.2, pd_2⟩
theorem wc_J0_length_8abf5 : Cond.code yJ0_length_8abf5 cJ0_length_8abf5 1 (some .int) ∈ pj_tbl := (pj_m3 142 rfl rfl)
theorem wi_J0 : Cond.initialized RJ0 ∈ pj_tbl := (pj_m1 15 rfl rfl)
theorem nh_J0 : RJ0 ≠ "java/lang/invoke/MethodHandle" ∧ RJ0 ≠ "java/lang/invoke/VarHandle" := by decide +kernel
theorem wm_J0_length_8abf5 : Cond.instanceMethod yJ0_length_8abf5 ∈ pj_tbl := (pj_m3 140 rfl rfl)
theorem ws_J0_length_8abf5 : Cond.selects RJ0 yJ0_length_8abf5 yJ0_length_8abf5 ∈ pj_tbl := (pj_m3 141 rfl rfl)
theorem cl_Tape_30 : pj_gV RX7 30 yJ0_length_8abf5 cJ0_length_8abf5 1 (some .int) 0 := ⟨(pj_m3 139 rfl rfl), wm_J0_length_8abf5, ws_J0_length_8abf5, wi_J0, wc_J0_length_8abf5, nh_J0.1, nh_J0.2, pd_8⟩
theorem wc_J0_charAt_5068e : Cond.code yJ0_charAt_5068e cJ0_charAt_5068e 2 (some .char) ∈ pj_tbl := (pj_m3 152 rfl rfl)
theorem pd_33 : (parseMethodDescriptor "(I)C").map (fun d => d.parameters.length) = some 1 := by decide +kernel
theorem wm_J0_charAt_5068e : Cond.instanceMethod yJ0_charAt_5068e ∈ pj_tbl := (pj_m3 150 rfl rfl)
theorem ws_J0_charAt_5068e : Cond.selects RJ0 yJ0_charAt_5068e yJ0_charAt_5068e ∈ pj_tbl := (pj_m3 151 rfl rfl)
theorem cl_Tape_35 : pj_gV RX7 35 yJ0_charAt_5068e cJ0_charAt_5068e 2 (some .char) 1 := ⟨(pj_m3 149 rfl rfl), wm_J0_charAt_5068e, ws_J0_charAt_5068e, wi_J0, wc_J0_charAt_5068e, nh_J0.1, nh_J0.2, pd_33⟩
theorem wc_X1_begin : Cond.code yX1_begin cX1_begin 3 none ∈ pj_tbl := (pj_m2 81 rfl rfl)
theorem wm_X1_begin : Cond.instanceMethod yX1_begin ∈ pj_tbl := (pj_m2 79 rfl rfl)
theorem ws_X1_begin : Cond.selects RX1 yX1_begin yX1_begin ∈ pj_tbl := (pj_m2 80 rfl rfl)
theorem cl_Whole_39 : pj_gV RX8 39 yX1_begin cX1_begin 3 none 2 := ⟨(pj_m2 78 rfl rfl), wm_X1_begin, ws_X1_begin, wi_X1, wc_X1_begin, nh_X1.1, nh_X1.2, pd_0⟩
theorem wc_X2_clear : Cond.code yX2_clear cX2_clear 1 none ∈ pj_tbl := (pj_m2 88 rfl rfl)
theorem wm_X2_clear : Cond.instanceMethod yX2_clear ∈ pj_tbl := (pj_m2 86 rfl rfl)
theorem ws_X2_clear : Cond.selects RX2 yX2_clear yX2_clear ∈ pj_tbl := (pj_m2 87 rfl rfl)
theorem cl_Whole_43 : pj_gV RX8 43 yX2_clear cX2_clear 1 none 0 := ⟨(pj_m2 85 rfl rfl), wm_X2_clear, ws_X2_clear, wi_X2, wc_X2_clear, nh_X2.1, nh_X2.2, pd_1⟩
theorem wc_X1_copyFrom : Cond.code yX1_copyFrom cX1_copyFrom 2 none ∈ pj_tbl := (pj_m4 161 rfl rfl)
theorem pd_34 : (parseMethodDescriptor "(LPulledJersey$Fabric;)V").map (fun d => d.parameters.length) = some 1 := by decide +kernel
theorem wm_X1_copyFrom : Cond.instanceMethod yX1_copyFrom ∈ pj_tbl := (pj_m4 159 rfl rfl)
theorem ws_X1_copyFrom : Cond.selects RX1 yX1_copyFrom yX1_copyFrom ∈ pj_tbl := (pj_m4 160 rfl rfl)
theorem cl_Whole_54 : pj_gV RX8 54 yX1_copyFrom cX1_copyFrom 2 none 1 := ⟨(pj_m4 158 rfl rfl), wm_X1_copyFrom, ws_X1_copyFrom, wi_X1, wc_X1_copyFrom, nh_X1.1, nh_X1.2, pd_34⟩
theorem cl_Whole_68 : pj_gV RX8 68 yX2_take cX2_take 4 none 3 := ⟨(pj_m4 162 rfl rfl), wm_X2_take, ws_X2_take, wi_X2, wc_X2_take, nh_X2.1, nh_X2.2, pd_27⟩
theorem wc_X0_copyFrom : Cond.code yX0_copyFrom cX0_copyFrom 2 none ∈ pj_tbl := (pj_m4 166 rfl rfl)
theorem pd_35 : (parseMethodDescriptor "(LPulledJersey$Book;)V").map (fun d => d.parameters.length) = some 1 := by decide +kernel
theorem wm_X0_copyFrom : Cond.instanceMethod yX0_copyFrom ∈ pj_tbl := (pj_m4 164 rfl rfl)
theorem ws_X0_copyFrom : Cond.selects RX0 yX0_copyFrom yX0_copyFrom ∈ pj_tbl := (pj_m4 165 rfl rfl)
theorem cl_Whole_72 : pj_gV RX8 72 yX0_copyFrom cX0_copyFrom 2 none 1 := ⟨(pj_m4 163 rfl rfl), wm_X0_copyFrom, ws_X0_copyFrom, wi_X0, wc_X0_copyFrom, nh_X0.1, nh_X0.2, pd_35⟩
theorem wc_X9_copyFrom : Cond.code yX9_copyFrom cX9_copyFrom 2 none ∈ pj_tbl := (pj_m4 171 rfl rfl)
theorem pd_36 : (parseMethodDescriptor "(LPulledJersey$Wool;)V").map (fun d => d.parameters.length) = some 1 := by decide +kernel
theorem wm_X9_copyFrom : Cond.instanceMethod yX9_copyFrom ∈ pj_tbl := (pj_m4 169 rfl rfl)
theorem ws_X9_copyFrom : Cond.selects RX9 yX9_copyFrom yX9_copyFrom ∈ pj_tbl := (pj_m4 170 rfl rfl)
theorem cl_Whole_75 : pj_gV RX8 75 yX9_copyFrom cX9_copyFrom 2 none 1 := ⟨(pj_m4 168 rfl rfl), wm_X9_copyFrom, ws_X9_copyFrom, wi_X9, wc_X9_copyFrom, nh_X9.1, nh_X9.2, pd_36⟩
theorem wc_X0_note : Cond.code yX0_note cX0_note 4 none ∈ pj_tbl := (pj_m2 182 rfl rfl)
theorem pd_37 : (parseMethodDescriptor "(III)V").map (fun d => d.parameters.length) = some 3 := by decide +kernel
theorem wm_X0_note : Cond.instanceMethod yX0_note ∈ pj_tbl := (pj_m2 180 rfl rfl)
theorem ws_X0_note : Cond.selects RX0 yX0_note yX0_note ∈ pj_tbl := (pj_m2 181 rfl rfl)
theorem cl_Whole_87 : pj_gV RX8 87 yX0_note cX0_note 4 none 3 := ⟨(pj_m2 179 rfl rfl), wm_X0_note, ws_X0_note, wi_X0, wc_X0_note, nh_X0.1, nh_X0.2, pd_37⟩
theorem cl_Whole_97 : pj_gV RX8 97 yX8_letGo cX8_letGo 3 none 2 := ⟨(pj_m2 236 rfl rfl), wm_X8_letGo, ws_X8_letGo, wi_X8, wc_X8_letGo, nh_X8.1, nh_X8.2, pd_0⟩
theorem wc_X1_wind : Cond.code yX1_wind cX1_wind 5 (some .int) ∈ pj_tbl := (pj_m3 0 rfl rfl)
theorem wm_X1_wind : Cond.instanceMethod yX1_wind ∈ pj_tbl := (pj_m2 238 rfl rfl)
theorem ws_X1_wind : Cond.selects RX1 yX1_wind yX1_wind ∈ pj_tbl := (pj_m2 239 rfl rfl)
theorem cl_Whole_103 : pj_gV RX8 103 yX1_wind cX1_wind 5 (some .int) 1 := ⟨(pj_m2 237 rfl rfl), wm_X1_wind, ws_X1_wind, wi_X1, wc_X1_wind, nh_X1.1, nh_X1.2, pd_18⟩
theorem wc_X9_note : Cond.code yX9_note cX9_note 2 none ∈ pj_tbl := (pj_m3 10 rfl rfl)
theorem wm_X9_note : Cond.instanceMethod yX9_note ∈ pj_tbl := (pj_m3 8 rfl rfl)
theorem ws_X9_note : Cond.selects RX9 yX9_note yX9_note ∈ pj_tbl := (pj_m3 9 rfl rfl)
theorem cl_Whole_107 : pj_gV RX8 107 yX9_note cX9_note 2 none 1 := ⟨(pj_m3 7 rfl rfl), wm_X9_note, ws_X9_note, wi_X9, wc_X9_note, nh_X9.1, nh_X9.2, pd_10⟩
theorem cl_Whole_112 : pj_gV RX8 112 yX1_loose cX1_loose 1 (some .long) 0 := ⟨(pj_m3 19 rfl rfl), wm_X1_loose, ws_X1_loose, wi_X1, wc_X1_loose, nh_X1.1, nh_X1.2, pd_15⟩
theorem cl_Whole_116 : pj_gN RX8 116 yX10_bitOf cX10_bitOf 3 (some .int) 2 := ⟨by decide +kernel, wt_X10_bitOf, wi_X10, wc_X10_bitOf, nh_X10.1, nh_X10.2, pd_13⟩
theorem cl_Whole_120 : pj_gV RX8 120 yX2_oddsOf cX2_oddsOf 8 (some .int) 3 := ⟨(pj_m3 25 rfl rfl), wm_X2_oddsOf, ws_X2_oddsOf, wi_X2, wc_X2_oddsOf, nh_X2.1, nh_X2.2, pd_16⟩
theorem wc_X8_draw : Cond.code yX8_draw cX8_draw 2 (some .int) ∈ pj_tbl := (pj_m3 76 rfl rfl)
theorem wm_X8_draw : Cond.instanceMethod yX8_draw ∈ pj_tbl := (pj_m3 75 rfl rfl)
theorem ws_X8_draw : Cond.selects RX8 yX8_draw yX8_draw ∈ pj_tbl := (pj_mem 5 rfl rfl)
theorem cl_Whole_124 : pj_gV RX8 124 yX8_draw cX8_draw 2 (some .int) 1 := ⟨(pj_m3 73 rfl rfl), wm_X8_draw, ws_X8_draw, wi_X8, wc_X8_draw, nh_X8.1, nh_X8.2, pd_12⟩
theorem cl_Whole_128 : pj_gS RX8 128 yJ13_bitCount_95d88 cJ13_bitCount_95d88 2 (some .int) 1 := ⟨(pj_m3 79 rfl rfl), wt_J13_bitCount_95d88, wi_J13, wc_J13_bitCount_95d88, nh_J13.1, nh_J13.2, pd_18⟩
theorem cl_Wool_15 : pj_gA RX9 15 := ⟨(pj_m4 172 rfl rfl), (pj_m4 16 rfl rfl), (pj_m4 15 rfl rfl), (pj_m1 19 rfl rfl)⟩
theorem cl_Wool_25 : pj_gV RX9 25 yX9_lengthOf cX9_lengthOf 2 (some .int) 1 := ⟨(pj_m4 123 rfl rfl), wm_X9_lengthOf, ws_X9_lengthOf, wi_X9, wc_X9_lengthOf, nh_X9.1, nh_X9.2, pd_12⟩
theorem wc_X9_longestBut : Cond.code yX9_longestBut cX9_longestBut 5 (some .int) ∈ pj_tbl := (pj_m4 122 rfl rfl)
theorem wm_X9_longestBut : Cond.instanceMethod yX9_longestBut ∈ pj_tbl := (pj_m4 121 rfl rfl)
theorem ws_X9_longestBut : Cond.selects RX9 yX9_longestBut yX9_longestBut ∈ pj_tbl := (pj_mem 20 rfl rfl)
theorem cl_Wool_29 : pj_gV RX9 29 yX9_longestBut cX9_longestBut 5 (some .int) 1 := ⟨(pj_m4 119 rfl rfl), wm_X9_longestBut, ws_X9_longestBut, wi_X9, wc_X9_longestBut, nh_X9.1, nh_X9.2, pd_12⟩
theorem wc_X11_begins : Cond.code yX11_begins cX11_begins 5 none ∈ pj_tbl := (pj_m4 190 rfl rfl)
theorem wi_X11 : Cond.initialized RX11 ∈ pj_tbl := (pj_m1 12 rfl rfl)
theorem nh_X11 : RX11 ≠ "java/lang/invoke/MethodHandle" ∧ RX11 ≠ "java/lang/invoke/VarHandle" := by decide +kernel
theorem wm_X11_begins : Cond.instanceMethod yX11_begins ∈ pj_tbl := (pj_m4 189 rfl rfl)
theorem ws_X11_begins : Cond.selects RX11 yX11_begins yX11_begins ∈ pj_tbl := (pj_mem 21 rfl rfl)
theorem cl_Md_59 : pj_gV RX11 59 yX11_begins cX11_begins 5 none 2 := ⟨(pj_m4 187 rfl rfl), wm_X11_begins, ws_X11_begins, wi_X11, wc_X11_begins, nh_X11.1, nh_X11.2, pd_0⟩
theorem wc_X11_isStitch : Cond.code yX11_isStitch cX11_isStitch 2 (some .boolean) ∈ pj_tbl := (pj_m4 194 rfl rfl)
theorem wm_X11_isStitch : Cond.instanceMethod yX11_isStitch ∈ pj_tbl := (pj_m4 193 rfl rfl)
theorem ws_X11_isStitch : Cond.selects RX11 yX11_isStitch yX11_isStitch ∈ pj_tbl := (pj_mem 22 rfl rfl)
theorem cl_Md_63 : pj_gV RX11 63 yX11_isStitch cX11_isStitch 2 (some .boolean) 1 := ⟨(pj_m4 191 rfl rfl), wm_X11_isStitch, ws_X11_isStitch, wi_X11, wc_X11_isStitch, nh_X11.1, nh_X11.2, pd_2⟩
theorem wc_X11_isIn : Cond.code yX11_isIn cX11_isIn 3 (some .boolean) ∈ pj_tbl := (pj_m4 197 rfl rfl)
theorem wt_X11_isIn : Cond.static yX11_isIn ∈ pj_tbl := (pj_m4 196 rfl rfl)
theorem cl_Md_70 : pj_gS RX11 70 yX11_isIn cX11_isIn 3 (some .boolean) 3 := ⟨(pj_m4 195 rfl rfl), wt_X11_isIn, wi_X11, wc_X11_isIn, nh_X11.1, nh_X11.2, pd_3⟩
theorem wc_X11_comesBack : Cond.code yX11_comesBack cX11_comesBack 2 none ∈ pj_tbl := (pj_m5 73 rfl rfl)
theorem wm_X11_comesBack : Cond.instanceMethod yX11_comesBack ∈ pj_tbl := (pj_m5 72 rfl rfl)
theorem ws_X11_comesBack : Cond.selects RX11 yX11_comesBack yX11_comesBack ∈ pj_tbl := (pj_mem 23 rfl rfl)
theorem cl_Md_76 : pj_gV RX11 76 yX11_comesBack cX11_comesBack 2 none 1 := ⟨(pj_m5 70 rfl rfl), wm_X11_comesBack, ws_X11_comesBack, wi_X11, wc_X11_comesBack, nh_X11.1, nh_X11.2, pd_10⟩
theorem cl_Md_89 : pj_gV RX11 89 yJ0_length_8abf5 cJ0_length_8abf5 1 (some .int) 0 := ⟨(pj_m5 106 rfl rfl), wm_J0_length_8abf5, ws_J0_length_8abf5, wi_J0, wc_J0_length_8abf5, nh_J0.1, nh_J0.2, pd_8⟩
theorem cl_Md_95 : pj_gV RX11 95 yJ0_charAt_5068e cJ0_charAt_5068e 2 (some .char) 1 := ⟨(pj_m5 107 rfl rfl), wm_J0_charAt_5068e, ws_J0_charAt_5068e, wi_J0, wc_J0_charAt_5068e, nh_J0.1, nh_J0.2, pd_33⟩
theorem wc_X11_is : Cond.code yX11_is cX11_is 4 (some .boolean) ∈ pj_tbl := (pj_m5 105 rfl rfl)
theorem pd_38 : (parseMethodDescriptor "(Ljava/lang/String;)Z").map (fun d => d.parameters.length) = some 1 := by decide +kernel
theorem wm_X11_is : Cond.instanceMethod yX11_is ∈ pj_tbl := (pj_m5 104 rfl rfl)
theorem ws_X11_is : Cond.selects RX11 yX11_is yX11_is ∈ pj_tbl := (pj_mem 27 rfl rfl)
theorem cl_Md_101 : pj_gV RX11 101 yX11_is cX11_is 4 (some .boolean) 1 := ⟨(pj_m5 102 rfl rfl), wm_X11_is, ws_X11_is, wi_X11, wc_X11_is, nh_X11.1, nh_X11.2, pd_38⟩
theorem wc_X11_nameWord : Cond.code yX11_nameWord cX11_nameWord 1 (some .int) ∈ pj_tbl := (pj_m5 115 rfl rfl)
theorem wm_X11_nameWord : Cond.instanceMethod yX11_nameWord ∈ pj_tbl := (pj_m5 114 rfl rfl)
theorem ws_X11_nameWord : Cond.selects RX11 yX11_nameWord yX11_nameWord ∈ pj_tbl := (pj_mem 28 rfl rfl)
theorem cl_Md_127 : pj_gV RX11 127 yX11_nameWord cX11_nameWord 1 (some .int) 0 := ⟨(pj_m5 112 rfl rfl), wm_X11_nameWord, ws_X11_nameWord, wi_X11, wc_X11_nameWord, nh_X11.1, nh_X11.2, pd_8⟩
theorem wc_X11_see : Cond.code yX11_see cX11_see 2 (some .int) ∈ pj_tbl := (pj_m5 93 rfl rfl)
theorem wm_X11_see : Cond.instanceMethod yX11_see ∈ pj_tbl := (pj_m5 92 rfl rfl)
theorem ws_X11_see : Cond.selects RX11 yX11_see yX11_see ∈ pj_tbl := (pj_mem 25 rfl rfl)
theorem cl_Md_130 : pj_gV RX11 130 yX11_see cX11_see 2 (some .int) 1 := ⟨(pj_m5 90 rfl rfl), wm_X11_see, ws_X11_see, wi_X11, wc_X11_see, nh_X11.1, nh_X11.2, pd_12⟩
theorem wc_X11_isLetter : Cond.code yX11_isLetter cX11_isLetter 1 (some .boolean) ∈ pj_tbl := (pj_m5 96 rfl rfl)
theorem wt_X11_isLetter : Cond.static yX11_isLetter ∈ pj_tbl := (pj_m5 95 rfl rfl)
theorem cl_Md_137 : pj_gS RX11 137 yX11_isLetter cX11_isLetter 1 (some .boolean) 1 := ⟨(pj_m5 94 rfl rfl), wt_X11_isLetter, wi_X11, wc_X11_isLetter, nh_X11.1, nh_X11.2, pd_2⟩
theorem wc_X11_word : Cond.code yX11_word cX11_word 1 (some .int) ∈ pj_tbl := (pj_m5 100 rfl rfl)
theorem wm_X11_word : Cond.instanceMethod yX11_word ∈ pj_tbl := (pj_m5 99 rfl rfl)
theorem ws_X11_word : Cond.selects RX11 yX11_word yX11_word ∈ pj_tbl := (pj_mem 26 rfl rfl)
theorem cl_Md_140 : pj_gV RX11 140 yX11_word cX11_word 1 (some .int) 0 := ⟨(pj_m5 97 rfl rfl), wm_X11_word, ws_X11_word, wi_X11, wc_X11_word, nh_X11.1, nh_X11.2, pd_8⟩
theorem wc_X11_isDigit : Cond.code yX11_isDigit cX11_isDigit 1 (some .boolean) ∈ pj_tbl := (pj_m5 125 rfl rfl)
theorem wt_X11_isDigit : Cond.static yX11_isDigit ∈ pj_tbl := (pj_m5 124 rfl rfl)
theorem cl_Md_143 : pj_gS RX11 143 yX11_isDigit cX11_isDigit 1 (some .boolean) 1 := ⟨(pj_m5 123 rfl rfl), wt_X11_isDigit, wi_X11, wc_X11_isDigit, nh_X11.1, nh_X11.2, pd_2⟩
theorem wc_X11_bad : Cond.code yX11_bad cX11_bad 2 (some .boolean) ∈ pj_tbl := (pj_m5 133 rfl rfl)
theorem wm_X11_bad : Cond.instanceMethod yX11_bad ∈ pj_tbl := (pj_m5 132 rfl rfl)
theorem ws_X11_bad : Cond.selects RX11 yX11_bad yX11_bad ∈ pj_tbl := (pj_mem 30 rfl rfl)
theorem cl_Md_155 : pj_gV RX11 155 yX11_bad cX11_bad 2 (some .boolean) 1 := ⟨(pj_m5 130 rfl rfl), wm_X11_bad, ws_X11_bad, wi_X11, wc_X11_bad, nh_X11.1, nh_X11.2, pd_2⟩
theorem wc_X11_next0 : Cond.code yX11_next0 cX11_next0 3 none ∈ pj_tbl := (pj_m5 89 rfl rfl)
theorem wm_X11_next0 : Cond.instanceMethod yX11_next0 ∈ pj_tbl := (pj_m5 88 rfl rfl)
theorem ws_X11_next0 : Cond.selects RX11 yX11_next0 yX11_next0 ∈ pj_tbl := (pj_mem 24 rfl rfl)
theorem cl_Md_158 : pj_gV RX11 158 yX11_next0 cX11_next0 3 none 0 := ⟨(pj_m5 86 rfl rfl), wm_X11_next0, ws_X11_next0, wi_X11, wc_X11_next0, nh_X11.1, nh_X11.2, pd_1⟩
theorem wc_X11_product : Cond.code yX11_product cX11_product 3 (some .boolean) ∈ pj_tbl := (pj_m5 141 rfl rfl)
theorem wm_X11_product : Cond.instanceMethod yX11_product ∈ pj_tbl := (pj_m5 140 rfl rfl)
theorem ws_X11_product : Cond.selects RX11 yX11_product yX11_product ∈ pj_tbl := (pj_mem 32 rfl rfl)
theorem cl_Md_167 : pj_gV RX11 167 yX11_product cX11_product 3 (some .boolean) 0 := ⟨(pj_m5 138 rfl rfl), wm_X11_product, ws_X11_product, wi_X11, wc_X11_product, nh_X11.1, nh_X11.2, pd_9⟩
theorem wc_X11_lay : Cond.code yX11_lay cX11_lay 3 none ∈ pj_tbl := (pj_m5 149 rfl rfl)
theorem wm_X11_lay : Cond.instanceMethod yX11_lay ∈ pj_tbl := (pj_m5 148 rfl rfl)
theorem ws_X11_lay : Cond.selects RX11 yX11_lay yX11_lay ∈ pj_tbl := (pj_mem 34 rfl rfl)
theorem cl_Md_171 : pj_gV RX11 171 yX11_lay cX11_lay 3 none 2 := ⟨(pj_m5 146 rfl rfl), wm_X11_lay, ws_X11_lay, wi_X11, wc_X11_lay, nh_X11.1, nh_X11.2, pd_0⟩
theorem wc_X11_unit : Cond.code yX11_unit cX11_unit 2 (some .boolean) ∈ pj_tbl := (pj_m5 145 rfl rfl)
theorem wm_X11_unit : Cond.instanceMethod yX11_unit ∈ pj_tbl := (pj_m5 144 rfl rfl)
theorem ws_X11_unit : Cond.selects RX11 yX11_unit yX11_unit ∈ pj_tbl := (pj_mem 33 rfl rfl)
theorem cl_Md_174 : pj_gV RX11 174 yX11_unit cX11_unit 2 (some .boolean) 0 := ⟨(pj_m5 142 rfl rfl), wm_X11_unit, ws_X11_unit, wi_X11, wc_X11_unit, nh_X11.1, nh_X11.2, pd_9⟩
theorem wc_X11_every : Cond.code yX11_every cX11_every 1 (some .boolean) ∈ pj_tbl := (pj_m5 157 rfl rfl)
theorem wm_X11_every : Cond.instanceMethod yX11_every ∈ pj_tbl := (pj_m5 156 rfl rfl)
theorem ws_X11_every : Cond.selects RX11 yX11_every yX11_every ∈ pj_tbl := (pj_mem 36 rfl rfl)
theorem cl_Md_177 : pj_gV RX11 177 yX11_every cX11_every 1 (some .boolean) 0 := ⟨(pj_m5 154 rfl rfl), wm_X11_every, ws_X11_every, wi_X11, wc_X11_every, nh_X11.1, nh_X11.2, pd_9⟩
theorem wc_X11_oneTest : Cond.code yX11_oneTest cX11_oneTest 2 (some .boolean) ∈ pj_tbl := (pj_m5 161 rfl rfl)
theorem wm_X11_oneTest : Cond.instanceMethod yX11_oneTest ∈ pj_tbl := (pj_m5 160 rfl rfl)
theorem ws_X11_oneTest : Cond.selects RX11 yX11_oneTest yX11_oneTest ∈ pj_tbl := (pj_mem 37 rfl rfl)
theorem cl_Md_180 : pj_gV RX11 180 yX11_oneTest cX11_oneTest 2 (some .boolean) 0 := ⟨(pj_m5 158 rfl rfl), wm_X11_oneTest, ws_X11_oneTest, wi_X11, wc_X11_oneTest, nh_X11.1, nh_X11.2, pd_9⟩
theorem wc_X11_opens : Cond.code yX11_opens cX11_opens 1 (some .boolean) ∈ pj_tbl := (pj_m5 165 rfl rfl)
theorem wm_X11_opens : Cond.instanceMethod yX11_opens ∈ pj_tbl := (pj_m5 164 rfl rfl)
theorem ws_X11_opens : Cond.selects RX11 yX11_opens yX11_opens ∈ pj_tbl := (pj_mem 38 rfl rfl)
theorem cl_Md_183 : pj_gV RX11 183 yX11_opens cX11_opens 1 (some .boolean) 0 := ⟨(pj_m5 162 rfl rfl), wm_X11_opens, ws_X11_opens, wi_X11, wc_X11_opens, nh_X11.1, nh_X11.2, pd_9⟩
theorem wc_X11_any : Cond.code yX11_any cX11_any 1 (some .boolean) ∈ pj_tbl := (pj_m5 153 rfl rfl)
theorem wm_X11_any : Cond.instanceMethod yX11_any ∈ pj_tbl := (pj_m5 152 rfl rfl)
theorem ws_X11_any : Cond.selects RX11 yX11_any yX11_any ∈ pj_tbl := (pj_mem 35 rfl rfl)
theorem cl_Md_186 : pj_gV RX11 186 yX11_any cX11_any 1 (some .boolean) 0 := ⟨(pj_m5 150 rfl rfl), wm_X11_any, ws_X11_any, wi_X11, wc_X11_any, nh_X11.1, nh_X11.2, pd_9⟩
theorem wc_X11_need : Cond.code yX11_need cX11_need 2 (some .boolean) ∈ pj_tbl := (pj_m5 169 rfl rfl)
theorem wm_X11_need : Cond.instanceMethod yX11_need ∈ pj_tbl := (pj_m5 168 rfl rfl)
theorem ws_X11_need : Cond.selects RX11 yX11_need yX11_need ∈ pj_tbl := (pj_mem 39 rfl rfl)
theorem cl_Md_189 : pj_gV RX11 189 yX11_need cX11_need 2 (some .boolean) 1 := ⟨(pj_m5 166 rfl rfl), wm_X11_need, ws_X11_need, wi_X11, wc_X11_need, nh_X11.1, nh_X11.2, pd_2⟩
theorem wc_X11_sumUp : Cond.code yX11_sumUp cX11_sumUp 2 (some .boolean) ∈ pj_tbl := (pj_m5 137 rfl rfl)
theorem wm_X11_sumUp : Cond.instanceMethod yX11_sumUp ∈ pj_tbl := (pj_m5 136 rfl rfl)
theorem ws_X11_sumUp : Cond.selects RX11 yX11_sumUp yX11_sumUp ∈ pj_tbl := (pj_mem 31 rfl rfl)
theorem cl_Md_192 : pj_gV RX11 192 yX11_sumUp cX11_sumUp 2 (some .boolean) 0 := ⟨(pj_m5 134 rfl rfl), wm_X11_sumUp, ws_X11_sumUp, wi_X11, wc_X11_sumUp, nh_X11.1, nh_X11.2, pd_9⟩
theorem wc_X11_aLine : Cond.code yX11_aLine cX11_aLine 1 (some .boolean) ∈ pj_tbl := (pj_m5 129 rfl rfl)
theorem wm_X11_aLine : Cond.instanceMethod yX11_aLine ∈ pj_tbl := (pj_m5 128 rfl rfl)
theorem ws_X11_aLine : Cond.selects RX11 yX11_aLine yX11_aLine ∈ pj_tbl := (pj_mem 29 rfl rfl)
theorem cl_Md_198 : pj_gV RX11 198 yX11_aLine cX11_aLine 1 (some .boolean) 0 := ⟨(pj_m5 126 rfl rfl), wm_X11_aLine, ws_X11_aLine, wi_X11, wc_X11_aLine, nh_X11.1, nh_X11.2, pd_9⟩
theorem wc_X11_both : Cond.code yX11_both cX11_both 3 (some .int) ∈ pj_tbl := (pj_m6 31 rfl rfl)
theorem wt_X11_both : Cond.static yX11_both ∈ pj_tbl := (pj_m6 30 rfl rfl)
theorem cl_Md_204 : pj_gS RX11 204 yX11_both cX11_both 3 (some .int) 3 := ⟨(pj_m6 29 rfl rfl), wt_X11_both, wi_X11, wc_X11_both, nh_X11.1, nh_X11.2, pd_25⟩
theorem wc_X11_drawnOne : Cond.code yX11_drawnOne cX11_drawnOne 4 (some .int) ∈ pj_tbl := (pj_m5 221 rfl rfl)
theorem wm_X11_drawnOne : Cond.instanceMethod yX11_drawnOne ∈ pj_tbl := (pj_m5 220 rfl rfl)
theorem ws_X11_drawnOne : Cond.selects RX11 yX11_drawnOne yX11_drawnOne ∈ pj_tbl := (pj_mem 47 rfl rfl)
theorem cl_Md_208 : pj_gV RX11 208 yX11_drawnOne cX11_drawnOne 4 (some .int) 1 := ⟨(pj_m5 218 rfl rfl), wm_X11_drawnOne, ws_X11_drawnOne, wi_X11, wc_X11_drawnOne, nh_X11.1, nh_X11.2, pd_12⟩
theorem wc_X11_drawnOther : Cond.code yX11_drawnOther cX11_drawnOther 2 (some .int) ∈ pj_tbl := (pj_m5 225 rfl rfl)
theorem wm_X11_drawnOther : Cond.instanceMethod yX11_drawnOther ∈ pj_tbl := (pj_m5 224 rfl rfl)
theorem ws_X11_drawnOther : Cond.selects RX11 yX11_drawnOther yX11_drawnOther ∈ pj_tbl := (pj_mem 48 rfl rfl)
theorem cl_Md_211 : pj_gV RX11 211 yX11_drawnOther cX11_drawnOther 2 (some .int) 1 := ⟨(pj_m5 222 rfl rfl), wm_X11_drawnOther, ws_X11_drawnOther, wi_X11, wc_X11_drawnOther, nh_X11.1, nh_X11.2, pd_12⟩
theorem wc_X11_holds : Cond.code yX11_holds cX11_holds 5 none ∈ pj_tbl := (pj_m5 217 rfl rfl)
theorem wm_X11_holds : Cond.instanceMethod yX11_holds ∈ pj_tbl := (pj_m5 216 rfl rfl)
theorem ws_X11_holds : Cond.selects RX11 yX11_holds yX11_holds ∈ pj_tbl := (pj_mem 46 rfl rfl)
theorem cl_Md_214 : pj_gV RX11 214 yX11_holds cX11_holds 5 none 2 := ⟨(pj_m5 214 rfl rfl), wm_X11_holds, ws_X11_holds, wi_X11, wc_X11_holds, nh_X11.1, nh_X11.2, pd_0⟩
theorem wc_X11_isHeld : Cond.code yX11_isHeld cX11_isHeld 2 (some .boolean) ∈ pj_tbl := (pj_m5 237 rfl rfl)
theorem wm_X11_isHeld : Cond.instanceMethod yX11_isHeld ∈ pj_tbl := (pj_m5 236 rfl rfl)
theorem ws_X11_isHeld : Cond.selects RX11 yX11_isHeld yX11_isHeld ∈ pj_tbl := (pj_mem 51 rfl rfl)
theorem cl_Md_217 : pj_gV RX11 217 yX11_isHeld cX11_isHeld 2 (some .boolean) 1 := ⟨(pj_m5 234 rfl rfl), wm_X11_isHeld, ws_X11_isHeld, wi_X11, wc_X11_isHeld, nh_X11.1, nh_X11.2, pd_2⟩
theorem wc_X11_isLoose : Cond.code yX11_isLoose cX11_isLoose 2 (some .boolean) ∈ pj_tbl := (pj_m6 20 rfl rfl)
theorem wm_X11_isLoose : Cond.instanceMethod yX11_isLoose ∈ pj_tbl := (pj_m6 19 rfl rfl)
theorem ws_X11_isLoose : Cond.selects RX11 yX11_isLoose yX11_isLoose ∈ pj_tbl := (pj_mem 55 rfl rfl)
theorem cl_Md_220 : pj_gV RX11 220 yX11_isLoose cX11_isLoose 2 (some .boolean) 1 := ⟨(pj_m6 17 rfl rfl), wm_X11_isLoose, ws_X11_isLoose, wi_X11, wc_X11_isLoose, nh_X11.1, nh_X11.2, pd_2⟩
theorem wc_X11_goes : Cond.code yX11_goes cX11_goes 2 none ∈ pj_tbl := (pj_m6 1 rfl rfl)
theorem wm_X11_goes : Cond.instanceMethod yX11_goes ∈ pj_tbl := (pj_m6 0 rfl rfl)
theorem ws_X11_goes : Cond.selects RX11 yX11_goes yX11_goes ∈ pj_tbl := (pj_mem 52 rfl rfl)
theorem cl_Md_223 : pj_gV RX11 223 yX11_goes cX11_goes 2 none 1 := ⟨(pj_m5 238 rfl rfl), wm_X11_goes, ws_X11_goes, wi_X11, wc_X11_goes, nh_X11.1, nh_X11.2, pd_10⟩
theorem wc_X11_isQueued : Cond.code yX11_isQueued cX11_isQueued 4 (some .boolean) ∈ pj_tbl := (pj_m6 75 rfl rfl)
theorem wm_X11_isQueued : Cond.instanceMethod yX11_isQueued ∈ pj_tbl := (pj_m6 74 rfl rfl)
theorem ws_X11_isQueued : Cond.selects RX11 yX11_isQueued yX11_isQueued ∈ pj_tbl := (pj_mem 61 rfl rfl)
theorem cl_Md_226 : pj_gV RX11 226 yX11_isQueued cX11_isQueued 4 (some .boolean) 2 := ⟨(pj_m6 72 rfl rfl), wm_X11_isQueued, ws_X11_isQueued, wi_X11, wc_X11_isQueued, nh_X11.1, nh_X11.2, pd_5⟩
theorem wc_X11_comesTo : Cond.code yX11_comesTo cX11_comesTo 7 (some .int) ∈ pj_tbl := (pj_m6 28 rfl rfl)
theorem wm_X11_comesTo : Cond.instanceMethod yX11_comesTo ∈ pj_tbl := (pj_m6 27 rfl rfl)
theorem ws_X11_comesTo : Cond.selects RX11 yX11_comesTo yX11_comesTo ∈ pj_tbl := (pj_mem 57 rfl rfl)
theorem cl_Md_230 : pj_gV RX11 230 yX11_comesTo cX11_comesTo 7 (some .int) 2 := ⟨(pj_m6 25 rfl rfl), wm_X11_comesTo, ws_X11_comesTo, wi_X11, wc_X11_comesTo, nh_X11.1, nh_X11.2, pd_17⟩
theorem wc_X11_least : Cond.code yX11_least cX11_least 2 (some .int) ∈ pj_tbl := (pj_m6 34 rfl rfl)
theorem wt_X11_least : Cond.static yX11_least ∈ pj_tbl := (pj_m6 33 rfl rfl)
theorem cl_Md_234 : pj_gS RX11 234 yX11_least cX11_least 2 (some .int) 2 := ⟨(pj_m6 32 rfl rfl), wt_X11_least, wi_X11, wc_X11_least, nh_X11.1, nh_X11.2, pd_17⟩
theorem wc_X11_most : Cond.code yX11_most cX11_most 2 (some .int) ∈ pj_tbl := (pj_m6 37 rfl rfl)
theorem wt_X11_most : Cond.static yX11_most ∈ pj_tbl := (pj_m6 36 rfl rfl)
theorem cl_Md_237 : pj_gS RX11 237 yX11_most cX11_most 2 (some .int) 2 := ⟨(pj_m6 35 rfl rfl), wt_X11_most, wi_X11, wc_X11_most, nh_X11.1, nh_X11.2, pd_17⟩
theorem wc_X11_keeps : Cond.code yX11_keeps cX11_keeps 3 none ∈ pj_tbl := (pj_m5 185 rfl rfl)
theorem wm_X11_keeps : Cond.instanceMethod yX11_keeps ∈ pj_tbl := (pj_m5 184 rfl rfl)
theorem ws_X11_keeps : Cond.selects RX11 yX11_keeps yX11_keeps ∈ pj_tbl := (pj_mem 40 rfl rfl)
theorem cl_Md_240 : pj_gV RX11 240 yX11_keeps cX11_keeps 3 none 0 := ⟨(pj_m5 182 rfl rfl), wm_X11_keeps, ws_X11_keeps, wi_X11, wc_X11_keeps, nh_X11.1, nh_X11.2, pd_1⟩
theorem wc_X11_isGone : Cond.code yX11_isGone cX11_isGone 4 none ∈ pj_tbl := (pj_m5 189 rfl rfl)
theorem wm_X11_isGone : Cond.instanceMethod yX11_isGone ∈ pj_tbl := (pj_m5 188 rfl rfl)
theorem ws_X11_isGone : Cond.selects RX11 yX11_isGone yX11_isGone ∈ pj_tbl := (pj_mem 41 rfl rfl)
theorem cl_Md_243 : pj_gV RX11 243 yX11_isGone cX11_isGone 4 none 2 := ⟨(pj_m5 186 rfl rfl), wm_X11_isGone, ws_X11_isGone, wi_X11, wc_X11_isGone, nh_X11.1, nh_X11.2, pd_0⟩
theorem wc_X11_isPlace : Cond.code yX11_isPlace cX11_isPlace 2 (some .boolean) ∈ pj_tbl := (pj_m5 205 rfl rfl)
theorem wm_X11_isPlace : Cond.instanceMethod yX11_isPlace ∈ pj_tbl := (pj_m5 204 rfl rfl)
theorem ws_X11_isPlace : Cond.selects RX11 yX11_isPlace yX11_isPlace ∈ pj_tbl := (pj_mem 43 rfl rfl)
theorem cl_Md_246 : pj_gV RX11 246 yX11_isPlace cX11_isPlace 2 (some .boolean) 1 := ⟨(pj_m5 202 rfl rfl), wm_X11_isPlace, ws_X11_isPlace, wi_X11, wc_X11_isPlace, nh_X11.1, nh_X11.2, pd_2⟩
theorem wc_X11_stitchAt : Cond.code yX11_stitchAt cX11_stitchAt 4 (some .int) ∈ pj_tbl := (pj_m5 233 rfl rfl)
theorem wm_X11_stitchAt : Cond.instanceMethod yX11_stitchAt ∈ pj_tbl := (pj_m5 232 rfl rfl)
theorem ws_X11_stitchAt : Cond.selects RX11 yX11_stitchAt yX11_stitchAt ∈ pj_tbl := (pj_mem 50 rfl rfl)
theorem cl_Md_258 : pj_gV RX11 258 yX11_stitchAt cX11_stitchAt 4 (some .int) 1 := ⟨(pj_m5 230 rfl rfl), wm_X11_stitchAt, ws_X11_stitchAt, wi_X11, wc_X11_stitchAt, nh_X11.1, nh_X11.2, pd_12⟩
theorem wc_X11_isEnd : Cond.code yX11_isEnd cX11_isEnd 3 (some .boolean) ∈ pj_tbl := (pj_m5 201 rfl rfl)
theorem wm_X11_isEnd : Cond.instanceMethod yX11_isEnd ∈ pj_tbl := (pj_m5 200 rfl rfl)
theorem ws_X11_isEnd : Cond.selects RX11 yX11_isEnd yX11_isEnd ∈ pj_tbl := (pj_mem 42 rfl rfl)
theorem cl_Md_261 : pj_gV RX11 261 yX11_isEnd cX11_isEnd 3 (some .boolean) 2 := ⟨(pj_m5 198 rfl rfl), wm_X11_isEnd, ws_X11_isEnd, wi_X11, wc_X11_isEnd, nh_X11.1, nh_X11.2, pd_5⟩
theorem wc_X11_lengthOf : Cond.code yX11_lengthOf cX11_lengthOf 1 (some .int) ∈ pj_tbl := (pj_m6 8 rfl rfl)
theorem wt_X11_lengthOf : Cond.static yX11_lengthOf ∈ pj_tbl := (pj_m6 7 rfl rfl)
theorem cl_Md_264 : pj_gS RX11 264 yX11_lengthOf cX11_lengthOf 1 (some .int) 1 := ⟨(pj_m6 6 rfl rfl), wt_X11_lengthOf, wi_X11, wc_X11_lengthOf, nh_X11.1, nh_X11.2, pd_12⟩
theorem wc_X11_laysNow : Cond.code yX11_laysNow cX11_laysNow 2 none ∈ pj_tbl := (pj_m5 209 rfl rfl)
theorem wm_X11_laysNow : Cond.instanceMethod yX11_laysNow ∈ pj_tbl := (pj_m5 208 rfl rfl)
theorem ws_X11_laysNow : Cond.selects RX11 yX11_laysNow yX11_laysNow ∈ pj_tbl := (pj_mem 44 rfl rfl)
theorem cl_Md_267 : pj_gV RX11 267 yX11_laysNow cX11_laysNow 2 none 0 := ⟨(pj_m5 206 rfl rfl), wm_X11_laysNow, ws_X11_laysNow, wi_X11, wc_X11_laysNow, nh_X11.1, nh_X11.2, pd_1⟩
theorem wc_X11_laysHolders : Cond.code yX11_laysHolders cX11_laysHolders 2 none ∈ pj_tbl := (pj_m5 213 rfl rfl)
theorem wm_X11_laysHolders : Cond.instanceMethod yX11_laysHolders ∈ pj_tbl := (pj_m5 212 rfl rfl)
theorem ws_X11_laysHolders : Cond.selects RX11 yX11_laysHolders yX11_laysHolders ∈ pj_tbl := (pj_mem 45 rfl rfl)
theorem cl_Md_270 : pj_gV RX11 270 yX11_laysHolders cX11_laysHolders 2 none 0 := ⟨(pj_m5 210 rfl rfl), wm_X11_laysHolders, ws_X11_laysHolders, wi_X11, wc_X11_laysHolders, nh_X11.1, nh_X11.2, pd_1⟩
theorem wc_X11_pulls : Cond.code yX11_pulls cX11_pulls 9 none ∈ pj_tbl := (pj_m5 229 rfl rfl)
theorem pd_39 : (parseMethodDescriptor "(IIIZ)V").map (fun d => d.parameters.length) = some 4 := by decide +kernel
theorem wm_X11_pulls : Cond.instanceMethod yX11_pulls ∈ pj_tbl := (pj_m5 228 rfl rfl)
theorem ws_X11_pulls : Cond.selects RX11 yX11_pulls yX11_pulls ∈ pj_tbl := (pj_mem 49 rfl rfl)
theorem cl_Md_273 : pj_gV RX11 273 yX11_pulls cX11_pulls 9 none 4 := ⟨(pj_m5 226 rfl rfl), wm_X11_pulls, ws_X11_pulls, wi_X11, wc_X11_pulls, nh_X11.1, nh_X11.2, pd_39⟩
theorem wc_X11_winds : Cond.code yX11_winds cX11_winds 6 none ∈ pj_tbl := (pj_m6 5 rfl rfl)
theorem wm_X11_winds : Cond.instanceMethod yX11_winds ∈ pj_tbl := (pj_m6 4 rfl rfl)
theorem ws_X11_winds : Cond.selects RX11 yX11_winds yX11_winds ∈ pj_tbl := (pj_mem 53 rfl rfl)
theorem cl_Md_277 : pj_gV RX11 277 yX11_winds cX11_winds 6 none 2 := ⟨(pj_m6 2 rfl rfl), wm_X11_winds, ws_X11_winds, wi_X11, wc_X11_winds, nh_X11.1, nh_X11.2, pd_0⟩
theorem wc_X11_oddsOf : Cond.code yX11_oddsOf cX11_oddsOf 4 (some .int) ∈ pj_tbl := (pj_m6 24 rfl rfl)
theorem wm_X11_oddsOf : Cond.instanceMethod yX11_oddsOf ∈ pj_tbl := (pj_m6 23 rfl rfl)
theorem ws_X11_oddsOf : Cond.selects RX11 yX11_oddsOf yX11_oddsOf ∈ pj_tbl := (pj_mem 56 rfl rfl)
theorem cl_Md_280 : pj_gV RX11 280 yX11_oddsOf cX11_oddsOf 4 (some .int) 1 := ⟨(pj_m6 21 rfl rfl), wm_X11_oddsOf, ws_X11_oddsOf, wi_X11, wc_X11_oddsOf, nh_X11.1, nh_X11.2, pd_12⟩
theorem wc_X11_draw : Cond.code yX11_draw cX11_draw 2 (some .int) ∈ pj_tbl := (pj_m6 41 rfl rfl)
theorem wm_X11_draw : Cond.instanceMethod yX11_draw ∈ pj_tbl := (pj_m6 40 rfl rfl)
theorem ws_X11_draw : Cond.selects RX11 yX11_draw yX11_draw ∈ pj_tbl := (pj_mem 58 rfl rfl)
theorem cl_Md_283 : pj_gV RX11 283 yX11_draw cX11_draw 2 (some .int) 1 := ⟨(pj_m6 38 rfl rfl), wm_X11_draw, ws_X11_draw, wi_X11, wc_X11_draw, nh_X11.1, nh_X11.2, pd_12⟩
theorem wc_X11_anHour : Cond.code yX11_anHour cX11_anHour 3 (some .int) ∈ pj_tbl := (pj_m6 16 rfl rfl)
theorem wm_X11_anHour : Cond.instanceMethod yX11_anHour ∈ pj_tbl := (pj_m6 15 rfl rfl)
theorem ws_X11_anHour : Cond.selects RX11 yX11_anHour yX11_anHour ∈ pj_tbl := (pj_mem 54 rfl rfl)
theorem cl_Md_286 : pj_gV RX11 286 yX11_anHour cX11_anHour 3 (some .int) 0 := ⟨(pj_m6 13 rfl rfl), wm_X11_anHour, ws_X11_anHour, wi_X11, wc_X11_anHour, nh_X11.1, nh_X11.2, pd_8⟩
theorem wc_X11_placeOf : Cond.code yX11_placeOf cX11_placeOf 4 (some .int) ∈ pj_tbl := (pj_m6 51 rfl rfl)
theorem wm_X11_placeOf : Cond.instanceMethod yX11_placeOf ∈ pj_tbl := (pj_m6 50 rfl rfl)
theorem ws_X11_placeOf : Cond.selects RX11 yX11_placeOf yX11_placeOf ∈ pj_tbl := (pj_mem 59 rfl rfl)
theorem cl_Md_289 : pj_gV RX11 289 yX11_placeOf cX11_placeOf 4 (some .int) 1 := ⟨(pj_m6 48 rfl rfl), wm_X11_placeOf, ws_X11_placeOf, wi_X11, wc_X11_placeOf, nh_X11.1, nh_X11.2, pd_12⟩
theorem wc_X11_allRun : Cond.code yX11_allRun cX11_allRun 6 (some .int) ∈ pj_tbl := (pj_m6 71 rfl rfl)
theorem wm_X11_allRun : Cond.instanceMethod yX11_allRun ∈ pj_tbl := (pj_m6 70 rfl rfl)
theorem ws_X11_allRun : Cond.selects RX11 yX11_allRun yX11_allRun ∈ pj_tbl := (pj_mem 60 rfl rfl)
theorem cl_Md_292 : pj_gV RX11 292 yX11_allRun cX11_allRun 6 (some .int) 0 := ⟨(pj_m6 68 rfl rfl), wm_X11_allRun, ws_X11_allRun, wi_X11, wc_X11_allRun, nh_X11.1, nh_X11.2, pd_8⟩
theorem wc_X11_canCatch : Cond.code yX11_canCatch cX11_canCatch 2 (some .boolean) ∈ pj_tbl := (pj_m6 83 rfl rfl)
theorem wm_X11_canCatch : Cond.instanceMethod yX11_canCatch ∈ pj_tbl := (pj_m6 82 rfl rfl)
theorem ws_X11_canCatch : Cond.selects RX11 yX11_canCatch yX11_canCatch ∈ pj_tbl := (pj_mem 62 rfl rfl)
theorem cl_Md_298 : pj_gV RX11 298 yX11_canCatch cX11_canCatch 2 (some .boolean) 1 := ⟨(pj_m6 80 rfl rfl), wm_X11_canCatch, ws_X11_canCatch, wi_X11, wc_X11_canCatch, nh_X11.1, nh_X11.2, pd_2⟩
theorem wc_X11_saves : Cond.code yX11_saves cX11_saves 6 none ∈ pj_tbl := (pj_m6 87 rfl rfl)
theorem wm_X11_saves : Cond.instanceMethod yX11_saves ∈ pj_tbl := (pj_m6 86 rfl rfl)
theorem ws_X11_saves : Cond.selects RX11 yX11_saves yX11_saves ∈ pj_tbl := (pj_mem 63 rfl rfl)
theorem cl_Md_301 : pj_gV RX11 301 yX11_saves cX11_saves 6 none 3 := ⟨(pj_m6 84 rfl rfl), wm_X11_saves, ws_X11_saves, wi_X11, wc_X11_saves, nh_X11.1, nh_X11.2, pd_37⟩
theorem wc_X11_hereMany : Cond.code yX11_hereMany cX11_hereMany 3 (some .int) ∈ pj_tbl := (pj_m6 99 rfl rfl)
theorem wm_X11_hereMany : Cond.instanceMethod yX11_hereMany ∈ pj_tbl := (pj_m6 98 rfl rfl)
theorem ws_X11_hereMany : Cond.selects RX11 yX11_hereMany yX11_hereMany ∈ pj_tbl := (pj_mem 64 rfl rfl)
theorem cl_Md_305 : pj_gV RX11 305 yX11_hereMany cX11_hereMany 3 (some .int) 0 := ⟨(pj_m6 96 rfl rfl), wm_X11_hereMany, ws_X11_hereMany, wi_X11, wc_X11_hereMany, nh_X11.1, nh_X11.2, pd_8⟩
theorem wc_X11_comes : Cond.code yX11_comes cX11_comes 4 (some .int) ∈ pj_tbl := (pj_m6 91 rfl rfl)
theorem wm_X11_comes : Cond.instanceMethod yX11_comes ∈ pj_tbl := (pj_m6 89 rfl rfl)
theorem ws_X11_comes : Cond.selects RX11 yX11_comes yX11_comes ∈ pj_tbl := (pj_m6 90 rfl rfl)
theorem cl_Md_308 : pj_gV RX11 308 yX11_comes cX11_comes 4 (some .int) 3 := ⟨(pj_m6 100 rfl rfl), wm_X11_comes, ws_X11_comes, wi_X11, wc_X11_comes, nh_X11.1, nh_X11.2, pd_25⟩
theorem wc_X11_isInside : Cond.code yX11_isInside cX11_isInside 5 (some .boolean) ∈ pj_tbl := (pj_m6 107 rfl rfl)
theorem pd_40 : (parseMethodDescriptor "(IIIII)Z").map (fun d => d.parameters.length) = some 5 := by decide +kernel
theorem wt_X11_isInside : Cond.static yX11_isInside ∈ pj_tbl := (pj_m6 106 rfl rfl)
theorem cl_Md_311 : pj_gS RX11 311 yX11_isInside cX11_isInside 5 (some .boolean) 5 := ⟨(pj_m6 105 rfl rfl), wt_X11_isInside, wi_X11, wc_X11_isInside, nh_X11.1, nh_X11.2, pd_40⟩
theorem wc_X11_isSoBy : Cond.code yX11_isSoBy cX11_isSoBy 3 (some .boolean) ∈ pj_tbl := (pj_m6 124 rfl rfl)
theorem wm_X11_isSoBy : Cond.instanceMethod yX11_isSoBy ∈ pj_tbl := (pj_m6 123 rfl rfl)
theorem ws_X11_isSoBy : Cond.selects RX11 yX11_isSoBy yX11_isSoBy ∈ pj_tbl := (pj_mem 65 rfl rfl)
theorem cl_Md_316 : pj_gV RX11 316 yX11_isSoBy cX11_isSoBy 3 (some .boolean) 1 := ⟨(pj_m6 121 rfl rfl), wm_X11_isSoBy, ws_X11_isSoBy, wi_X11, wc_X11_isSoBy, nh_X11.1, nh_X11.2, pd_2⟩
theorem wc_X11_cuts : Cond.code yX11_cuts cX11_cuts 3 (some .int) ∈ pj_tbl := (pj_m6 136 rfl rfl)
theorem wm_X11_cuts : Cond.instanceMethod yX11_cuts ∈ pj_tbl := (pj_m6 135 rfl rfl)
theorem ws_X11_cuts : Cond.selects RX11 yX11_cuts yX11_cuts ∈ pj_tbl := (pj_mem 66 rfl rfl)
theorem cl_Md_323 : pj_gV RX11 323 yX11_cuts cX11_cuts 3 (some .int) 0 := ⟨(pj_m6 133 rfl rfl), wm_X11_cuts, ws_X11_cuts, wi_X11, wc_X11_cuts, nh_X11.1, nh_X11.2, pd_8⟩
theorem wc_J0_coder_7d493 : Cond.code yJ0_coder_7d493 cJ0_coder_7d493 1 (some .byte) ∈ pj_tbl := (pj_m3 146 rfl rfl)
theorem pd_41 : (parseMethodDescriptor "()B").map (fun d => d.parameters.length) = some 0 := by decide +kernel
theorem wm_J0_coder_7d493 : Cond.instanceMethod yJ0_coder_7d493 ∈ pj_tbl := (pj_m3 144 rfl rfl)
theorem ws_J0_coder_7d493 : Cond.selects RJ0 yJ0_coder_7d493 yJ0_coder_7d493 ∈ pj_tbl := (pj_m3 145 rfl rfl)
theorem cl_JStr_335 : pj_gV RJ0 335 yJ0_coder_7d493 cJ0_coder_7d493 1 (some .byte) 0 := ⟨(pj_m3 143 rfl rfl), wm_J0_coder_7d493, ws_J0_coder_7d493, wi_J0, wc_J0_coder_7d493, nh_J0.1, nh_J0.2, pd_41⟩
theorem wc_J0_isLatin1_aae02 : Cond.code yJ0_isLatin1_aae02 cJ0_isLatin1_aae02 1 (some .boolean) ∈ pj_tbl := (pj_m3 156 rfl rfl)
theorem wm_J0_isLatin1_aae02 : Cond.instanceMethod yJ0_isLatin1_aae02 ∈ pj_tbl := (pj_m3 154 rfl rfl)
theorem ws_J0_isLatin1_aae02 : Cond.selects RJ0 yJ0_isLatin1_aae02 yJ0_isLatin1_aae02 ∈ pj_tbl := (pj_m3 155 rfl rfl)
theorem cl_JStr_492 : pj_gV RJ0 492 yJ0_isLatin1_aae02 cJ0_isLatin1_aae02 1 (some .boolean) 0 := ⟨(pj_m3 153 rfl rfl), wm_J0_isLatin1_aae02, ws_J0_isLatin1_aae02, wi_J0, wc_J0_isLatin1_aae02, nh_J0.1, nh_J0.2, pd_9⟩
theorem wc_J1_charAt_3b067 : Cond.code yJ1_charAt_3b067 cJ1_charAt_3b067 2 (some .char) ∈ pj_tbl := (pj_m3 159 rfl rfl)
theorem wi_J1 : Cond.initialized RJ1 ∈ pj_tbl := (pj_m1 16 rfl rfl)
theorem nh_J1 : RJ1 ≠ "java/lang/invoke/MethodHandle" ∧ RJ1 ≠ "java/lang/invoke/VarHandle" := by decide +kernel
theorem pd_42 : (parseMethodDescriptor "([BI)C").map (fun d => d.parameters.length) = some 2 := by decide +kernel
theorem wt_J1_charAt_3b067 : Cond.static yJ1_charAt_3b067 ∈ pj_tbl := (pj_m3 158 rfl rfl)
theorem cl_JStr_495 : pj_gS RJ0 495 yJ1_charAt_3b067 cJ1_charAt_3b067 2 (some .char) 2 := ⟨(pj_m3 157 rfl rfl), wt_J1_charAt_3b067, wi_J1, wc_J1_charAt_3b067, nh_J1.1, nh_J1.2, pd_42⟩
theorem wc_J3_checkIndex_8e157 : Cond.code yJ3_checkIndex_8e157 cJ3_checkIndex_8e157 3 (some .int) ∈ pj_tbl := (pj_m3 167 rfl rfl)
theorem wi_J3 : Cond.initialized RJ3 ∈ pj_tbl := (pj_m1 17 rfl rfl)
theorem nh_J3 : RJ3 ≠ "java/lang/invoke/MethodHandle" ∧ RJ3 ≠ "java/lang/invoke/VarHandle" := by decide +kernel
theorem pd_43 : (parseMethodDescriptor "(IILjava/util/function/BiFunction;)I").map (fun d => d.parameters.length) = some 3 := by decide +kernel
theorem wt_J3_checkIndex_8e157 : Cond.static yJ3_checkIndex_8e157 ∈ pj_tbl := (pj_m3 166 rfl rfl)
theorem cl_JStr_1059 : pj_gS RJ0 1059 yJ3_checkIndex_8e157 cJ3_checkIndex_8e157 3 (some .int) 3 := ⟨(pj_m3 165 rfl rfl), wt_J3_checkIndex_8e157, wi_J3, wc_J3_checkIndex_8e157, nh_J3.1, nh_J3.2, pd_43⟩
theorem wc_J0_checkIndex_df160 : Cond.code yJ0_checkIndex_df160 cJ0_checkIndex_df160 2 none ∈ pj_tbl := (pj_m3 162 rfl rfl)
theorem wt_J0_checkIndex_df160 : Cond.static yJ0_checkIndex_df160 ∈ pj_tbl := (pj_m3 161 rfl rfl)
theorem cl_JLat_9 : pj_gS RJ1 9 yJ0_checkIndex_df160 cJ0_checkIndex_df160 2 none 2 := ⟨(pj_m3 160 rfl rfl), wt_J0_checkIndex_df160, wi_J0, wc_J0_checkIndex_df160, nh_J0.1, nh_J0.2, pd_0⟩
