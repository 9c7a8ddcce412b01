/-! THE PURE PART. Words of functions, loops by a measure, bits of longs. -/
theorem pj_bI {α β : Type} (a : α) (f : α → β) : pj_b a f = f a := rfl
theorem pj_gT {β : Type} {c : Bool} {x : Option β} (h : c = true) : pj_g c x = x := by unfold pj_g; rw [if_pos h]
theorem pj_cS {α β : Type} (a : α) (z : pj_S) (f : α → pj_S → Option β) : pj_c (some (a, z)) f = f a z := rfl
theorem pj_cR {α β : Type} {x : Option (α × pj_S)} {a : α} {z : pj_S} (h : x = some (a, z)) (f : α → pj_S → Option β) : pj_c x f = f a z := by rw [h]; rfl
theorem pj_loop0 {ρ : Type} {F : (pj_S → Option ρ) → pj_S → Option ρ} (P : Nat → pj_S → Prop) (E : pj_S → Prop) (G : pj_S → Option ρ)
    (hs : ∀ (self : pj_S → Option ρ) (d : Nat)  (z : pj_S), P d  z → (E  z ∧ F self  z = G  z) ∨ ∃ (d2 : Nat)  (z2 : pj_S), d2 < d ∧ P d2  z2 ∧ F self  z = self  z2) :
    ∀ (n d : Nat)  (z : pj_S), P d  z → d < n → ∃  (z2 : pj_S), E  z2 ∧ pj_lp0 F n  z = G  z2 := by
  intro n
  induction n with
  | zero => intro d  z _ h; omega
  | succ n ih =>
    intro d  z hP hd
    rw [pj_lp0_s]
    rcases hs (pj_lp0 F n) d  z hP with ⟨hE, e⟩ | ⟨d2, z2, h1, h2, e⟩
    · exact ⟨z, hE, e⟩
    · rw [e]
      exact ih d2  z2 h2 (by omega)
theorem pj_loop1 {α0 ρ : Type} {F : (α0 → pj_S → Option ρ) → α0 → pj_S → Option ρ} (P : Nat → α0 → pj_S → Prop) (E : α0 → pj_S → Prop) (G : α0 → pj_S → Option ρ)
    (hs : ∀ (self : α0 → pj_S → Option ρ) (d : Nat) (a0 : α0) (z : pj_S), P d a0 z → (E a0 z ∧ F self a0 z = G a0 z) ∨ ∃ (d2 : Nat) (b0 : α0) (z2 : pj_S), d2 < d ∧ P d2 b0 z2 ∧ F self a0 z = self b0 z2) :
    ∀ (n d : Nat) (a0 : α0) (z : pj_S), P d a0 z → d < n → ∃ (b0 : α0) (z2 : pj_S), E b0 z2 ∧ pj_lp1 F n a0 z = G b0 z2 := by
  intro n
  induction n with
  | zero => intro d a0 z _ h; omega
  | succ n ih =>
    intro d a0 z hP hd
    rw [pj_lp1_s]
    rcases hs (pj_lp1 F n) d a0 z hP with ⟨hE, e⟩ | ⟨d2, b0, z2, h1, h2, e⟩
    · exact ⟨a0, z, hE, e⟩
    · rw [e]
      exact ih d2 b0 z2 h2 (by omega)
theorem pj_loop2 {α0 α1 ρ : Type} {F : (α0 → α1 → pj_S → Option ρ) → α0 → α1 → pj_S → Option ρ} (P : Nat → α0 → α1 → pj_S → Prop) (E : α0 → α1 → pj_S → Prop) (G : α0 → α1 → pj_S → Option ρ)
    (hs : ∀ (self : α0 → α1 → pj_S → Option ρ) (d : Nat) (a0 : α0) (a1 : α1) (z : pj_S), P d a0 a1 z → (E a0 a1 z ∧ F self a0 a1 z = G a0 a1 z) ∨ ∃ (d2 : Nat) (b0 : α0) (b1 : α1) (z2 : pj_S), d2 < d ∧ P d2 b0 b1 z2 ∧ F self a0 a1 z = self b0 b1 z2) :
    ∀ (n d : Nat) (a0 : α0) (a1 : α1) (z : pj_S), P d a0 a1 z → d < n → ∃ (b0 : α0) (b1 : α1) (z2 : pj_S), E b0 b1 z2 ∧ pj_lp2 F n a0 a1 z = G b0 b1 z2 := by
  intro n
  induction n with
  | zero => intro d a0 a1 z _ h; omega
  | succ n ih =>
    intro d a0 a1 z hP hd
    rw [pj_lp2_s]
    rcases hs (pj_lp2 F n) d a0 a1 z hP with ⟨hE, e⟩ | ⟨d2, b0, b1, z2, h1, h2, e⟩
    · exact ⟨a0, a1, z, hE, e⟩
    · rw [e]
      exact ih d2 b0 b1 z2 h2 (by omega)
theorem pj_loop3 {α0 α1 α2 ρ : Type} {F : (α0 → α1 → α2 → pj_S → Option ρ) → α0 → α1 → α2 → pj_S → Option ρ} (P : Nat → α0 → α1 → α2 → pj_S → Prop) (E : α0 → α1 → α2 → pj_S → Prop) (G : α0 → α1 → α2 → pj_S → Option ρ)
    (hs : ∀ (self : α0 → α1 → α2 → pj_S → Option ρ) (d : Nat) (a0 : α0) (a1 : α1) (a2 : α2) (z : pj_S), P d a0 a1 a2 z → (E a0 a1 a2 z ∧ F self a0 a1 a2 z = G a0 a1 a2 z) ∨ ∃ (d2 : Nat) (b0 : α0) (b1 : α1) (b2 : α2) (z2 : pj_S), d2 < d ∧ P d2 b0 b1 b2 z2 ∧ F self a0 a1 a2 z = self b0 b1 b2 z2) :
    ∀ (n d : Nat) (a0 : α0) (a1 : α1) (a2 : α2) (z : pj_S), P d a0 a1 a2 z → d < n → ∃ (b0 : α0) (b1 : α1) (b2 : α2) (z2 : pj_S), E b0 b1 b2 z2 ∧ pj_lp3 F n a0 a1 a2 z = G b0 b1 b2 z2 := by
  intro n
  induction n with
  | zero => intro d a0 a1 a2 z _ h; omega
  | succ n ih =>
    intro d a0 a1 a2 z hP hd
    rw [pj_lp3_s]
    rcases hs (pj_lp3 F n) d a0 a1 a2 z hP with ⟨hE, e⟩ | ⟨d2, b0, b1, b2, z2, h1, h2, e⟩
    · exact ⟨a0, a1, a2, z, hE, e⟩
    · rw [e]
      exact ih d2 b0 b1 b2 z2 h2 (by omega)
theorem pj_loop4 {α0 α1 α2 α3 ρ : Type} {F : (α0 → α1 → α2 → α3 → pj_S → Option ρ) → α0 → α1 → α2 → α3 → pj_S → Option ρ} (P : Nat → α0 → α1 → α2 → α3 → pj_S → Prop) (E : α0 → α1 → α2 → α3 → pj_S → Prop) (G : α0 → α1 → α2 → α3 → pj_S → Option ρ)
    (hs : ∀ (self : α0 → α1 → α2 → α3 → pj_S → Option ρ) (d : Nat) (a0 : α0) (a1 : α1) (a2 : α2) (a3 : α3) (z : pj_S), P d a0 a1 a2 a3 z → (E a0 a1 a2 a3 z ∧ F self a0 a1 a2 a3 z = G a0 a1 a2 a3 z) ∨ ∃ (d2 : Nat) (b0 : α0) (b1 : α1) (b2 : α2) (b3 : α3) (z2 : pj_S), d2 < d ∧ P d2 b0 b1 b2 b3 z2 ∧ F self a0 a1 a2 a3 z = self b0 b1 b2 b3 z2) :
    ∀ (n d : Nat) (a0 : α0) (a1 : α1) (a2 : α2) (a3 : α3) (z : pj_S), P d a0 a1 a2 a3 z → d < n → ∃ (b0 : α0) (b1 : α1) (b2 : α2) (b3 : α3) (z2 : pj_S), E b0 b1 b2 b3 z2 ∧ pj_lp4 F n a0 a1 a2 a3 z = G b0 b1 b2 b3 z2 := by
  intro n
  induction n with
  | zero => intro d a0 a1 a2 a3 z _ h; omega
  | succ n ih =>
    intro d a0 a1 a2 a3 z hP hd
    rw [pj_lp4_s]
    rcases hs (pj_lp4 F n) d a0 a1 a2 a3 z hP with ⟨hE, e⟩ | ⟨d2, b0, b1, b2, b3, z2, h1, h2, e⟩
    · exact ⟨a0, a1, a2, a3, z, hE, e⟩
    · rw [e]
      exact ih d2 b0 b1 b2 b3 z2 h2 (by omega)
theorem pj_loop5 {α0 α1 α2 α3 α4 ρ : Type} {F : (α0 → α1 → α2 → α3 → α4 → pj_S → Option ρ) → α0 → α1 → α2 → α3 → α4 → pj_S → Option ρ} (P : Nat → α0 → α1 → α2 → α3 → α4 → pj_S → Prop) (E : α0 → α1 → α2 → α3 → α4 → pj_S → Prop) (G : α0 → α1 → α2 → α3 → α4 → pj_S → Option ρ)
    (hs : ∀ (self : α0 → α1 → α2 → α3 → α4 → pj_S → Option ρ) (d : Nat) (a0 : α0) (a1 : α1) (a2 : α2) (a3 : α3) (a4 : α4) (z : pj_S), P d a0 a1 a2 a3 a4 z → (E a0 a1 a2 a3 a4 z ∧ F self a0 a1 a2 a3 a4 z = G a0 a1 a2 a3 a4 z) ∨ ∃ (d2 : Nat) (b0 : α0) (b1 : α1) (b2 : α2) (b3 : α3) (b4 : α4) (z2 : pj_S), d2 < d ∧ P d2 b0 b1 b2 b3 b4 z2 ∧ F self a0 a1 a2 a3 a4 z = self b0 b1 b2 b3 b4 z2) :
    ∀ (n d : Nat) (a0 : α0) (a1 : α1) (a2 : α2) (a3 : α3) (a4 : α4) (z : pj_S), P d a0 a1 a2 a3 a4 z → d < n → ∃ (b0 : α0) (b1 : α1) (b2 : α2) (b3 : α3) (b4 : α4) (z2 : pj_S), E b0 b1 b2 b3 b4 z2 ∧ pj_lp5 F n a0 a1 a2 a3 a4 z = G b0 b1 b2 b3 b4 z2 := by
  intro n
  induction n with
  | zero => intro d a0 a1 a2 a3 a4 z _ h; omega
  | succ n ih =>
    intro d a0 a1 a2 a3 a4 z hP hd
    rw [pj_lp5_s]
    rcases hs (pj_lp5 F n) d a0 a1 a2 a3 a4 z hP with ⟨hE, e⟩ | ⟨d2, b0, b1, b2, b3, b4, z2, h1, h2, e⟩
    · exact ⟨a0, a1, a2, a3, a4, z, hE, e⟩
    · rw [e]
      exact ih d2 b0 b1 b2 b3 b4 z2 h2 (by omega)
theorem pj_loop6 {α0 α1 α2 α3 α4 α5 ρ : Type} {F : (α0 → α1 → α2 → α3 → α4 → α5 → pj_S → Option ρ) → α0 → α1 → α2 → α3 → α4 → α5 → pj_S → Option ρ} (P : Nat → α0 → α1 → α2 → α3 → α4 → α5 → pj_S → Prop) (E : α0 → α1 → α2 → α3 → α4 → α5 → pj_S → Prop) (G : α0 → α1 → α2 → α3 → α4 → α5 → pj_S → Option ρ)
    (hs : ∀ (self : α0 → α1 → α2 → α3 → α4 → α5 → pj_S → Option ρ) (d : Nat) (a0 : α0) (a1 : α1) (a2 : α2) (a3 : α3) (a4 : α4) (a5 : α5) (z : pj_S), P d a0 a1 a2 a3 a4 a5 z → (E a0 a1 a2 a3 a4 a5 z ∧ F self a0 a1 a2 a3 a4 a5 z = G a0 a1 a2 a3 a4 a5 z) ∨ ∃ (d2 : Nat) (b0 : α0) (b1 : α1) (b2 : α2) (b3 : α3) (b4 : α4) (b5 : α5) (z2 : pj_S), d2 < d ∧ P d2 b0 b1 b2 b3 b4 b5 z2 ∧ F self a0 a1 a2 a3 a4 a5 z = self b0 b1 b2 b3 b4 b5 z2) :
    ∀ (n d : Nat) (a0 : α0) (a1 : α1) (a2 : α2) (a3 : α3) (a4 : α4) (a5 : α5) (z : pj_S), P d a0 a1 a2 a3 a4 a5 z → d < n → ∃ (b0 : α0) (b1 : α1) (b2 : α2) (b3 : α3) (b4 : α4) (b5 : α5) (z2 : pj_S), E b0 b1 b2 b3 b4 b5 z2 ∧ pj_lp6 F n a0 a1 a2 a3 a4 a5 z = G b0 b1 b2 b3 b4 b5 z2 := by
  intro n
  induction n with
  | zero => intro d a0 a1 a2 a3 a4 a5 z _ h; omega
  | succ n ih =>
    intro d a0 a1 a2 a3 a4 a5 z hP hd
    rw [pj_lp6_s]
    rcases hs (pj_lp6 F n) d a0 a1 a2 a3 a4 a5 z hP with ⟨hE, e⟩ | ⟨d2, b0, b1, b2, b3, b4, b5, z2, h1, h2, e⟩
    · exact ⟨a0, a1, a2, a3, a4, a5, z, hE, e⟩
    · rw [e]
      exact ih d2 b0 b1 b2 b3 b4 b5 z2 h2 (by omega)
theorem pj_loop7 {α0 α1 α2 α3 α4 α5 α6 ρ : Type} {F : (α0 → α1 → α2 → α3 → α4 → α5 → α6 → pj_S → Option ρ) → α0 → α1 → α2 → α3 → α4 → α5 → α6 → pj_S → Option ρ} (P : Nat → α0 → α1 → α2 → α3 → α4 → α5 → α6 → pj_S → Prop) (E : α0 → α1 → α2 → α3 → α4 → α5 → α6 → pj_S → Prop) (G : α0 → α1 → α2 → α3 → α4 → α5 → α6 → pj_S → Option ρ)
    (hs : ∀ (self : α0 → α1 → α2 → α3 → α4 → α5 → α6 → pj_S → Option ρ) (d : Nat) (a0 : α0) (a1 : α1) (a2 : α2) (a3 : α3) (a4 : α4) (a5 : α5) (a6 : α6) (z : pj_S), P d a0 a1 a2 a3 a4 a5 a6 z → (E a0 a1 a2 a3 a4 a5 a6 z ∧ F self a0 a1 a2 a3 a4 a5 a6 z = G a0 a1 a2 a3 a4 a5 a6 z) ∨ ∃ (d2 : Nat) (b0 : α0) (b1 : α1) (b2 : α2) (b3 : α3) (b4 : α4) (b5 : α5) (b6 : α6) (z2 : pj_S), d2 < d ∧ P d2 b0 b1 b2 b3 b4 b5 b6 z2 ∧ F self a0 a1 a2 a3 a4 a5 a6 z = self b0 b1 b2 b3 b4 b5 b6 z2) :
    ∀ (n d : Nat) (a0 : α0) (a1 : α1) (a2 : α2) (a3 : α3) (a4 : α4) (a5 : α5) (a6 : α6) (z : pj_S), P d a0 a1 a2 a3 a4 a5 a6 z → d < n → ∃ (b0 : α0) (b1 : α1) (b2 : α2) (b3 : α3) (b4 : α4) (b5 : α5) (b6 : α6) (z2 : pj_S), E b0 b1 b2 b3 b4 b5 b6 z2 ∧ pj_lp7 F n a0 a1 a2 a3 a4 a5 a6 z = G b0 b1 b2 b3 b4 b5 b6 z2 := by
  intro n
  induction n with
  | zero => intro d a0 a1 a2 a3 a4 a5 a6 z _ h; omega
  | succ n ih =>
    intro d a0 a1 a2 a3 a4 a5 a6 z hP hd
    rw [pj_lp7_s]
    rcases hs (pj_lp7 F n) d a0 a1 a2 a3 a4 a5 a6 z hP with ⟨hE, e⟩ | ⟨d2, b0, b1, b2, b3, b4, b5, b6, z2, h1, h2, e⟩
    · exact ⟨a0, a1, a2, a3, a4, a5, a6, z, hE, e⟩
    · rw [e]
      exact ih d2 b0 b1 b2 b3 b4 b5 b6 z2 h2 (by omega)
theorem pj_loop8 {α0 α1 α2 α3 α4 α5 α6 α7 ρ : Type} {F : (α0 → α1 → α2 → α3 → α4 → α5 → α6 → α7 → pj_S → Option ρ) → α0 → α1 → α2 → α3 → α4 → α5 → α6 → α7 → pj_S → Option ρ} (P : Nat → α0 → α1 → α2 → α3 → α4 → α5 → α6 → α7 → pj_S → Prop) (E : α0 → α1 → α2 → α3 → α4 → α5 → α6 → α7 → pj_S → Prop) (G : α0 → α1 → α2 → α3 → α4 → α5 → α6 → α7 → pj_S → Option ρ)
    (hs : ∀ (self : α0 → α1 → α2 → α3 → α4 → α5 → α6 → α7 → pj_S → Option ρ) (d : Nat) (a0 : α0) (a1 : α1) (a2 : α2) (a3 : α3) (a4 : α4) (a5 : α5) (a6 : α6) (a7 : α7) (z : pj_S), P d a0 a1 a2 a3 a4 a5 a6 a7 z → (E a0 a1 a2 a3 a4 a5 a6 a7 z ∧ F self a0 a1 a2 a3 a4 a5 a6 a7 z = G a0 a1 a2 a3 a4 a5 a6 a7 z) ∨ ∃ (d2 : Nat) (b0 : α0) (b1 : α1) (b2 : α2) (b3 : α3) (b4 : α4) (b5 : α5) (b6 : α6) (b7 : α7) (z2 : pj_S), d2 < d ∧ P d2 b0 b1 b2 b3 b4 b5 b6 b7 z2 ∧ F self a0 a1 a2 a3 a4 a5 a6 a7 z = self b0 b1 b2 b3 b4 b5 b6 b7 z2) :
    ∀ (n d : Nat) (a0 : α0) (a1 : α1) (a2 : α2) (a3 : α3) (a4 : α4) (a5 : α5) (a6 : α6) (a7 : α7) (z : pj_S), P d a0 a1 a2 a3 a4 a5 a6 a7 z → d < n → ∃ (b0 : α0) (b1 : α1) (b2 : α2) (b3 : α3) (b4 : α4) (b5 : α5) (b6 : α6) (b7 : α7) (z2 : pj_S), E b0 b1 b2 b3 b4 b5 b6 b7 z2 ∧ pj_lp8 F n a0 a1 a2 a3 a4 a5 a6 a7 z = G b0 b1 b2 b3 b4 b5 b6 b7 z2 := by
  intro n
  induction n with
  | zero => intro d a0 a1 a2 a3 a4 a5 a6 a7 z _ h; omega
  | succ n ih =>
    intro d a0 a1 a2 a3 a4 a5 a6 a7 z hP hd
    rw [pj_lp8_s]
    rcases hs (pj_lp8 F n) d a0 a1 a2 a3 a4 a5 a6 a7 z hP with ⟨hE, e⟩ | ⟨d2, b0, b1, b2, b3, b4, b5, b6, b7, z2, h1, h2, e⟩
    · exact ⟨a0, a1, a2, a3, a4, a5, a6, a7, z, hE, e⟩
    · rw [e]
      exact ih d2 b0 b1 b2 b3 b4 b5 b6 b7 z2 h2 (by omega)
/-! state: what is read behind a write -/
theorem pj_sI1 (z : pj_S) (k j : Nat) (v : Int32) (a : Nat) : (pj_sI z k j v).1 a = if a = k then upd (z.1 a) j v else z.1 a := rfl
theorem pj_sI2 (z : pj_S) (k j : Nat) (v : Int32) : (pj_sI z k j v).2 = z.2 := rfl
theorem pj_sJ1 (z : pj_S) (k j : Nat) (v : Int64) : (pj_sJ z k j v).1 = z.1 := rfl
theorem pj_sJ2 (z : pj_S) (k j : Nat) (v : Int64) (a : Nat) : (pj_sJ z k j v).2 a = if a = k then vp_updL (z.2 a) j v else z.2 a := rfl
theorem pj_cp1 (z : pj_S) (k0 k1 sp dp n : Nat) (a : Nat) : (pj_sC z k0 k1 sp dp n).1 a = if a = k1 then va_cpy (z.1 k0) (z.1 k1) sp dp n else z.1 a := rfl
theorem pj_cp2 (z : pj_S) (k0 k1 sp dp n : Nat) : (pj_sC z k0 k1 sp dp n).2 = z.2 := rfl
theorem pj_upd (f : Nat → Int32) (k : Nat) (x : Int32) (j : Nat) : upd f k x j = if j = k then x else f j := rfl
theorem pj_updL (f : Nat → Int64) (k : Nat) (x : Int64) (j : Nat) : vp_updL f k x j = if j = k then x else f j := rfl
/-! bits -/
def tb (x : Int64) (i : Nat) : Bool := x.toBitVec.getLsbD i
theorem tb_ext {x y : Int64} (h : ∀ i, i < 64 → tb x i = tb y i) : x = y := Int64.toBitVec_inj.mp (BitVec.eq_of_getLsbD_eq (fun i hi => h i hi))
theorem tb_ge {x : Int64} {i : Nat} (h : 64 ≤ i) : tb x i = false := BitVec.getLsbD_of_ge _ _ h
theorem tb_and (x y : Int64) (i : Nat) : tb (x &&& y) i = (tb x i && tb y i) := by simp [tb]
theorem tb_or (x y : Int64) (i : Nat) : tb (x ||| y) i = (tb x i || tb y i) := by simp [tb]
theorem tb_xor (x y : Int64) (i : Nat) : tb (x ^^^ y) i = (tb x i ^^ tb y i) := by simp [tb]
theorem tb_0 (i : Nat) : tb 0 i = false := by simp [tb]
theorem tb_m1 (i : Nat) : tb (-1) i = decide (i < 64) := by
  have h : (-1 : Int64).toBitVec = BitVec.allOnes 64 := by decide
  unfold tb
  rw [h, BitVec.getLsbD_allOnes]
theorem tb_not (x : Int64) (i : Nat) (h : i < 64) : tb (x ^^^ -1) i = !tb x i := by
  rw [tb_xor, tb_m1]
  simp [h]
theorem wb_c : ∀ k, k < 64 → ((nI k).toInt64 &&& 63) = lN k := by decide +kernel
theorem wb_cu : ∀ k, k < 64 → ((nI k).toInt64.toUInt64 &&& Int64.toUInt64 63) = UInt64.ofNat k := by decide +kernel
theorem wb_sm : ∀ k, k < 64 → (BitVec.ofNat 64 k).smod 64 = BitVec.ofNat 64 k := by decide +kernel
theorem tb_ushr (x : Int64) (n : Nat) (hn : n < 64) (i : Nat) : tb (pj_ushrL x (nI n)) i = tb x (n + i) := by
  unfold pj_ushrL tb
  rw [wb_cu n hn]
  have h1 : (UInt64.ofNat n).toNat = n := by
    show (BitVec.ofNat 64 n).toNat = n
    rw [BitVec.toNat_ofNat, Nat.mod_eq_of_lt (by omega)]
  have h2 : ((x.toUInt64 >>> UInt64.ofNat n).toInt64).toBitVec = x.toBitVec >>> n := by
    apply BitVec.eq_of_toNat_eq
    show (x.toUInt64 >>> UInt64.ofNat n).toNat = _
    rw [UInt64.toNat_shiftRight, h1, Nat.mod_eq_of_lt hn, BitVec.toNat_ushiftRight]
    rfl
  rw [h2, BitVec.getLsbD_ushiftRight]
theorem tb_shl (x : Int64) (n : Nat) (hn : n < 64) (i : Nat) (hi : i < 64) : tb (pj_shlL x (nI n)) i = (decide (n ≤ i) && tb x (i - n)) := by
  unfold pj_shlL tb
  rw [wb_c n hn, Int64.toBitVec_shiftLeft]
  show (x.toBitVec <<< ((BitVec.ofNat 64 n).smod 64)).getLsbD i = _
  rw [wb_sm n hn, BitVec.shiftLeft_eq', BitVec.getLsbD_shiftLeft, BitVec.toNat_ofNat, Nat.mod_eq_of_lt (show n < 2 ^ 64 by omega)]
  have : (!decide (i < n)) = decide (n ≤ i) := by by_cases h : n ≤ i <;> simp [h] <;> omega
  simp [hi, this]
theorem tb_1 (i : Nat) : tb 1 i = decide (i = 0) := by
  have h : (1 : Int64).toBitVec = 1#64 := by decide
  simp [tb, h, BitVec.getLsbD_one]
theorem tb_bit (n : Nat) (hn : n < 64) (i : Nat) : tb (pj_shlL 1 (nI n)) i = decide (i = n) := by
  by_cases hi : i < 64
  · rw [tb_shl 1 n hn i hi, tb_1]
    by_cases h : n ≤ i
    · simp [h]; omega
    · simp [h]; omega
  · rw [tb_ge (by omega)]
    simp
    omega
def b2i (b : Bool) : Int32 := nI b.toNat
theorem b2i_1 {b : Bool} : b2i b = 1 ↔ b = true := by cases b <;> decide
theorem b2i_0 {b : Bool} : b2i b = 0 ↔ b = false := by cases b <;> decide
theorem b2i_inj {a b : Bool} : b2i a = b2i b ↔ a = b := by cases a <;> cases b <;> decide
theorem tb_bitOf (x : Int64) (n : Nat) (hn : n < 64) : Int64.toInt32 ((pj_ushrL x (nI n)) &&& 1) = b2i (tb x n) := by
  have h : (pj_ushrL x (nI n)) &&& 1 = if tb x n then 1 else 0 := by
    apply tb_ext
    intro i hi
    rw [tb_and, tb_ushr x n hn, tb_1]
    by_cases h0 : i = 0
    · subst h0
      cases hb : tb x n <;> simp [hb, tb_0, tb_1]
    · cases hb : tb x n <;> simp [h0, tb_0, tb_1]
  rw [h]
  cases tb x n <;> rfl
theorem PJ_bitOf_eq (x : Int64) (n : Nat) (hn : n < 64) (z : pj_S) : PJ_bitOf x (nI n) z = some (b2i (tb x n), z) := by
  unfold PJ_bitOf
  rw [tb_bitOf x n hn]
