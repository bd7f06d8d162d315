/-! areas: the model's labels -/
def GX (P : Nat → Bool) (g : Nat → Nat) (c d : Nat) : Prop := ∀ c' d', (c' < c ∨ (c' = c ∧ d' < d)) → c' < 64 → d' < 4 → P c' = false → ∀ e, nb c' d' = some e → P e = false → g c' ≤ g e
def GP (P : Nat → Bool) (g0 g : Nat → Nat) (fl c d : Nat) : Prop := (fl = 0 ∧ g = g0 ∧ GX P g c d) ∨ (fl = 1 ∧ nsum g 64 < nsum g0 64)
def GJ (P : Nat → Bool) (g : Nat → Nat) : Prop := ∀ c, c < 64 → g c ≤ c ∧ (P c = false → P (g c) = false ∧ K P c (g c) = true)
def gfr (m m' : pmI) : Prop := (∀ i, ¬ i = 120 → m'.1 i = m.1 i) ∧ m'.2 = m.2
theorem gfr_rf {m : pmI} : gfr m m := ⟨fun _ _ => rfl, rfl⟩
theorem gfr_tr {m m1 m2 : pmI} (h1 : gfr m m1) (h2 : gfr m1 m2) : gfr m m2 := ⟨fun i a => (h2.1 i a).trans (h1.1 i a), h2.2.trans h1.2⟩
def GR (m : pmI) (g : Nat → Nat) : Prop := ∀ c, c < 64 → m.1 120 c = z (g c)
theorem GP_le {P : Nat → Bool} {g0 g : Nat → Nat} {fl c d : Nat} (h : GP P g0 g fl c d) : nsum g 64 ≤ nsum g0 64 := by
  rcases h with ⟨-, h, -⟩ | ⟨-, h⟩
  · rw [h]; exact Nat.le_refl _
  · omega
theorem GP_st {P : Nat → Bool} {g0 g : Nat → Nat} {fl c d : Nat} (h : GP P g0 g fl c d) (hn : ∀ e, nb c d = some e → P e = false → g c ≤ g e) : GP P g0 g fl c (d + 1) := by
  rcases h with ⟨h1, h2, h3⟩ | h
  · refine Or.inl ⟨h1, h2, fun c' d' h4 h5 h6 h7 e h8 h9 => ?_⟩
    by_cases e0 : c' = c ∧ d' = d
    · obtain ⟨rfl, rfl⟩ := e0
      exact hn e h8 h9
    · exact h3 c' d' (by omega) h5 h6 h7 e h8 h9
  · exact Or.inr h
theorem GP_nx {P : Nat → Bool} {g0 g : Nat → Nat} {fl c : Nat} (h : GP P g0 g fl c 4) : GP P g0 g fl (c + 1) 0 := by
  rcases h with ⟨h1, h2, h3⟩ | h
  · exact Or.inl ⟨h1, h2, fun c' d' h4 h5 h6 h7 e h8 h9 => h3 c' d' (by omega) h5 h6 h7 e h8 h9⟩
  · exact Or.inr h
theorem GP_no {P : Nat → Bool} {g0 g : Nat → Nat} {fl c : Nat} (h : GP P g0 g fl c 0) (hc : P c = true) : GP P g0 g fl (c + 1) 0 := by
  rcases h with ⟨h1, h2, h3⟩ | h
  · refine Or.inl ⟨h1, h2, fun c' d' h4 h5 h6 h7 e h8 h9 => ?_⟩
    by_cases e0 : c' = c
    · rw [e0, hc] at h7; cases h7
    · exact h3 c' d' (by omega) h5 h6 h7 e h8 h9
  · exact Or.inr h
theorem GX_eq {P : Nat → Bool} {g : Nat → Nat} (h : GX P g 64 0) {a e : Nat} (ha : a < 64) (hp : P a = false) (hq : P e = false) (hd : adj a e = true) : g a = g e := by
  have he := adj_lt ha hd
  obtain ⟨d, d1, d2⟩ := adj_ex hd
  obtain ⟨u, u1, u2⟩ := adj_ex (adj_sym ha hd)
  have h1 := h a d (Or.inl ha) ha d1 hp e d2 hq
  have h2 := h e u (Or.inl he) he u1 hq a u2 hp
  omega
theorem GX_K {P : Nat → Bool} {g : Nat → Nat} (h : GX P g 64 0) {a : Nat} (ha : a < 64) (hp : P a = false) : ∀ {k c : Nat}, R P a k c = true → g a = g c
  | 0, c, hr => by rw [R_z.mp hr]
  | k + 1, c, hr => by
    rcases R_s.mp hr with h1 | ⟨h1, e, h2, h3, h4⟩
    · exact GX_K h ha hp h1
    · rw [GX_K h ha hp h4]
      exact GX_eq h h2 (K_op hp (K_of ha h4)) h1 h3
theorem GX_lead {P : Nat → Bool} {g : Nat → Nat} (h : GX P g 64 0) (hJ : GJ P g) {c : Nat} (hc : c < 64) : lead P c = (!P c && decide (g c = c)) := by
  rw [Bool.eq_iff_iff, lead_iff, Bool.and_eq_true, Bool.not_eq_true', decide_eq_true_eq]
  constructor
  · rintro ⟨h1, h2⟩
    refine ⟨h1, ?_⟩
    obtain ⟨j1, j2⟩ := hJ c hc
    obtain ⟨j3, j4⟩ := j2 h1
    rcases Nat.lt_or_ge (g c) c with h3 | h3
    · have := h2 (g c) h3 j3
      rw [K_sy hc h1 j4] at this
      cases this
    · omega
  · rintro ⟨h1, h2⟩
    refine ⟨h1, fun b hb hp => Bool.eq_false_iff.mpr fun hk => ?_⟩
    have h3 := GX_K h (show b < 64 by omega) hp hk
    have h4 := (hJ b (by omega)).1
    omega

