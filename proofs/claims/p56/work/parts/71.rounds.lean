/-! searches over cells: the class in rounds -/
def IR (m : pmI) (h : Nat → Option Nat) : Prop := ∀ c, c < 64 → m.1 95 c = z (oz (h c))
def SJ (cl : Nat → Bool) (s : Nat) (h : Nat → Option Nat) (N : Nat) : Prop := h s = some 0 ∧ ∀ c, c < 64 → ∀ k, h c = some k → R cl s k c = true ∧ k ≤ N
def LE (h h' : Nat → Option Nat) : Prop := ∀ c, c < 64 → ∀ k, h c = some k → ∃ j, j ≤ k ∧ h' c = some j
theorem LE_rf {h : Nat → Option Nat} : LE h h := fun _ _ k hk => ⟨k, Nat.le_refl _, hk⟩
theorem LE_tr {h h1 h2 : Nat → Option Nat} (a : LE h h1) (b : LE h1 h2) : LE h h2 := fun c hc k hk => by
  obtain ⟨j, j1, j2⟩ := a c hc k hk
  obtain ⟨i, i1, i2⟩ := b c hc j j2
  exact ⟨i, by omega, i2⟩
theorem SJ_up {cl : Nat → Bool} {s N N' : Nat} {h : Nat → Option Nat} (a : SJ cl s h N) (hN : N ≤ N') : SJ cl s h N' := ⟨a.1, fun c hc k hk => ⟨(a.2 c hc k hk).1, Nat.le_trans (a.2 c hc k hk).2 hN⟩⟩
/-- what a round has seen at a cell: its ways -/
def SW (h0 h : Nat → Option Nat) (c d : Nat) : Prop := ∀ u, u < d → ∀ e, nb c u = some e → ∀ k, h0 e = some k → ∃ j, j ≤ k + 1 ∧ h c = some j
def PA (cl : Nat → Bool) (s : Nat) (h : Nat → Option Nat) (r : Nat) : Prop := ∀ c j, j ≤ r → R cl s j c = true → ∃ k, k ≤ j ∧ h c = some k
def CO (cl : Nat → Bool) (s : Nat) (h : Nat → Option Nat) : Prop := ∀ c j, R cl s j c = true → ∃ k, k ≤ j ∧ h c = some k
section ROUNDS
variable {n : Nat} {m : pmI}
theorem PA_up {s r : Nat} {cl : Nat → Bool} {h0 h : Nat → Option Nat} (hs : s < 64) (a : PA cl s h0 r) (b : LE h0 h) (w : ∀ c, c < 64 → cl c = false → SW h0 h c 4) : PA cl s h (r + 1) := fun c j hj hr => by
  have hc := R_lt hs hr
  by_cases e0 : j ≤ r
  · obtain ⟨k, k1, k2⟩ := a c j e0 hr
    obtain ⟨i, i1, i2⟩ := b c hc k k2
    exact ⟨i, by omega, i2⟩
  · obtain rfl : j = r + 1 := by omega
    rcases R_s.mp hr with h1 | ⟨h1, e, h2, h3, h4⟩
    · obtain ⟨k, k1, k2⟩ := a c r (Nat.le_refl _) h1
      obtain ⟨i, i1, i2⟩ := b c hc k k2
      exact ⟨i, by omega, i2⟩
    · obtain ⟨k, k1, k2⟩ := a e r (Nat.le_refl _) h4
      obtain ⟨d, hd, hn⟩ := adj_ex (adj_sym h2 h3)
      obtain ⟨i, i1, i2⟩ := w c hc h1 d hd e hn k k2
      exact ⟨i, by omega, i2⟩
theorem CO_fix {s : Nat} {cl : Nat → Bool} {h : Nat → Option Nat} (hs : s < 64) (a : h s = some 0) (w : ∀ c, c < 64 → cl c = false → SW h h c 4) : ∀ r, PA cl s h r
  | 0 => fun c j hj hr => by
    obtain rfl : j = 0 := by omega
    rw [R_z.mp hr]
    exact ⟨0, Nat.le_refl _, a⟩
  | r + 1 => PA_up hs (CO_fix hs a w r) LE_rf w
theorem CO_64 {s : Nat} {cl : Nat → Bool} {h : Nat → Option Nat} (hs : s < 64) (a : PA cl s h 64) : CO cl s h := fun c j hr => by
  by_cases e0 : j ≤ 64
  · exact a c j e0 hr
  · obtain ⟨k, k1, k2⟩ := a c 64 (Nat.le_refl _) (R_64 hs hr)
    exact ⟨k, by omega, k2⟩
end ROUNDS

