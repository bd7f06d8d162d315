/-! searches over cells: the model, until nothing changes -/
theorem nsum_bd {f : Nat → Nat} {b : Nat} : ∀ {n : Nat}, (∀ k, k < n → f k ≤ b) → nsum f n ≤ n * b
  | 0, _ => Nat.zero_le _
  | n + 1, h => by
    have ih := nsum_bd (f := f) (b := b) (n := n) (fun k hk => h k (by omega))
    have h0 := h n (by omega)
    show nsum f n + f n ≤ (n + 1) * b
    rw [Nat.succ_mul]
    omega
/-- the closed cells of a search -/
def clo (A : Ab) (b : Bool) (c : Nat) : Bool := aP A c || (b && decide (¬ spot A (c : Int) = none))
def fo : Option Nat → Int
  | none => 9999
  | some k => (k : Int)
def RJ (cl : Nat → Bool) (s : Nat) (g : Nat → Nat) : Prop := g s = 0 ∧ ∀ c, c < 64 → g c = 9999 ∨ (g c < 9999 ∧ R cl s (g c) c = true)
def RX (cl : Nat → Bool) (s : Nat) (g : Nat → Nat) (c d : Nat) : Prop := ∀ c' d', (c' < c ∨ (c' = c ∧ d' < d)) → c' < 64 → d' < 4 → cl c' = false → ¬ c' = s → ∀ e, nb c' d' = some e → g c' ≤ g e + 1
def PG (cl : Nat → Bool) (s : Nat) (g0 g : Nat → Nat) (fl c d : Nat) : Prop := (fl = 0 ∧ g = g0 ∧ RX cl s g c d) ∨ (fl = 1 ∧ nsum g 64 < nsum g0 64)
def rfr (m m' : pmI) : Prop := (∀ i, ¬ i = 119 → m'.1 i = m.1 i) ∧ m'.2 = m.2
theorem rfr_rf {m : pmI} : rfr m m := ⟨fun _ _ => rfl, rfl⟩
theorem rfr_tr {m m1 m2 : pmI} (h1 : rfr m m1) (h2 : rfr m1 m2) : rfr m m2 := ⟨fun i a => (h2.1 i a).trans (h1.1 i a), h2.2.trans h1.2⟩
def RR (m : pmI) (g : Nat → Nat) : Prop := ∀ c, c < 64 → m.1 119 c = z (g c)
theorem RJ_le {cl : Nat → Bool} {s : Nat} {g : Nat → Nat} (h : RJ cl s g) {c : Nat} (hc : c < 64) : g c ≤ 9999 := by
  rcases h.2 c hc with h | h <;> omega
theorem PG_le {cl : Nat → Bool} {s : Nat} {g0 g : Nat → Nat} {fl c d : Nat} (h : PG cl s g0 g fl c d) : nsum g 64 ≤ nsum g0 64 := by
  rcases h with ⟨-, h, -⟩ | ⟨-, h⟩
  · rw [h]; exact Nat.le_refl _
  · omega
theorem PG_fl {cl : Nat → Bool} {s : Nat} {g0 g : Nat → Nat} {fl c d : Nat} (h : PG cl s g0 g fl c d) : fl = 0 ∨ fl = 1 := by
  rcases h with ⟨h, -⟩ | ⟨h, -⟩
  · exact Or.inl h
  · exact Or.inr h
theorem PG_st {cl : Nat → Bool} {s : Nat} {g0 g : Nat → Nat} {fl c d : Nat} (h : PG cl s g0 g fl c d) (hn : ∀ e, nb c d = some e → g c ≤ g e + 1) : PG cl s g0 g fl c (d + 1) := by
  rcases h with ⟨h1, h2, h3⟩ | h
  · refine Or.inl ⟨h1, h2, fun c' d' h4 h5 h6 h7 h8 e h9 => ?_⟩
    by_cases e0 : c' = c ∧ d' = d
    · obtain ⟨rfl, rfl⟩ := e0
      exact hn e h9
    · exact h3 c' d' (by omega) h5 h6 h7 h8 e h9
  · exact Or.inr h
theorem PG_nx {cl : Nat → Bool} {s : Nat} {g0 g : Nat → Nat} {fl c : Nat} (h : PG cl s g0 g fl c 4) : PG cl s g0 g fl (c + 1) 0 := by
  rcases h with ⟨h1, h2, h3⟩ | h
  · exact Or.inl ⟨h1, h2, fun c' d' h4 h5 h6 h7 h8 e h9 => h3 c' d' (by omega) h5 h6 h7 h8 e h9⟩
  · exact Or.inr h
theorem PG_no {cl : Nat → Bool} {s : Nat} {g0 g : Nat → Nat} {fl c : Nat} (h : PG cl s g0 g fl c 0) (hc : cl c = true ∨ c = s) : PG cl s g0 g fl (c + 1) 0 := by
  rcases h with ⟨h1, h2, h3⟩ | h
  · refine Or.inl ⟨h1, h2, fun c' d' h4 h5 h6 h7 h8 e h9 => ?_⟩
    by_cases e0 : c' = c
    · subst e0
      rcases hc with hc | hc
      · rw [h7] at hc; cases hc
      · exact absurd hc h8
    · exact h3 c' d' (by omega) h5 h6 h7 h8 e h9
  · exact Or.inr h
theorem RX_R {cl : Nat → Bool} {s : Nat} {g : Nat → Nat} (hs : s < 64) (h0 : g s = 0) (h : RX cl s g 64 0) : ∀ {k c : Nat}, R cl s k c = true → g c ≤ k
  | 0, c, hr => by
    obtain rfl := R_z.mp hr
    omega
  | k + 1, c, hr => by
    have hc := R_lt hs hr
    rcases R_s.mp hr with h1 | ⟨h1, e, h2, h3, h4⟩
    · have := RX_R hs h0 h h1
      omega
    · by_cases e0 : c = s
      · rw [e0]; omega
      · obtain ⟨d, hd, hn⟩ := adj_ex (adj_sym h2 h3)
        have h5 := RX_R hs h0 h h4
        have h6 := h c d (Or.inl hc) hc hd h1 e0 e hn
        omega
theorem RX_D {cl : Nat → Bool} {s : Nat} {g : Nat → Nat} (hs : s < 64) (hJ : RJ cl s g) (h : RX cl s g 64 0) : Dst cl s (fun c => if g c = 9999 then none else some (g c)) := fun c hc => by
  refine ⟨fun k hk => ?_, fun k hk => ?_⟩
  · have hk : (if g c = 9999 then none else some (g c)) = some k := hk
    by_cases e0 : g c = 9999
    · rw [if_pos e0] at hk; cases hk
    · rw [if_neg e0] at hk
      cases hk
      rcases hJ.2 c hc with h1 | h1
      · exact absurd h1 e0
      · exact h1.2
  · have h1 := RX_R hs hJ.1 h hk
    have h2 := RX_R hs hJ.1 h (R_64 hs hk)
    exact ⟨g c, if_neg (by omega), h1⟩

