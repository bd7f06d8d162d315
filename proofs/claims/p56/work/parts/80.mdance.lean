/-! figures: the model dances -/
def barr (A : Ab) (i : Nat) (q : Option Nat) : Option Nat → Bool
  | none => true
  | some c => decide (aNa A i = 0) || shut A i q c
theorem ce_inj {A : Ab} (w : wfA A) {i j : Nat} (hi : i < aC A) (hj : j < aC A) (e : aCe A i = aCe A j) : i = j := by
  rcases Nat.lt_trichotomy i j with g | g | g
  · exact absurd e (w.2.2.2.1 i j g hj).2
  · exact g
  · exact absurd e.symm (w.2.2.2.1 j i g hi).2
theorem shut_sy {A : Ab} {k j c : Nat} : shut A j (some k) c = shut A k (some j) c := by
  rw [Bool.eq_iff_iff, shut_iff, shut_iff]
  have q : ∀ a b i : Nat, (¬ i = a ∧ ¬ some i = some b) → (¬ i = b ∧ ¬ some i = some a) := fun a b i h => ⟨fun g => h.2 (by rw [g]), fun g => h.1 (Option.some.inj g)⟩
  constructor
  · rintro (h | ⟨i, h1, h2, h3, h4⟩)
    · exact Or.inl h
    · exact Or.inr ⟨i, h1, (q j k i ⟨h2, h3⟩).1, (q j k i ⟨h2, h3⟩).2, h4⟩
  · rintro (h | ⟨i, h1, h2, h3, h4⟩)
    · exact Or.inl h
    · exact Or.inr ⟨i, h1, (q k j i ⟨h2, h3⟩).1, (q k j i ⟨h2, h3⟩).2, h4⟩
theorem beat_n0 {A : Ab} {k v : Nat} (hv : ¬ v = 4) : dBeat A k none v = none ↔ barr A k none (nb (aCe A k) v) = true := by
  unfold dBeat
  rw [if_neg hv]
  cases nb (aCe A k) v with
  | none => exact ⟨fun _ => rfl, fun _ => rfl⟩
  | some t =>
    show (if aNa A k = 0 ∨ shut A k none t = true then none else _) = none ↔ (decide (aNa A k = 0) || shut A k none t) = true
    rw [Bool.or_eq_true, decide_eq_true_eq]
    by_cases h : aNa A k = 0 ∨ shut A k none t = true
    · rw [if_pos h]
      exact ⟨fun _ => h, fun _ => rfl⟩
    · rw [if_neg h]
      exact ⟨fun g => (nomatch g), fun g => absurd g h⟩
theorem beat_n1 {A : Ab} {k j v : Nat} (hv : ¬ v = 4) : dBeat A k (some j) v = none ↔ barr A k (some j) (nb (aCe A k) v) = true ∨ barr A j (some k) (nb (aCe A j) (mirr v)) = true ∨ nb (aCe A k) v = nb (aCe A j) (mirr v) ∨ (nb (aCe A k) v = some (aCe A j) ∧ nb (aCe A j) (mirr v) = some (aCe A k)) := by
  unfold dBeat
  rw [if_neg hv]
  cases nb (aCe A k) v with
  | none => exact ⟨fun _ => Or.inl rfl, fun _ => rfl⟩
  | some t =>
    dsimp only
    by_cases h : aNa A k = 0 ∨ shut A k (some j) t = true
    · rw [if_pos h]
      refine ⟨fun _ => Or.inl ?_, fun _ => rfl⟩
      show (decide (aNa A k = 0) || shut A k (some j) t) = true
      rw [Bool.or_eq_true, decide_eq_true_eq]
      exact h
    · have h' : ¬ barr A k (some j) (some t) = true := by
        show ¬ (decide (aNa A k = 0) || shut A k (some j) t) = true
        rw [Bool.or_eq_true, decide_eq_true_eq]
        exact h
      rw [if_neg h]
      cases nb (aCe A j) (mirr v) with
      | none => exact ⟨fun _ => Or.inr (Or.inl rfl), fun _ => rfl⟩
      | some u =>
        dsimp only
        have e1 : barr A j (some k) (some u) = true ↔ aNa A j = 0 ∨ shut A k (some j) u = true := by
          show (decide (aNa A j = 0) || shut A j (some k) u) = true ↔ _
          rw [Bool.or_eq_true, decide_eq_true_eq, shut_sy]
        by_cases h2 : aNa A j = 0 ∨ shut A k (some j) u = true
        · rw [if_pos h2]
          exact ⟨fun _ => Or.inr (Or.inl (e1.mpr h2)), fun _ => rfl⟩
        · rw [if_neg h2]
          by_cases h3 : t = u ∨ (t = aCe A j ∧ u = aCe A k)
          · rw [if_pos h3]
            refine ⟨fun _ => Or.inr (Or.inr ?_), fun _ => rfl⟩
            rcases h3 with h3 | ⟨h3, h4⟩
            · exact Or.inl (by rw [h3])
            · exact Or.inr ⟨by rw [h3], by rw [h4]⟩
          · rw [if_neg h3]
            refine ⟨fun g => (nomatch g), fun g => ?_⟩
            rcases g with g | g | g | ⟨g1, g2⟩
            · exact absurd g h'
            · exact absurd (e1.mp g) h2
            · exact absurd (Or.inl (Option.some.inj g)) h3
            · exact absurd (Or.inr ⟨Option.some.inj g1, Option.some.inj g2⟩) h3
theorem letr_b : ∀ v : Nat, v < 5 → (0 ≤ letr v ∧ letr v ≤ 100) ∧ (letr v = 83 ↔ v = 4) := by decide
theorem mirr_lt : ∀ v : Nat, v < 4 → mirr v < 4 := by decide
section MDANCE
variable {m : pmI} {A : Ab} {n : Nat}
theorem nb64 {A : Ab} (w : wfA A) {i v : Nat} (hi : i < aC A) : ∀ c, nb (aCe A i) v = some c → c < 64 := fun _ h => nb_lt (w.2.2.1 i hi).2.1 h
def dfr (m m' : pmI) : Prop := m'.2 = m.2 ∧ ∀ a, ¬ a = 114 → m'.1 a = m.1 a
theorem dfr_tr {m m1 m2 : pmI} (h1 : dfr m m1) (h2 : dfr m1 m2) : dfr m m2 := ⟨h2.1.trans h1.1, fun a ha => (h2.2 a ha).trans (h1.2 a ha)⟩
def efr (m m' : pmI) : Prop := m'.2 = m.2 ∧ (∀ a, ¬ a = 113 → ¬ a = 114 → m'.1 a = m.1 a) ∧ ∀ x, ¬ x = 13 → m'.1 113 x = m.1 113 x
theorem efr_tr {m m1 m2 : pmI} (h1 : efr m m1) (h2 : efr m1 m2) : efr m m2 := ⟨h2.1.trans h1.1, fun a ha hb => (h2.2.1 a ha hb).trans (h1.2.1 a ha hb), fun x hx => (h2.2.2 x hx).trans (h1.2.2 x hx)⟩
theorem efr_d {m m1 : pmI} (h : dfr m m1) : efr m m1 := ⟨h.1, fun a _ hb => h.2 a hb, fun x _ => by rw [h.2 113 (by decide)]⟩
theorem mfr_e {m m1 : pmI} (h : efr m m1) : mfr m m1 := ⟨fun i hi => h.2.1 i (by omega) (by omega), h.1, fun k hk => h.2.2 k (by omega)⟩
end MDANCE

