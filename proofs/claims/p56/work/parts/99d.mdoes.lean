/-! programs: the model does a command -/
section MDOES
variable {n T : Nat} {t : Nat → Nat} {A : Ab} {m : pmI}
/-- thrown, or the change made -/
def MStp (m : pmI) (s : Int × Int × Ab) (r : Option (Int32 × pmI)) : Prop := ∃ v m', r = some (v, m') ∧ mfr m m' ∧ ((¬ s.1 = 0 ∧ ¬ m'.1 113 10 = z 0) ∨ (s.1 = 0 ∧ m'.1 113 10 = z 0 ∧ repR (m'.1 114) s.2.2))
theorem MStp_of {s : Int × Int × Ab} {r : Option (Int32 × pmI)} {N : Int} (h : mRes m r s) (hs : sOk A s N) (hN : N < 100) : MStp m s (r.bind fun v => some (v.1, v.2)) := by
  obtain ⟨m', e, t1, f, r1⟩ := h
  refine ⟨z s.2.1, m', by rw [e, obind], f, ?_⟩
  rcases hs with ⟨a, -⟩ | ⟨a, -⟩
  · exact Or.inr ⟨a, by rw [t1, a], r1⟩
  · exact Or.inl ⟨by omega, by rw [t1]; exact zne (by omega)⟩
theorem m_13 (m : pmI) (x : Int32) : ∃ m2, (pmU m.1 113 13 x, m.2) = m2 ∧ mfr m m2 ∧ (m2.1 113 10 = m.1 113 10 ∧ m2.1 114 = m.1 114) := by
  obtain ⟨m2, e2, j2, o2, r2⟩ := w_1 m 113 13 x
  exact ⟨m2, e2, ⟨fun i hi => o2 i (by omega), j2, fun k hk => by rw [r2, if_neg (by omega)]⟩, by rw [r2, if_neg (by decide)], o2 114 (by decide)⟩
def mX (m : pmI) (T : Nat) (t : Nat → Nat) : Prop := ∀ k, k < T → m.1 125 k = z (t k : Int)
theorem mX_f {m1 : pmI} (h : mX m T t) (f : mfr m m1) : mX m1 T t := fun k hk => by rw [f.1 125 (by decide)]; exact h k hk
end MDOES

