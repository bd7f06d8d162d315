/-! programs: the model reads a whole text -/
section MPROG
variable {n T a : Nat} {t : Nat → Nat}
/-- the commands read so far -/
def MPR (m : pmI) (cs : List Cm) : Prop := m.1 113 23 = z (cs.length : Int) ∧ ∀ i k as, cs[i]? = some (k, as) → (k < 9 ∧ List.length as ≤ 3) ∧ m.1 126 (5 * i) = z ((kd k : Nat) : Int) ∧ ∀ j, j < List.length as → m.1 126 (5 * i + 1 + j) = z ((as.getD j 0 : Nat) : Int)
end MPROG

