/-! the law's loop -/
section LOOP
variable {E : pmEv0} {n : Nat} {self : lSelf} {i5 : Int32} {m : pmI} {D : Nat → Nat → UInt64} {w k : Nat} {W : Wd}
theorem ite_S {c : Prop} {_ : Decidable c} {a b : Option lR} (ha : Sgo a self i5 w k) (hb : Sgo b self i5 w k) : Sgo (if c then a else b) self i5 w k := by
  split
  · exact ha
  · exact hb
end LOOP

