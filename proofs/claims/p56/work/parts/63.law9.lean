/-! the law, call by call: the means -/
theorem nsum_le {f : Nat → Nat} : ∀ {n : Nat}, (∀ k, k < n → f k ≤ 20) → nsum f n ≤ 20 * n
  | 0, _ => Nat.le_refl _
  | n + 1, h => by
    show nsum f n + f n ≤ 20 * (n + 1)
    have h1 := nsum_le (f := f) (n := n) (fun k hk => h k (by omega))
    have h2 := h n (by omega)
    omega
section LAW9
variable {E : pmEv0} {n : Nat} {self : lSelf} {i5 : Int32} {m : pmI} {D : Nat → Nat → UInt64} {w k : Nat} {W : Wd}
theorem nan_ok {x : UInt64} (h : Op.cmpValue (FP.dcmp x x) .l = z 0) (m : pmI) : fJxe99ae_doubleToLongBits_ccdee x m = some (UInt64.toInt64 x) := by
  unfold fJxe99ae_doubleToLongBits_ccdee fJxe99ae_isNaN_b9ae7
  rw [if_pos h, obind, if_pos rfl]
theorem nanf_ok {x : UInt32} (h : Op.cmpValue (FP.fcmp x x) .l = z 0) (m : pmI) : fJxf58ca_floatToIntBits_5c35a x m = some (UInt32.toInt32 x) := by
  unfold fJxf58ca_floatToIntBits_5c35a fJxf58ca_isNaN_12338
  rw [if_pos h, obind, if_pos rfl]
end LAW9

