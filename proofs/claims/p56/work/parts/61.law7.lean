/-! the law, call by call: writeRow, the means -/
section LAW7
variable {E : pmEv0} {n : Nat} {self : lSelf} {i5 : Int32} {m : pmI} {D : Nat → Nat → UInt64} {w k : Nat} {W : Wd}
/-- a row's signs, the first i of them -/
def rowF (A : Ab) (y : Nat) : Nat → Nat → Nat
  | 0 => fun _ => 0
  | i + 1 => fun q => if q = i then sgn A (8 * y + i) else rowF A y i q
theorem c_row (h : cInv m W) (hn : 20 ≤ n) {y : Nat} (hy : y < 8) : ∀ (d i q : Nat) (m : pmI), i + d = 8 → d < q → cInv m (wLi W i (rowF (wA W) y i)) → ∃ m', lX8_writeRow_l17 n (z (y : Int)) q (z (i : Int)) m = some m' ∧ cInv m' (wLi W 8 (rowF (wA W) y 8)) ∧ cOut m m'
  | 0, i, q + 1, m, h1, _, hC => by
    obtain rfl : i = 8 := by omega
    refine ⟨m, ?_, hC, cOut_rf⟩
    show bX8_writeRow_l17 n (z (y : Int)) (lX8_writeRow_l17 n (z (y : Int)) q) (z ((8 : Nat) : Int)) m = _
    unfold bX8_writeRow_l17
    rw [if_neg (zge (by omega))]
  | d + 1, i, q + 1, m, h1, h2, hC => by
    have hs := c_signAt (n := n) hC.1 hC.2.1 hn (c := 8 * y + i) (by omega)
    obtain ⟨m1, e1, i1, o1⟩ := c_put hC (by omega) (sgn_lt (wA W) (8 * y + i))
    obtain ⟨m2, e2, i2, o2⟩ := c_row h hn hy d (i + 1) q m1 (by omega) (by omega) i1
    refine ⟨m2, ?_, i2, cOut_tr o1 o2⟩
    show bX8_writeRow_l17 n (z (y : Int)) (lX8_writeRow_l17 n (z (y : Int)) q) (z (i : Int)) m = _
    unfold bX8_writeRow_l17
    rw [if_pos (zlt (by omega)), f_cellAt, obind, show 8 * (y : Int) + (i : Int) = ((8 * y + i : Nat) : Int) by omega, hs, obind, show sgn (wA (wLi W i (rowF (wA W) y i))) (8 * y + i) = sgn (wA W) (8 * y + i) from rfl, e1, obind, z_add]
    exact e2
end LAW7

