/-! the law, call by call: writeRow, the means -/
section LAW7
variable {E : pmEv0} {n : Nat} {self : lSelf} {i5 : Int32} {m : pmI} {D : Nat → Nat → UInt64} {w k : Nat} {W : Wd}
/-- a row's signs, the first i of them -/
def rowF (A : Ab) (y : Nat) : Nat → Nat → Nat
  | 0 => fun _ => 0
  | i + 1 => fun q => if q = i then sgn A (8 * y + i) else rowF A y i q
theorem c_row (h : cInv m W) (hn : 20 ≤ n) {y : Nat} (hy : y < 8) : ∀ (d i q : Nat) (m : pmI), i + d = 8 → d < q → cInv m (wLi W i (rowF (wA W) y i)) → ∃ m', lX8_writeRow_l17 n (z (y : Int)) q (z (i : Int)) m = some m' ∧ cInv m' (wLi W 8 (rowF (wA W) y 8)) ∧ cOut m m'
  | 0, i, q + 1, m, h1, _, hC => by
    obtain rfl : i = 8 := by omega
    refine ⟨m, ?_, hC, cOut_rf⟩
    show bX8_writeRow_l17 n (z (y : Int)) (lX8_writeRow_l17 n (z (y : Int)) q) (z ((8 : Nat) : Int)) m = _
    unfold bX8_writeRow_l17
    rw [if_neg (zge (by omega))]
  | d + 1, i, q + 1, m, h1, h2, hC => by
    have hs := c_signAt (n := n) hC.1 hC.2.1 hn (c := 8 * y + i) (by omega)
    obtain ⟨m1, e1, i1, o1⟩ := c_put hC (by omega) (sgn_lt (wA W) (8 * y + i))
    obtain ⟨m2, e2, i2, o2⟩ := c_row h hn hy d (i + 1) q m1 (by omega) (by omega) i1
    refine ⟨m2, ?_, i2, cOut_tr o1 o2⟩
    show bX8_writeRow_l17 n (z (y : Int)) (lX8_writeRow_l17 n (z (y : Int)) q) (z (i : Int)) m = _
    unfold bX8_writeRow_l17
    rw [if_pos (zlt (by omega)), f_cellAt, obind, show 8 * (y : Int) + (i : Int) = ((8 * y + i : Nat) : Int) by omega, hs, obind, show sgn (wA (wLi W i (rowF (wA W) y i))) (8 * y + i) = sgn (wA W) (8 * y + i) from rfl, e1, obind, z_add]
    exact e2
theorem m_row (w0 : wfA (wA W)) (hn : 20 ≤ n) {y : Nat} (hy : y < 8) : ∀ (d i q : Nat) (m : pmI), i + d = 8 → d < q → mInv m (wLi W i (rowF (wA W) y i)) → ∃ m', lX9_writeRow_l32 n (z (y : Int)) q (z (i : Int)) m = some m' ∧ mInv m' (wLi W 8 (rowF (wA W) y 8)) ∧ mOut m m' ∧ m'.1 113 10 = m.1 113 10
  | 0, i, q + 1, m, h1, _, hC => by
    obtain rfl : i = 8 := by omega
    refine ⟨m, ?_, hC, ⟨fun _ _ => rfl, rfl⟩, rfl⟩
    show bX9_writeRow_l32 n (z (y : Int)) (lX9_writeRow_l32 n (z (y : Int)) q) (z ((8 : Nat) : Int)) m = _
    unfold bX9_writeRow_l32
    rw [if_neg (zge (by omega))]
  | d + 1, i, q + 1, m, h1, h2, hC => by
    have w1 := w0.1
    have wx := w0.2.1
    have hR : repR (m.1 114) (wA W) := hC.1
    obtain ⟨m1, e1, i1, o1, t1, r1⟩ := m_puts (c := sgn (wA W) (8 * y + i)) hC (by omega)
    obtain ⟨m2, e2, i2, o2, t2⟩ := m_row w0 hn hy d (i + 1) q m1 (by omega) (by omega) i1
    refine ⟨m2, ?_, i2, mOut_tr o1 o2, t2.trans t1⟩
    show bX9_writeRow_l32 n (z (y : Int)) (lX9_writeRow_l32 n (z (y : Int)) q) (z (i : Int)) m = _
    unfold bX9_writeRow_l32 jX9_writeRow_89
    have fin : ((fX9_puts (z (sgn (wA W) (8 * y + i) : Int)) m).bind fun v7 => lX9_writeRow_l32 n (z (y : Int)) q ((z (i : Int)) + (z 1)) v7) = some m2 := by
      rw [e1, obind, z_add]
      exact e2
    rw [if_pos (zlt (by omega)), z_mul, z_add, show (i : Int) + 8 * (y : Int) = ((8 * y + i : Nat) : Int) by omega, m_on (n := n) hR w0 hn (by omega), obind, m_isProp hR (by omega), obind]
    unfold sgn at fin
    by_cases hp : aP (wA W) (8 * y + i) = true
    · rw [if_pos hp] at fin
      rw [if_pos hp, if_neg z10]
      exact fin
    · rw [if_neg hp] at fin
      rw [if_neg hp, if_pos rfl]
      cases hs : spot (wA W) ((8 * y + i : Nat) : Int) with
      | none =>
        rw [hs] at fin
        rw [oz_n, if_pos (zlt (by omega))]
        exact fin
      | some j =>
        rw [hs] at fin
        have hj := ff_some hs
        have hjc : j < aC (wA W) := by omega
        have hnu := (w0.2.2.1 j hjc).1
        have a1 : fX9_of (z (j : Int)) (z 0) m = some (m.1 114 (72 + 4 * j + 0)) := mr_of (j := 0) hR hjc w1 (by decide)
        have a2 : m.1 114 (72 + 4 * j + 0) = z (aNu (wA W) j) := (hR.2.1.2.2 j hjc).1
        rw [oz_s, if_neg (zge (by omega)), a1, obind, a2, z_mod10 (by omega), z_add, show (48 : Int) + ((aNu (wA W) j % 10 : Nat) : Int) = ((48 + aNu (wA W) j % 10 : Nat) : Int) by omega]
        exact fin
theorem law_writeRow (hn : 200 ≤ n) (h : cInv m W) (hM : mInv m W) (hB : wB W k) (q1 : okI (i5 + (z 1)) E.1 = true) : Sgo (jL_law_99998_2445 E n self i5 m D w) self i5 w k := by
  unfold jL_law_99998_2445
  obtain ⟨x, hx, ex⟩ := z_of (E.2.1 (Int32.toNatClampNeg (i5 + (z 1))))
  simp only [q1, if_true, ex]
  unfold fL_writeRow_0_127 fX8_writeRow
  rw [f_cellFault 0 x (by omega) hx, obind]
  by_cases hg : 0 ≤ x ∧ x < 8
  · obtain ⟨y, rfl⟩ : ∃ y : Nat, x = (y : Int) := ⟨x.toNat, by omega⟩
    have hy : y < 8 := by omega
    rw [if_pos (by omega), tf0, obind, oT_l]
    obtain ⟨m1, e1, i1, o1⟩ := c_lineEmpty (f := rowF (wA W) y 0) h
    obtain ⟨m2, e2, i2, o2⟩ := c_row (n := n) h (by omega) hy 8 0 n m1 (by omega) (by omega) i1
    have c2 : m2.1 111 1 = z ((8 : Nat) : Int) := i2.2.2.2.2.2.1.2.1
    rw [e1, obind, show z 0 = z ((0 : Nat) : Int) from rfl, e2, obind, c2]
    refine law_caseQ (c := 0) (t := z ((8 : Nat) : Int)) (t' := z ((8 : Nat) : Int)) (fm := fX9_writeRow n (z (y : Int))) (W' := wLi W 8 (rowF (wA W) y 8)) (l_helpQ (ex := 0) ⟨m2, rfl, cOut_tr o1 o2, i2⟩ hM (fun m2 h => absurd rfl h)) (fun m3 h3 => ?_) (fun _ => rfl) (wB_up (W := wLi W 8 (rowF (wA W) y 8)) hB (by omega)) (by omega)
    obtain ⟨m4, e4, t4, o4, i4⟩ := mQ_fin 1 h3
    obtain ⟨m5, e5, i5', o5, t5, r5⟩ := m_lineEmpty (f := rowF (wA W) y 0) i4
    obtain ⟨m6, e6, i6, o6, t6⟩ := m_row (n := n) h.2.1 (by omega) hy 8 0 n m5 (by omega) (by omega) i5'
    have c6 : m6.1 113 18 = z ((8 : Nat) : Int) := i6.2.2.2.2.1.1
    unfold fX9_writeRow jX9_writeRow_16
    rw [m_in (by omega), obind, if_neg z10, e4, obind]
    dsimp only
    rw [if_pos rfl, pmLet_eq, e5, show z 0 = z ((0 : Nat) : Int) from rfl, e6, obind, c6]
    exact ⟨m6, rfl, by rw [t6, t5]; exact t4, mOut_tr o4 (mOut_tr o5 o6), i6⟩
  · rw [if_neg (by omega), tf1, obind, oT_r]
    refine law_caseQ (c := 1) (t := z 0) (t' := z 0) (fm := fX9_writeRow n (z x)) (W' := W) (l_helpQ (W' := W) (ex := 0) ⟨m, rfl, cOut_rf, h⟩ hM (fun m2 _ => rfl)) (fun m1 h1 => ?_) (fun h => absurd h (by decide)) (wB_up hB (by omega)) (by omega)
    obtain ⟨m2, e2, t2, o2, i2⟩ := mQ_thr (c := 1) h1
    unfold fX9_writeRow jX9_writeRow_16
    rw [m_out (by omega), obind, if_pos rfl, e2, obind]
    dsimp only
    rw [if_neg z10]
    exact ⟨m2, rfl, t2, o2, i2⟩
end LAW7
