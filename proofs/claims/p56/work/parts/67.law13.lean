/-! the law, call by call: writeFigure -/
def lrN (v : Nat) : Nat := if v = 0 then 85 else if v = 1 then 68 else if v = 2 then 76 else if v = 3 then 82 else 83
theorem lrN_z : ∀ v : Nat, v < 5 → z (letr v) = z (lrN v : Int) := by decide
theorem lrN_lt : ∀ v : Nat, v < 5 → lrN v < 65536 := by decide
theorem letr_inj : ∀ a : Nat, a < 5 → ∀ b : Nat, b < 5 → z (letr a) = z (letr b) → a = b := by decide
theorem f_moveLetter : ∀ v : Nat, v < 5 → fX8_moveLetter (z (v : Int)) m00 = some (z (lrN v : Int)) := by decide +kernel
theorem f_moveLetter' {v : Nat} (h : v < 5) (m : pmI) : fX8_moveLetter (z (v : Int)) m = some (z (lrN v : Int)) := f_moveLetter v h
abbrev Ln : Type := Nat × (Nat → Nat)
def puL (c : Nat) (L : Ln) : Ln := (L.1 + 1, fun q => if q = L.1 then c else L.2 q)
def emL (n c : Nat) (L : Ln) : Ln := puL c (if 2 ≤ n then puL (48 + n % 10) (if 10 ≤ n then puL (48 + n / 10) L else L) else L)
theorem emL_le {n c : Nat} {L : Ln} (h1 : 1 ≤ n) (h2 : n ≤ 12) : (emL n c L).1 ≤ L.1 + n := by
  unfold emL puL
  by_cases e1 : 2 ≤ n
  · rw [if_pos e1]
    by_cases e2 : 10 ≤ n
    · rw [if_pos e2]
      show L.1 + 1 + 1 + 1 ≤ _
      omega
    · rw [if_neg e2]
      show L.1 + 1 + 1 ≤ _
      omega
  · rw [if_neg e1]
    show L.1 + 1 ≤ _
    omega
/-- a figure's signs: d beats still to be looked at, a run from s on, the next beat e -/
def RC (mv : Nat → Nat) (N : Nat) : Nat → Nat → Nat → Ln → Ln
  | 0, _, _, L => L
  | d + 1, s, e, L => if e < N ∧ mv e = mv s then RC mv N d s (e + 1) L else RC mv N d e (e + 1) (emL (e - s) (lrN (mv s)) L)
section LAW13
variable {E : pmEv0} {n : Nat} {self : lSelf} {i5 : Int32} {m : pmI} {D : Nat → Nat → UInt64} {w k : Nat} {W : Wd}
theorem c_putL {c : Nat} {L : Ln} (h : cInv m (wLi W L.1 L.2)) (hl : L.1 < 12) (hc : c < 65536) : ∃ m', fX3_put_111 (z (c : Int)) m = some m' ∧ cInv m' (wLi W (puL c L).1 (puL c L).2) ∧ cOut m m' := c_put h hl hc
theorem c_putR {v c : Nat} {L : Ln} (h : cInv m (wLi W L.1 L.2)) (hv : 1 ≤ v ∧ v ≤ 12) (hl : L.1 + v ≤ 12) (hc : c < 65536) : ∃ m', fX3_putRepeated_111 (z (v : Int)) (z (c : Int)) m = some m' ∧ cInv m' (wLi W (emL v c L).1 (emL v c L).2) ∧ cOut m m' := by
  have fin : ∀ (m1 : pmI) (L1 : Ln), cInv m1 (wLi W L1.1 L1.2) → L1.1 < 12 → ∃ m', jX3_putRepeated_111_35 (z (c : Int)) m1 = some m' ∧ cInv m' (wLi W (puL c L1).1 (puL c L1).2) ∧ cOut m1 m' := fun m1 L1 h1 hl1 => by
    obtain ⟨m2, e2, i2, o2⟩ := c_putL h1 hl1 hc
    unfold jX3_putRepeated_111_35
    rw [e2, obind]
    exact ⟨m2, rfl, i2, o2⟩
  have mid : ∀ (m1 : pmI) (L1 : Ln), 2 ≤ v → cInv m1 (wLi W L1.1 L1.2) → L1.1 < 11 → ∃ m', jX3_putRepeated_111_18 (z (v : Int)) (z (c : Int)) m1 = some m' ∧ cInv m' (wLi W (puL c (puL (48 + v % 10) L1)).1 (puL c (puL (48 + v % 10) L1)).2) ∧ cOut m1 m' := fun m1 L1 hv2 h1 hl1 => by
    obtain ⟨m2, e2, i2, o2⟩ := c_putL (c := 48 + v % 10) h1 (by omega) (by omega)
    obtain ⟨m3, e3, i3, o3⟩ := fin m2 (puL (48 + v % 10) L1) i2 (show L1.1 + 1 < 12 by omega)
    unfold jX3_putRepeated_111_18
    rw [if_neg (zge (by omega)), z_mod10 (by omega), z_add, show (48 : Int) + ((v % 10 : Nat) : Int) = ((48 + v % 10 : Nat) : Int) by omega, ch_z (by omega), e2, obind]
    exact ⟨m3, e3, i3, cOut_tr o2 o3⟩
  unfold fX3_putRepeated_111 emL
  by_cases h10 : 10 ≤ v
  · obtain ⟨m2, e2, i2, o2⟩ := c_putL (c := 48 + v / 10) h (by omega) (by omega)
    obtain ⟨m3, e3, i3, o3⟩ := mid m2 (puL (48 + v / 10) L) (by omega) i2 (show L.1 + 1 < 11 by omega)
    rw [if_neg (zge (by omega)), if_pos h10, if_pos (show 2 ≤ v by omega), show z 10 = z ((10 : Nat) : Int) from rfl, z_div (by omega), z_add, show (48 : Int) + ((v / 10 : Nat) : Int) = ((48 + v / 10 : Nat) : Int) by omega, ch_z (by omega), e2, obind]
    exact ⟨m3, e3, i3, cOut_tr o2 o3⟩
  · rw [if_pos (zlt (by omega)), if_neg h10]
    by_cases h2 : 2 ≤ v
    · obtain ⟨m3, e3, i3, o3⟩ := mid m L h2 h (by omega)
      rw [if_pos h2]
      exact ⟨m3, e3, i3, o3⟩
    · obtain ⟨m3, e3, i3, o3⟩ := fin m L h (by omega)
      rw [if_neg h2]
      unfold jX3_putRepeated_111_18
      rw [if_pos (zlt (by omega))]
      exact ⟨m3, e3, i3, o3⟩
theorem c_fig (w0 : wfA (wA W)) {g : Nat} (hg : g < 6) : ∀ (d s e q : Nat) (m : pmI) (L : Ln), e + d = aFl (wA W) g + 1 → d < q → s < e → (e ≤ aFl (wA W) g ∨ s = aFl (wA W) g) → L.1 ≤ s → cInv m (wLi W L.1 L.2) → ∃ m', lX8_writeFigure_l28 n (z (g : Int)) (z (aFl (wA W) g : Int)) q (z (s : Int)) (z (e : Int)) m = some m' ∧ cInv m' (wLi W (RC (aFm (wA W) g) (aFl (wA W) g) d s e L).1 (RC (aFm (wA W) g) (aFl (wA W) g) d s e L).2) ∧ cOut m m' ∧ (RC (aFm (wA W) g) (aFl (wA W) g) d s e L).1 ≤ 12
  | 0, s, e, q + 1, m, L, h1, _, h3, h4, h5, hC => by
    have wf := w0.2.2.2.2.2.1 g hg
    refine ⟨m, ?_, hC, cOut_rf, show L.1 ≤ 12 by omega⟩
    show bX8_writeFigure_l28 n (z (g : Int)) (z (aFl (wA W) g : Int)) (lX8_writeFigure_l28 n (z (g : Int)) (z (aFl (wA W) g : Int)) q) (z (s : Int)) (z (e : Int)) m = _
    unfold bX8_writeFigure_l28
    rw [if_pos (zlt (by omega))]
  | d + 1, s, e, q + 1, m, L, h1, h2, h3, h4, h5, hC => by
    have wf := w0.2.2.2.2.2.1 g hg
    have hse : s < aFl (wA W) g := by omega
    have hms := wf.2 s hse
    show ∃ m', bX8_writeFigure_l28 n (z (g : Int)) (z (aFl (wA W) g : Int)) (lX8_writeFigure_l28 n (z (g : Int)) (z (aFl (wA W) g : Int)) q) (z (s : Int)) (z (e : Int)) m = some m' ∧ _
    unfold bX8_writeFigure_l28 RC
    rw [if_neg (zge (by omega))]
    have flush : ¬ (e < aFl (wA W) g ∧ aFm (wA W) g e = aFm (wA W) g s) → ∃ m', jX8_writeFigure_66 n (z (g : Int)) (z (aFl (wA W) g : Int)) (lX8_writeFigure_l28 n (z (g : Int)) (z (aFl (wA W) g : Int)) q) (z (s : Int)) (z (e : Int)) m = some m' ∧ cInv m' (wLi W (RC (aFm (wA W) g) (aFl (wA W) g) d e (e + 1) (emL (e - s) (lrN (aFm (wA W) g s)) L)).1 (RC (aFm (wA W) g) (aFl (wA W) g) d e (e + 1) (emL (e - s) (lrN (aFm (wA W) g s)) L)).2) ∧ cOut m m' ∧ (RC (aFm (wA W) g) (aFl (wA W) g) d e (e + 1) (emL (e - s) (lrN (aFm (wA W) g s)) L)).1 ≤ 12 := fun _ => by
      have hle := emL_le (n := e - s) (c := lrN (aFm (wA W) g s)) (L := L) (by omega) (by omega)
      obtain ⟨m1, e1, i1, o1⟩ := c_putR (v := e - s) (c := lrN (aFm (wA W) g s)) hC (by omega) (by omega) (lrN_lt _ hms)
      obtain ⟨m2, e2, i2, o2, l2⟩ := c_fig w0 hg d e (e + 1) q m1 (emL (e - s) (lrN (aFm (wA W) g s)) L) (by omega) (by omega) (by omega) (by omega) (by omega) i1
      unfold jX8_writeFigure_66 jX8_writeFigure_67
      rw [if_pos rfl, c_moveAt (A := wA W) hC.1 w0 hg hse, obind, f_moveLetter' hms, obind, z_sub, show (e : Int) - (s : Int) = ((e - s : Nat) : Int) by omega, e1, obind, z_add]
      exact ⟨m2, e2, i2, cOut_tr o1 o2, l2⟩
    by_cases he : e < aFl (wA W) g
    · have hme := wf.2 e he
      rw [if_pos (zlt (by omega)), c_moveAt (A := wA W) hC.1 w0 hg he, obind, c_moveAt (A := wA W) hC.1 w0 hg hse, obind]
      by_cases eq : aFm (wA W) g e = aFm (wA W) g s
      · rw [if_pos (by rw [eq]), if_pos ⟨he, eq⟩]
        obtain ⟨m2, e2, i2, o2, l2⟩ := c_fig w0 hg d s (e + 1) q m L (by omega) (by omega) (by omega) (by omega) h5 hC
        unfold jX8_writeFigure_67
        rw [if_neg z10, z_add]
        exact ⟨m2, e2, i2, o2, l2⟩
      · rw [if_neg (zne (by omega)), if_neg (fun h => eq h.2)]
        exact flush (fun h => eq h.2)
    · rw [if_neg (zge (by omega)), if_neg (fun h => he h.1)]
      exact flush (fun h => he h.1)
end LAW13

