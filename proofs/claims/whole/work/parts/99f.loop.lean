/-! the law's loop -/
section LOOP
variable {E : pmEv0} {n : Nat} {self : lSelf} {i5 : Int32} {m : pmI} {D : Nat → Nat → UInt64} {w k : Nat} {W : Wd}
theorem ite_S {c : Prop} {_ : Decidable c} {a b : Option lR} (ha : Sgo a self i5 w k) (hb : Sgo b self i5 w k) : Sgo (if c then a else b) self i5 w k := by
  split
  · exact ha
  · exact hb
theorem law_step (hn : 700000 ≤ n) (h : cInv m W) (hM : mInv m W) (hB : wB W k) (hk : k < 900000) {j : Nat} (hj : j + 4 ≤ E.1) (hE : E.1 ≤ 2000000) : Sgo (bL_law E n self (z (j : Int)) m D w) self (z (j : Int)) w k := by
  have q0 : okI (z (j : Int)) E.1 = true := okI_z (by omega)
  have q1 : okI (z (j : Int) + z 1) E.1 = true := by rw [show z 1 = z (1 : Int) from rfl, z_add]; exact okI_z (by omega)
  have q2 : okI (z (j : Int) + z 2) E.1 = true := by rw [show z 2 = z (2 : Int) from rfl, z_add]; exact okI_z (by omega)
  have q3 : okI (z (j : Int) + z 3) E.1 = true := by rw [show z 3 = z (3 : Int) from rfl, z_add]; exact okI_z (by omega)
  have hn2 : 200 ≤ n := by omega
  have e4 : (Int32.ofNat E.1 - z 4) = z ((E.1 : Int) - 4) := by
    rw [show Int32.ofNat E.1 = z (E.1 : Int) from rfl, show z 4 = z (4 : Int) from rfl, z_sub]
  unfold bL_law
  rw [e4, if_neg (zge (by omega)), if_pos q0]
  refine ite_S (law_addProp (n := n) hn2 h hM hB hk q1 q2) ?_
  refine ite_S (law_removeProp (n := n) hn2 h hM hB hk q1 q2) ?_
  refine ite_S (law_isFree (n := n) hn2 h hM hB q1 q2) ?_
  refine ite_S (law_areas (n := n) hn h hM hB) ?_
  refine ite_S (law_areasByUnions (n := n) hn h hM hB) ?_
  refine ite_S (law_areaSize (n := n) hn h hM hB q1 q2) ?_
  refine ite_S (law_addDancer (n := n) hn2 h hM hB hk q1 q2 q3) ?_
  refine ite_S (law_removeDancer (n := n) hn2 h hM hB hk q1) ?_
  refine ite_S (law_pair (n := n) hn2 h hM hB hk q1 q2) ?_
  refine ite_S (law_unpair (n := n) hn2 h hM hB q1) ?_
  refine ite_S (law_renewNails (n := n) hn2 h hM hB hk q1) ?_
  refine ite_S (law_dancers (n := n) hn2 h hM hB) ?_
  refine ite_S (law_isPresent (n := n) hn2 h hM hB q1) ?_
  refine ite_S (law_column (n := n) hn2 h hM hB q1) ?_
  refine ite_S (law_row (n := n) hn2 h hM hB q1) ?_
  refine ite_S (law_nails (n := n) hn2 h hM hB q1) ?_
  refine ite_S (law_partner (n := n) hn2 h hM hB q1) ?_
  refine ite_S (law_dancerByNails (n := n) hn2 h hM hB q1) ?_
  refine ite_S (law_addMove (n := n) hn2 h hM hB hk q1 q2) ?_
  refine ite_S (law_clearFigure (n := n) hn2 h hM hB hk q1) ?_
  refine ite_S (law_figureLength (n := n) hn2 h hM hB q1) ?_
  refine ite_S (law_perform (n := n) hn2 h hM hB hk q1 q2) ?_
  refine ite_S (law_blockedBeat (n := n) hn2 h hM hB q1 q2) ?_
  refine ite_S (law_distance (n := n) hn h hM hB q1 q2 q3) ?_
  refine ite_S (law_distanceByRounds (n := n) hn h hM hB q1 q2 q3) ?_
  refine ite_S (law_walk (n := n) hn h hM hB hk q1 q2 q3) ?_
  refine ite_S (law_addExit (n := n) hn2 h hM hB hk q1 q2) ?_
  refine ite_S (law_removeExit (n := n) hn2 h hM hB q1) ?_
  refine ite_S (law_exits (n := n) hn2 h hM hB) ?_
  refine ite_S (law_exitDistance (n := n) hn h hM hB q1 q2) ?_
  refine ite_S (law_exitCost (n := n) hn h hM hB) ?_
  refine ite_S (law_exitCostByPotentials (n := n) hn h hM hB) ?_
  refine ite_S (law_exitOf (n := n) hn h hM hB q1) ?_
  refine ite_S (law_leaveAll (n := n) hn h hM hB hk) ?_
  refine ite_S (law_isMirrored (n := n) hn2 h hM hB) ?_
  refine ite_S (law_isMirroredByRows (n := n) hn2 h hM hB) ?_
  refine ite_S (law_lostNails (n := n) hn2 h hM hB) ?_
  refine ite_S (law_lostNailsByParts (n := n) hn2 h hM hB) ?_
  refine ite_S (law_meanNails (n := n) hn2 h hM hB) ?_
  refine ite_S (law_meanNailsBits (n := n) hn2 h hM hB) ?_
  refine ite_S (law_pairedShare (n := n) hn2 h hM hB) ?_
  refine ite_S (law_pairedShareBits (n := n) hn2 h hM hB) ?_
  refine ite_S (law_isConsistent (n := n) hn2 h hM hB) ?_
  refine ite_S (law_writeRow (n := n) hn2 h hM hB q1) ?_
  refine ite_S (law_writeFigure (n := n) hn2 h hM hB q1) ?_
  refine ite_S (law_charAt (n := n) hn2 h hM hB q1) ?_
  refine ite_S (law_type (n := n) hn2 h hM hB q1) ?_
  refine ite_S (law_run (n := n) hn h hM hB hk) ?_
  refine ite_S (law_errorPosition (n := n) hn2 h hM hB) ?_
  refine ite_S (law_failedCommand (n := n) hn2 h hM hB) ?_
  refine ite_S (law_undo (n := n) hn2 h hM hB) ?_
  refine ite_S (law_save (n := n) hn2 h hM hB) ?_
  refine ite_S (law_restore (n := n) hn2 h hM hB) ?_
  exact ⟨m, D, 0, W, rfl, by omega, h, hM, wB_up hB (by omega)⟩
/-- the whole script -/
theorem law_loop (hn : 700000 ≤ n) (hE : E.1 ≤ 300000) : ∀ (d j q : Nat) (m : pmI) (D : Nat → Nat → UInt64) (w : Nat) (W : Wd), E.1 < j + 4 + 4 * d → d < q → j ≤ E.1 + 4 → cInv m W → mInv m W → wB W (3 * j) → ∃ m2 D2 w2, lL_law E n q (z (j : Int)) m D w = some (z 1, m2, D2, w2) ∧ w2 ≤ w + d := by
  intro d
  induction d with
  | zero =>
    intro j q m D w W h1 h2 h3 h hM hB
    obtain ⟨q, rfl⟩ : ∃ x, q = x + 1 := ⟨q - 1, by omega⟩
    refine ⟨m, D, w, ?_, Nat.le_refl _⟩
    show bL_law E n (lL_law E n q) (z (j : Int)) m D w = _
    unfold bL_law
    rw [show (Int32.ofNat E.1 - z 4) = z ((E.1 : Int) - 4) by rw [show Int32.ofNat E.1 = z (E.1 : Int) from rfl, show z 4 = z (4 : Int) from rfl, z_sub], if_pos (zlt (by omega))]
  | succ d ih =>
    intro j q m D w W h1 h2 h3 h hM hB
    obtain ⟨q, rfl⟩ : ∃ x, q = x + 1 := ⟨q - 1, by omega⟩
    by_cases hj : j + 4 ≤ E.1
    · obtain ⟨m2, D2, e, W2, e2, he, c2, i2, b2⟩ := law_step (D := D) (w := w) (self := lL_law E n q) hn h hM hB (by omega) hj (by omega)
      obtain ⟨m3, D3, w3, e3, h4⟩ := ih (j + 4) q m2 D2 (w + e) W2 (by omega) (by omega) (by omega) c2 i2 (wB_up b2 (by omega))
      refine ⟨m3, D3, w3, ?_, by omega⟩
      rw [show z 4 = z (4 : Int) from rfl, z_add] at e2
      exact e2.trans e3
    · refine ⟨m, D, w, ?_, by omega⟩
      show bL_law E n (lL_law E n q) (z (j : Int)) m D w = _
      unfold bL_law
      rw [show (Int32.ofNat E.1 - z 4) = z ((E.1 : Int) - 4) by rw [show Int32.ofNat E.1 = z (E.1 : Int) from rfl, show z 4 = z (4 : Int) from rfl, z_sub], if_pos (zlt (by omega))]
end LOOP
