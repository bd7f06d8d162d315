/-! the law, call by call: type, charAt, dancerByNails, the means -/
section LAW5
variable {E : pmEv0} {n : Nat} {self : lSelf} {i5 : Int32} {m : pmI} {D : Nat → Nat → UInt64} {w k : Nat} {W : Wd}
def wTy (W : Wd) (c : Nat) : Wd := (W.1, W.2.1, W.2.2.1, (wT W + 1, fun k => if k = wT W then c else wTf W k), W.2.2.2.2)
/-- how many stand ahead of one in the order of nails -/
def rnk (A : Ab) (i : Nat) : Nat := cnt (fun j => decide (aNa A j < aNa A i) || (decide (aNa A j = aNa A i) && decide (j < i))) (aC A)
theorem c_rankOf {A : Ab} (h : repC 1 m A) (w : wfA A) (hn : 20 ≤ n) {i : Nat} (hi : i < aC A) : fX6_rankOf_1 n (z (i : Int)) m = some (z (rnk A i : Int)) := by
  have w1 := w.1
  have hni := (w.2.2.1 i hi).2.2.1
  unfold fX6_rankOf_1
  rw [a_4 (by omega), obind, (h.2.2.2.1 i hi).2.2.1]
  have L := cntl (lX6_rankOf_1_l14 n (z (i : Int)) (z (aNa A i : Int)) m) (aC A) (fun j => decide (aNa A j < aNa A i) || (decide (aNa A j = aNa A i) && decide (j < i))) (fun q j c hj => by
    show bX6_rankOf_1_l14 n (z (i : Int)) (z (aNa A i : Int)) m (lX6_rankOf_1_l14 n (z (i : Int)) (z (aNa A i : Int)) m q) _ _ = _
    unfold bX6_rankOf_1_l14
    have hnj := (w.2.2.1 j hj).2.2.1
    rw [h.2.1, if_pos (zlt (by omega)), a_4 (by omega), obind, (h.2.2.2.1 j hj).2.2.1, z_add, z_add]
    by_cases e1 : aNa A j < aNa A i
    · rw [if_pos (zlt (by omega)), if_pos (by rw [decide_eq_true e1]; rfl)]
      rfl
    · rw [if_neg (zge (by omega)), decide_eq_false e1, Bool.false_or]
      by_cases e2 : aNa A j = aNa A i
      · rw [if_pos (by rw [e2]), decide_eq_true e2, Bool.true_and]
        by_cases e3 : j < i
        · rw [if_pos (zlt (by omega)), if_pos (decide_eq_true e3)]
          rfl
        · rw [if_neg (zge (by omega)), if_neg (by rw [decide_eq_true_eq]; exact e3)]
          rfl
      · rw [if_neg (zne (by omega)), decide_eq_false e2, Bool.false_and, if_neg (by decide)]
        rfl) (fun q c => by
    show bX6_rankOf_1_l14 n (z (i : Int)) (z (aNa A i : Int)) m (lX6_rankOf_1_l14 n (z (i : Int)) (z (aNa A i : Int)) m q) _ _ = _
    unfold bX6_rankOf_1_l14
    rw [h.2.1, if_neg (zge (by omega))]) (aC A) 0 n (by omega) (by omega)
  exact (congrArg (fun o => Option.bind o (fun w4 => some w4)) L)
def byRank (A : Ab) (r : Int) : Option Nat := ff (fun i => decide ((rnk A i : Int) = r)) (aC A) 0
theorem c_numberAtRank {A : Ab} (h : repC 1 m A) (w : wfA A) (hn : 20 ≤ n) {r : Int} (hr : -2147483648 ≤ r ∧ r < 2147483648) : fX6_numberAtRank_1 n (z r) m = some (z (match byRank A r with | some i => (aNu A i : Int) | none => -1)) := by
  have w1 := w.1
  unfold fX6_numberAtRank_1
  have e := srch (lX6_numberAtRank_1_l2 n (z r) m) (aC A) (fun i => decide ((rnk A i : Int) = r)) (fun i => z (aNu A i : Int)) (fun q i hi => by
    show bX6_numberAtRank_1_l2 n (z r) m (lX6_numberAtRank_1_l2 n (z r) m q) (z (i : Int)) = _
    unfold bX6_numberAtRank_1_l2
    have hle := cnt_le (fun j => decide (aNa A j < aNa A i) || (decide (aNa A j = aNa A i) && decide (j < i))) (aC A)
    have hle' : rnk A i ≤ aC A := hle
    rw [h.2.1, if_pos (zlt (by omega)), c_rankOf (n := n) h w hn hi, obind, a_2 (by omega), obind, (h.2.2.2.1 i hi).1, z_add]
    simp (disch := omega) only [z_eq, decide_eq_true_eq]) (fun q => by
    show bX6_numberAtRank_1_l2 n (z r) m (lX6_numberAtRank_1_l2 n (z r) m q) (z (aC A : Int)) = _
    unfold bX6_numberAtRank_1_l2
    rw [h.2.1, if_neg (zge (by omega))]) (aC A) 0 n (by omega) (by omega)
  rw [show z 0 = z ((0 : Nat) : Int) from rfl, e]
  unfold byRank
  cases ff (fun i => decide ((rnk A i : Int) = r)) (aC A) 0 <;> rfl
end LAW5

