/-! the law, call by call: type, charAt, dancerByNails, the means -/
section LAW5
variable {E : pmEv0} {n : Nat} {self : lSelf} {i5 : Int32} {m : pmI} {D : Nat → Nat → UInt64} {w k : Nat} {W : Wd}
def wTy (W : Wd) (c : Nat) : Wd := (W.1, W.2.1, W.2.2.1, (wT W + 1, fun k => if k = wT W then c else wTf W k), W.2.2.2.2)
theorem law_type (hn : 200 ≤ n) (h : cInv m W) (hM : mInv m W) (hB : wB W k) (q1 : okI (i5 + (z 1)) E.1 = true) : Sgo (jL_law_99998_2613 E n self i5 m D w) self i5 w k := by
  unfold jL_law_99998_2613
  obtain ⟨c, hc, ec⟩ := ch_of (E.2.1 (Int32.toNatClampNeg (i5 + (z 1))))
  simp only [q1, if_true, ec]
  obtain ⟨p1, p2, p3⟩ := h.2.2.2.2.1
  unfold fL_type_0_127 fX8_type
  rw [p2]
  by_cases e60 : wT W = 60
  · rw [if_neg (zge (by omega))]
    refine law_caseQ (c := 1) (t := z 0) (t' := z 0) (fm := fX9_type (z (c : Int))) (W' := W) (l_helpQ (W' := W) (ex := 2) ⟨m, rfl, cOut_rf, h⟩ hM (fun m2 _ => rfl)) (fun m1 h1 => ?_) (fun h => absurd h (by decide)) (wB_up hB (by omega)) (by omega)
    obtain ⟨m2, e2, t2, o2, i2⟩ := mQ_thr (c := 1) h1
    unfold fX9_type jX9_type_15
    rw [if_pos (show m1.1 113 21 = z 60 by rw [h1.2.2.2.1.1, e60]; rfl), e2, obind]
    dsimp only
    rw [if_neg z10]
    exact ⟨m2, rfl, t2, o2, i2⟩
  · unfold fX4_append_107
    rw [if_pos (zlt (by omega)), p2, if_neg (zge (by omega)), if_pos (zlt (by omega)), if_pos (okI_z (by omega)), z_nat (by omega), nar_c, ch_z hc, pmLet_eq]
    obtain ⟨m1, e1, j1, o1, r1⟩ := w_1 m 108 (wT W) (z (c : Int))
    rw [e1]
    obtain ⟨m2, e2, j2, o2, r2⟩ := w_1 m1 107 1 (m1.1 107 1 + z 1)
    rw [e2, obind]
    have c2 : m2.1 107 1 = z ((wT W + 1 : Nat) : Int) := by
      rw [r2, if_pos rfl, o1 107 (by decide), p2, z_add]
      rfl
    rw [c2]
    have oo : ∀ i, i ≠ 107 → i ≠ 108 → m2.1 i = m.1 i ∧ m2.2 i = m.2 i := fun i h1 h2 => ⟨by rw [o2 i h1, o1 i h2], by rw [j2, j1]⟩
    have hC : cInv m2 (wTy W c) := by
      obtain ⟨h1, h2, h3, h4, h5, h6, h7, h8⟩ := h
      refine ⟨repC_fr h1 (fun i _ _ => oo i (by omega) (by omega)), h2, cHist_fr h3 (fun i _ _ => oo i (by omega) (by omega)), cSv_fr h4 (fun i hi => oo i (by omega) (by omega)), ⟨show wT W + 1 ≤ 60 by omega, c2, fun q hq => ?_⟩, ?_, ?_, ?_⟩
      · have hq' : q < wT W + 1 := hq
        show m2.1 108 q = z ((if q = wT W then c else wTf W q : Nat) : Int) ∧ (if q = wT W then c else wTf W q) < 65536
        rw [o2 108 (by decide), r1]
        by_cases e : q = wT W
        · rw [if_pos e, if_pos e]
          exact ⟨rfl, hc⟩
        · rw [if_neg e, if_neg e]
          exact p3 q (by omega)
      · show wL W ≤ 12 ∧ _ ∧ _
        rw [(oo 111 (by decide) (by decide)).1, (oo 112 (by decide) (by decide)).1]; exact h6
      · rw [(oo 0 (by decide) (by decide)).1]; exact h7
      · rw [(oo 0 (by decide) (by decide)).1]; exact h8
    refine law_caseQ (c := 0) (t := z ((wT W + 1 : Nat) : Int)) (t' := z ((wT W + 1 : Nat) : Int)) (fm := fX9_type (z (c : Int))) (W' := wTy W c) (l_helpQ (ex := 2) ⟨m2, rfl, fun i hi => oo i (by omega) (by omega), hC⟩ hM (fun m2 h => absurd rfl h)) (fun m3 h3 => ?_) (fun _ => rfl) (wB_up (W := wTy W c) hB (by omega)) (by omega)
    obtain ⟨m4, e4, t4, o4, i4⟩ := mQ_fin 1 h3
    obtain ⟨m5, e5, j5, o5, r5⟩ := w_1 m4 125 (wT W) (z (c : Int))
    obtain ⟨m6, e6, j6, o6, r6⟩ := w_1 m5 113 21 (m5.1 113 21 + z 1)
    unfold fX9_type jX9_type_15
    rw [if_neg (show ¬ m3.1 113 21 = z 60 by rw [h3.2.2.2.1.1]; exact zne (by omega)), e4, obind]
    dsimp only
    rw [if_pos rfl, i4.2.2.2.1.1, if_pos (okI_z (by omega)), z_nat (by omega), pmLet_eq, e5, pmLet_eq, e6]
    have c6 : m6.1 113 21 = z ((wT W + 1 : Nat) : Int) := by
      rw [r6, if_pos rfl, o5 113 (by decide), i4.2.2.2.1.1, z_add]
      rfl
    rw [c6]
    have f6 : ∀ q, ¬ q = 21 → m6.1 113 q = m4.1 113 q := fun q hq => by rw [r6, if_neg hq, o5 113 (by decide)]
    have oo6 : ∀ i, i ≠ 113 → i ≠ 125 → m6.1 i = m4.1 i := fun i h1 h2 => by rw [o6 i h1, o5 i h2]
    refine ⟨m6, rfl, by rw [f6 10 (by decide)]; exact t4, ⟨fun i hi => by rw [oo6 i (by omega) (by omega), o4.1 i hi], by rw [j6, j5, o4.2]⟩, ?_⟩
    obtain ⟨g1, g2, g3, g4, g5, g6, g7⟩ := i4
    refine ⟨by rw [oo6 114 (by decide) (by decide)]; exact g1, mHist_fr g2 (oo6 118 (by decide) (by decide)) (f6 9 (by decide)), mSv_fr g3 (f6 15 (by decide)) (oo6 117 (by decide) (by decide)), ⟨c6, fun q hq => ?_⟩, ?_, ?_, ?_⟩
    · have hq' : q < wT W + 1 := hq
      show m6.1 125 q = z ((if q = wT W then c else wTf W q : Nat) : Int)
      rw [o6 125 (by decide), r5]
      by_cases e : q = wT W
      · rw [if_pos e, if_pos e]
      · rw [if_neg e, if_neg e]
        exact g4.2 q (by omega)
    · rw [f6 18 (by decide), oo6 124 (by decide) (by decide)]; exact g5
    · rw [f6 11 (by decide)]; exact g6
    · rw [f6 12 (by decide)]; exact g7
theorem law_charAt (hn : 200 ≤ n) (h : cInv m W) (hM : mInv m W) (hB : wB W k) (q1 : okI (i5 + (z 1)) E.1 = true) : Sgo (jL_law_99998_2557 E n self i5 m D w) self i5 w k := by
  unfold jL_law_99998_2557
  obtain ⟨x, hx, ex⟩ := z_of (E.2.1 (Int32.toNatClampNeg (i5 + (z 1))))
  simp only [q1, if_true, ex]
  obtain ⟨p1, p2, p3⟩ := h.2.2.2.2.2.1
  unfold fL_charAt_0_127 fX8_charAt
  rw [p2]
  by_cases hg : 0 ≤ x ∧ x < wL W
  · obtain ⟨g, rfl⟩ : ∃ g : Nat, x = (g : Int) := ⟨x.toNat, by omega⟩
    have hgl : g < wL W := by omega
    rw [if_neg (zge (by omega)), if_pos (zlt (by omega)), if_pos (zlt (by omega)), if_pos (okI_z (by omega)), z_nat (by omega), (p3 g hgl).1, if_pos (show vp_nar .char (z (wLf W g)) = z (wLf W g) by rw [nar_c, ch_z (p3 g hgl).2])]
    refine law_caseQ (c := 0) (t := z (wLf W g)) (t' := z (wLf W g)) (fm := fX9_charAt (z (g : Int))) (W' := W) (l_helpQ (W' := W) (ex := 0) ⟨m, rfl, cOut_rf, h⟩ hM (fun m2 h => absurd rfl h)) (fun m1 h1 => ?_) (fun _ => rfl) (wB_up hB (by omega)) (by omega)
    obtain ⟨m2, e2, t2, o2, i2⟩ := mQ_fin 1 h1
    unfold fX9_charAt jX9_charAt_20
    rw [h1.2.2.2.2.1.1, z_sub, m_in (by omega), obind, if_neg z10, e2, obind]
    dsimp only
    rw [if_pos rfl, if_pos (okI_z (by omega)), z_nat (by omega), i2.2.2.2.2.1.2 g hgl, ch_z (p3 g hgl).2, if_pos (show vp_nar .char (z (wLf W g)) = z (wLf W g) by rw [nar_c, ch_z (p3 g hgl).2])]
    exact ⟨m2, rfl, t2, o2, i2⟩
  · have bad : (if z x < z 0 then some (Sum.inr 0, m) else if z x < z (wL W : Int) then (if z x < z 12 then (if okI (z x) 12 = true then (if vp_nar .char (m.1 112 (Int32.toNatClampNeg (z x))) = m.1 112 (Int32.toNatClampNeg (z x)) then some (Sum.inl (m.1 112 (Int32.toNatClampNeg (z x))), m) else none) else none) else some (Sum.inr 0, m)) else some (Sum.inr 0, m)) = (some (Sum.inr 0, m) : Option ((Int32 ⊕ Nat) × pmI)) := by
      by_cases h0 : x < 0
      · rw [if_pos (zlt (by omega))]
      · rw [if_neg (zge (by omega)), if_neg (zge (by omega))]
    rw [bad]
    refine law_caseQ (c := 1) (t := z 0) (t' := z 0) (fm := fX9_charAt (z x)) (W' := W) (l_helpQ (W' := W) (ex := 0) ⟨m, rfl, cOut_rf, h⟩ hM (fun m2 _ => rfl)) (fun m1 h1 => ?_) (fun h => absurd h (by decide)) (wB_up hB (by omega)) (by omega)
    obtain ⟨m2, e2, t2, o2, i2⟩ := mQ_thr (c := 1) h1
    unfold fX9_charAt jX9_charAt_20
    rw [h1.2.2.2.2.1.1, z_sub, m_out (by omega), obind, if_pos rfl, e2, obind]
    dsimp only
    rw [if_neg z10]
    exact ⟨m2, rfl, t2, o2, i2⟩
/-- how many stand ahead of one in the order of nails -/
def rnk (A : Ab) (i : Nat) : Nat := cnt (fun j => decide (aNa A j < aNa A i) || (decide (aNa A j = aNa A i) && decide (j < i))) (aC A)
theorem c_rankOf {A : Ab} (h : repC 1 m A) (w : wfA A) (hn : 20 ≤ n) {i : Nat} (hi : i < aC A) : fX6_rankOf_1 n (z (i : Int)) m = some (z (rnk A i : Int)) := by
  have w1 := w.1
  have hni := (w.2.2.1 i hi).2.2.1
  unfold fX6_rankOf_1
  rw [a_4 (by omega), obind, (h.2.2.2.1 i hi).2.2.1]
  have L := cntl (lX6_rankOf_1_l14 n (z (i : Int)) (z (aNa A i : Int)) m) (aC A) (fun j => decide (aNa A j < aNa A i) || (decide (aNa A j = aNa A i) && decide (j < i))) (fun q j c hj => by
    show bX6_rankOf_1_l14 n (z (i : Int)) (z (aNa A i : Int)) m (lX6_rankOf_1_l14 n (z (i : Int)) (z (aNa A i : Int)) m q) _ _ = _
    unfold bX6_rankOf_1_l14
    have hnj := (w.2.2.1 j hj).2.2.1
    rw [h.2.1, if_pos (zlt (by omega)), a_4 (by omega), obind, (h.2.2.2.1 j hj).2.2.1, z_add, z_add]
    by_cases e1 : aNa A j < aNa A i
    · rw [if_pos (zlt (by omega)), if_pos (by rw [decide_eq_true e1]; rfl)]
      rfl
    · rw [if_neg (zge (by omega)), decide_eq_false e1, Bool.false_or]
      by_cases e2 : aNa A j = aNa A i
      · rw [if_pos (by rw [e2]), decide_eq_true e2, Bool.true_and]
        by_cases e3 : j < i
        · rw [if_pos (zlt (by omega)), if_pos (decide_eq_true e3)]
          rfl
        · rw [if_neg (zge (by omega)), if_neg (by rw [decide_eq_true_eq]; exact e3)]
          rfl
      · rw [if_neg (zne (by omega)), decide_eq_false e2, Bool.false_and, if_neg (by decide)]
        rfl) (fun q c => by
    show bX6_rankOf_1_l14 n (z (i : Int)) (z (aNa A i : Int)) m (lX6_rankOf_1_l14 n (z (i : Int)) (z (aNa A i : Int)) m q) _ _ = _
    unfold bX6_rankOf_1_l14
    rw [h.2.1, if_neg (zge (by omega))]) (aC A) 0 n (by omega) (by omega)
  exact (congrArg (fun o => Option.bind o (fun w4 => some w4)) L)
def byRank (A : Ab) (r : Int) : Option Nat := ff (fun i => decide ((rnk A i : Int) = r)) (aC A) 0
theorem c_numberAtRank {A : Ab} (h : repC 1 m A) (w : wfA A) (hn : 20 ≤ n) {r : Int} (hr : -2147483648 ≤ r ∧ r < 2147483648) : fX6_numberAtRank_1 n (z r) m = some (z (match byRank A r with | some i => (aNu A i : Int) | none => -1)) := by
  have w1 := w.1
  unfold fX6_numberAtRank_1
  have e := srch (lX6_numberAtRank_1_l2 n (z r) m) (aC A) (fun i => decide ((rnk A i : Int) = r)) (fun i => z (aNu A i : Int)) (fun q i hi => by
    show bX6_numberAtRank_1_l2 n (z r) m (lX6_numberAtRank_1_l2 n (z r) m q) (z (i : Int)) = _
    unfold bX6_numberAtRank_1_l2
    have hle := cnt_le (fun j => decide (aNa A j < aNa A i) || (decide (aNa A j = aNa A i) && decide (j < i))) (aC A)
    have hle' : rnk A i ≤ aC A := hle
    rw [h.2.1, if_pos (zlt (by omega)), c_rankOf (n := n) h w hn hi, obind, a_2 (by omega), obind, (h.2.2.2.1 i hi).1, z_add]
    simp (disch := omega) only [z_eq, decide_eq_true_eq]) (fun q => by
    show bX6_numberAtRank_1_l2 n (z r) m (lX6_numberAtRank_1_l2 n (z r) m q) (z (aC A : Int)) = _
    unfold bX6_numberAtRank_1_l2
    rw [h.2.1, if_neg (zge (by omega))]) (aC A) 0 n (by omega) (by omega)
  rw [show z 0 = z ((0 : Nat) : Int) from rfl, e]
  unfold byRank
  cases ff (fun i => decide ((rnk A i : Int) = r)) (aC A) 0 <;> rfl
end LAW5
