/-! exit plans: the law's calls -/
section ISPL
variable {m : pmI} {A : Ab} {n : Nat} {W : Wd}
def ifr (m m' : pmI) : Prop := (∀ i, ¬ i = 113 → ¬ i = 119 → ¬ i = 121 → ¬ i = 122 → ¬ i = 123 → m'.1 i = m.1 i) ∧ (∀ x, ¬ x = 14 → m'.1 113 x = m.1 113 x) ∧ m'.2 = m.2
theorem ifr_rf : ifr m m := ⟨fun _ _ _ _ _ _ => rfl, fun _ _ => rfl, rfl⟩
theorem ifr_tr {m1 m2 : pmI} (h1 : ifr m m1) (h2 : ifr m1 m2) : ifr m m2 := ⟨fun i a b c d e => (h2.1 i a b c d e).trans (h1.1 i a b c d e), fun x a => (h2.2.1 x a).trans (h1.2.1 x a), h2.2.2.trans h1.2.2⟩
theorem mfr_i {m' : pmI} (h : ifr m m') : mfr m m' := ⟨fun i hi => h.1 i (by omega) (by omega) (by omega) (by omega) (by omega), h.2.2, fun k hk => h.2.1 k (by omega)⟩
theorem cInv_l {m' : pmI} (h : cInv m W) (f : lfr m m') : cInv m' W := cInv_fr h (fun i hi => ⟨f.1 i (by omega), by rw [f.2]⟩)
theorem cOut_l {m' : pmI} (f : lfr m m') : cOut m m' := fun i hi => ⟨f.1 i (by omega), by rw [f.2]⟩
theorem fr_l {m' : pmI} (f : lfr m m') : fr cS m m' := fun i hi => by
  have : ¬ ((1 ≤ i ∧ i ≤ 8) ∨ (91 ≤ i ∧ i ≤ 106)) := of_decide_eq_false hi
  exact ⟨f.1 i (by omega), by rw [f.2]⟩
/-- the cost of the best plan -/
def qCost (A : Ab) : Int × Int := match bestP A with
  | none => (1, 0)
  | some x => (0, (x.1 : Int))
theorem qCost_c (A : Ab) : (qCost A).1 = 0 ∨ (qCost A).1 = 1 := by
  unfold qCost
  split
  · exact Or.inr rfl
  · exact Or.inl rfl
theorem best_bd {A : Ab} (w : wfA A) {x : Pl} (h : bestP A = some x) : x.1 ≤ 512 := by
  have := bst_bd dis_le (show bst (dis A) (aEn A) (aC A) 0 0 = some x from h)
  have := w.1
  omega
theorem c_exitCost (h : cInv m W) (hn : 100 ≤ n) : cQ m W (fX8_exitCost n m) (qCost (wA W)).1 (z (qCost (wA W)).2) 3 := by
  obtain ⟨m1, e1, f1, -, -⟩ := c_planCost h.1 h.2.1 hn
  unfold fX8_exitCost qCost
  rw [e1, obind]
  dsimp only
  unfold cost
  cases hb : bestP (wA W) with
  | none =>
    rw [if_pos rfl]
    exact ⟨m1, rfl, cOut_l f1, cInv_l h f1⟩
  | some x =>
    have := best_bd h.2.1 hb
    dsimp only
    rw [if_neg (zne (by omega))]
    exact ⟨m1, rfl, cOut_l f1, cInv_l h f1⟩
/-- the exit that the best plan gives -/
def qOf (A : Ab) (d : Int) : Int × Int := match slot A d with
  | none => (1, 0)
  | some k => match bestP A with
    | none => (1, 0)
    | some x => (0, (x.2.getD k 0 : Int))
theorem qOf_c (A : Ab) (d : Int) : (qOf A d).1 = 0 ∨ (qOf A d).1 = 1 := by
  unfold qOf
  split
  · exact Or.inr rfl
  · split
    · exact Or.inr rfl
    · exact Or.inl rfl
theorem c_exitOf (h : cInv m W) (hn : 100 ≤ n) {d : Int} (hd : -2147483648 ≤ d ∧ d < 2147483648) : cQ m W (fX8_exitOf n (z d) m) (qOf (wA W) d).1 (z (qOf (wA W) d).2) 3 := by
  have w := h.2.1
  unfold fX8_exitOf qOf
  rw [c_presence (n := n) h.1 w (by omega) hd, obind]
  cases hs : slot (wA W) d with
  | none =>
    rw [if_pos rfl, tf4]
    exact ⟨m, rfl, cOut_rf, h⟩
  | some k =>
    have hk := (slot_lt hs).1
    obtain ⟨m1, e1, f1, t1, g1⟩ := c_planCost h.1 w hn
    rw [if_neg (Option.some_ne_none k), tf0, obind, oT_l, e1, obind]
    dsimp only
    unfold cost
    cases hb : bestP (wA W) with
    | none =>
      rw [if_pos rfl]
      exact ⟨m1, rfl, cOut_l f1, cInv_l h f1⟩
    | some x =>
      have hx := best_bd w hb
      have hN : aC (wA W) ≤ aEn (wA W) := Nat.le_of_not_lt fun hlt => by
        have p2 := p2_64 (aEn (wA W)) (by have := w.2.2.2.2.2.2.1; omega)
        have := bst_over (c := dis (wA W)) w.2.2.2.2.2.2.1 (d := aC (wA W)) (k := 0) (u := 0) (by omega) (by show _ < 0 + _; omega)
        rw [show bst (dis (wA W)) (aEn (wA W)) (aC (wA W)) 0 0 = bestP (wA W) from rfl, hb] at this
        cases this
      dsimp only
      rw [if_neg (zne (by omega)), c_slotOf (n := n) (repC_l h.1 f1) w (by omega) hd, obind, hs, oz_s, c_exitFor dis_le w.2.2.2.2.2.2.1 hN t1 (g1 hN) hn (show bst (dis (wA W)) (aEn (wA W)) (aC (wA W)) 0 0 = some x from hb) hk, obind]
      exact ⟨m1, rfl, cOut_l f1, cInv_l h f1⟩
/-- all leave -/
def aGone (A : Ab) : Ab := uMo (uD A 0 (aX A) (aNu A) (aCe A) (aNa A) (aPa A)) (aLo A) (aBr A) (aGi A) (aGo A + z ((nsum (aNa A) (aC A) : Nat) : Int))
def sLeave (A : Ab) : Int × Int × Ab := if aC A = 0 then (1, 0, A) else match bestP A with
  | none => (2, 0, A)
  | some x => (0, (x.1 : Int), aGone A)
theorem sLeave_ok (A : Ab) : sOk A (sLeave A) 2 := by
  unfold sLeave
  split
  · exact sOk1 (by omega)
  · split
    · exact sOk1 (by omega)
    · exact sOk0 (Nat.le_succ _)
theorem wf_none {A : Ab} (w : wfA A) : wfA (aGone A) := by
  obtain ⟨w1, w2, w3, w4, w5, w6, w7, w8, w9, w10, w11⟩ := w
  refine ⟨Nat.zero_le _, w2, fun k hk => absurd hk (Nat.not_lt_zero _), fun i j _ hj => absurd hj (Nat.not_lt_zero _), fun i hi => absurd hi (Nat.not_lt_zero _), w6, w7, w8, w9, w10, ?_⟩
  show aLo A = aBr A + aGi A - z ((0 : Nat) : Int) - (aGo A + z ((nsum (aNa A) (aC A) : Nat) : Int))
  rw [w11]
  have : z ((0 : Nat) : Int) = 0 := rfl
  rw [this]
  grind
def fcL (c : Int) : Int := if c = 0 then 0 else if c = 1 then 3 else 5
def exL (c : Int) : Nat := if c = 1 then 2 else 4
theorem c_leaveF (h : repC 1 m A) (w : wfA A) (hn : 100 ≤ n) : ∃ m', fX8_leaveFault n m = some (z (fcL (sLeave A).1), m') ∧ lfr m m' := by
  have w1 := w.1
  unfold fX8_leaveFault sLeave
  rw [h.2.1]
  by_cases h0 : aC A = 0
  · rw [if_pos (by rw [h0]; rfl), if_pos h0]
    exact ⟨m, rfl, lfr_rf⟩
  · obtain ⟨m1, e1, f1, -, -⟩ := c_planCost h w hn
    have hz : ¬ z (aC A : Int) = z 0 := zne (by omega)
    rw [if_neg hz, if_neg h0, e1, obind]
    dsimp only
    unfold cost
    cases hb : bestP A with
    | none =>
      rw [if_pos rfl]
      exact ⟨m1, rfl, f1⟩
    | some x =>
      have := best_bd w hb
      dsimp only
      rw [if_neg (zne (by omega))]
      exact ⟨m1, rfl, f1⟩
theorem c_leaveAll (h : cInv m W) (hn : 100 ≤ n) : cRes m W (fX8_leaveAll n m) (sLeave (wA W)) exL := by
  have w := h.2.1
  obtain ⟨m0, e0, f0⟩ := c_leaveF (n := n) h.1 w hn
  have h0 := cInv_l h f0
  unfold fX8_leaveAll
  rw [e0, obind]
  dsimp only
  unfold sLeave
  by_cases hz : aC (wA W) = 0
  · rw [if_pos hz]
    refine cRes_ex (by decide) ?_ (cOut_l f0) h0
    show (fX8_throwFor (z 3) m0).bind _ = _
    rw [tf3]
    rfl
  · rw [if_neg hz]
    cases hb : bestP (wA W) with
    | none =>
      refine cRes_ex (by decide) ?_ (cOut_l f0) h0
      show (fX8_throwFor (z 5) m0).bind _ = _
      rw [tf5]
      rfl
    | some x =>
      obtain ⟨m1, e1, i1, o1⟩ := c_remember h0
      obtain ⟨m2, e2, f2, -, -⟩ := c_planCost (n := n) i1.1 w hn
      obtain ⟨m3, e3, f3, r3⟩ := c_dismissAll (n := n) (repC_l i1.1 f2) w (by omega)
      have r3 : repC 1 m3 (aGone (wA W)) := r3
      refine cRes_ok (m' := m3) ?_ (cOut_tr (cOut_l f0) (cOut_tr (cOut_hi o1) (cOut_tr (cOut_l f2) (cOut_fr f3)))) (cInv_st i1 (fr_tr (fr_l f2) f3) r3 (wf_none w))
      show (fX8_throwFor (z 0) m0).bind _ = _
      rw [tf0, obind, oT_l, e1, obind, e2, obind]
      dsimp only
      rw [e3, obind]
      show some (Sum.inl (z (cost (wA W))), m3) = _
      unfold cost
      rw [hb]
end ISPL

