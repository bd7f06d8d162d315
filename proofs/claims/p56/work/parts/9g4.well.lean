/-! the law's isWell: it says so -/
section WELL
variable {n : Nat} {m : pmI} {W : Wd}
theorem y_mean (h : cInv m W) (hn : 200 ≤ n) (h0 : ¬ aC (wA W) = 0) : fX8_meanNails n m = some (.inl (mnD (nsum (aNa (wA W)) (aC (wA W))) (aC (wA W))), m) := by
  have w1 := h.2.1.1
  have hs : nsum (aNa (wA W)) (aC (wA W)) ≤ 160 := by
    have := nsum_le (f := aNa (wA W)) (n := aC (wA W)) (fun q hq => (h.2.1.2.2.1 q hq).2.2.1)
    omega
  obtain ⟨g1, g2⟩ := mn_ok hs (c := aC (wA W)) (by omega)
  unfold fX8_meanNails
  rw [h.1.2.1, if_neg (zne (by omega)), c_sumOfNails (n := n) h.1 h.2.1 (by omega), obind, if_pos g1]
theorem y_share (h : cInv m W) (hn : 200 ≤ n) (h0 : ¬ aC (wA W) = 0) : fX8_pairedShare n m = some (.inl (mnF (cnt (fun k => decide (¬ aPa (wA W) k = -1)) (aC (wA W))) (aC (wA W))), m) := by
  have w1 := h.2.1.1
  have hs := cnt_le (fun k => decide (¬ aPa (wA W) k = -1)) (aC (wA W))
  obtain ⟨g1, g2, g3, g4, g5⟩ := fb_ok hs (by omega)
  unfold fX8_pairedShare
  rw [h.1.2.1, if_neg (zne (by omega)), c_countPaired (n := n) h.1 h.2.1 (by omega), obind, if_pos g1]
/-- the last of isWell -/
theorem well_432 (h : cInv m W) (hn : 200 ≤ n) {b w : Nat} (hb : b ≤ 1) (hm : b = 1 ↔ mirA (wA W) (aC (wA W)) = true) : ∃ m' w', jL_isWell_0_432 n (z (b : Int)) (zl (nsum (qA (wA W)) 64 : Int)) (z 1) m w = some (z 1, m', w') ∧ cInv m' W ∧ w' ≤ w + 2 := by
  obtain ⟨m1, e1, i1⟩ := y_areas h hn
  obtain ⟨m2, e2, i2⟩ := y_areas i1 hn
  obtain ⟨m3, e3, i3⟩ := y_unions i2 hn
  obtain ⟨m4, e4, i4⟩ := y_cost i3 hn
  obtain ⟨m5, e5, i5⟩ := y_pot i4 hn
  have hl := cnt_le (lead (aP (wA W))) 64
  have mb : (if mirA (wA W) (aC (wA W)) = true then z 1 else z 0) = z (b : Int) := by
    rcases (show b = 0 ∨ b = 1 by omega) with rfl | rfl
    · rw [if_neg (fun g => by have := hm.mpr g; omega)]; rfl
    · rw [if_pos (hm.mp rfl)]; rfl
  unfold jL_isWell_0_432
  rw [if_neg z10, e1, obind]
  dsimp only
  rw [zl_of (by omega), zl_fin, if_pos (lg_eq _), e2, obind]
  dsimp only
  rw [e3, obind]
  dsimp only
  rw [if_pos rfl, c_isMirrored (n := n) i3.1 i3.2.1 (by omega), obind, if_pos mb, c_isMirroredR (n := n) i3.1 i3.2.1 (by omega), obind, if_pos mb, y_lost i3, obind, y_lostP i3 hn, obind, if_pos rfl, e4, obind]
  by_cases c : (qCost (wA W)).1 = 0
  · rw [if_pos c]
    rw [if_pos c] at e5
    dsimp only
    rw [e5, obind]
    dsimp only
    rw [if_pos rfl, y_consistent i5 hn, obind, if_neg z10]
    exact ⟨m5, _, rfl, i5, by omega⟩
  · rw [if_neg c]
    rw [if_neg c] at e5
    dsimp only
    rw [e5, obind]
    dsimp only
    rw [if_pos rfl, y_consistent i5 hn, obind, if_neg z10]
    exact ⟨m5, _, rfl, i5, by omega⟩
theorem pair_sum (A : Ab) : nsum (pR A) (aC A) = cnt (fun k => decide (¬ aPa A k = -1)) (aC A) := by
  rw [← nsum_cnt]
  show nsum (fun t => nsum (fun i => if rnk A i = t then (if aPa A i = -1 then 0 else 1) else 0) (aC A)) (aC A) = _
  rw [rank_sum (fun i => if aPa A i = -1 then 0 else 1)]
  refine nsum_congr (fun k _ => ?_)
  by_cases e : aPa A k = -1
  · rw [if_pos e, if_neg (by rw [decide_eq_true_eq]; exact fun h => h e)]
  · rw [if_neg e, if_pos (decide_eq_true e)]
theorem nail_sum (A : Ab) : nsum (nR A) (aC A) = nsum (aNa A) (aC A) := rank_sum (aNa A)
/-- isWell answers true -/
theorem well_ok (h : cInv m W) (hn : 200 ≤ n) : ∃ m' w', fL_isWell_0 n m = some (z 1, m', w') ∧ cInv m' W ∧ w' ≤ 10 := by
  have w1 := h.2.1.1
  obtain ⟨P, S, b, m1, w9, e1, i1, hb, hbm, hP, hS, hw⟩ := well_l9 hn (aC (wA W)) 0 n 0 0 1 0 m h (by omega) (by omega) (by omega) (by omega) (by omega)
  have hP : P = cnt (fun k => decide (¬ aPa (wA W) k = -1)) (aC (wA W)) := by
    rw [← pair_sum]
    have : nsum (pR (wA W)) 0 = 0 := rfl
    omega
  have hS : S = nsum (aNa (wA W)) (aC (wA W)) := by
    rw [← nail_sum]
    have : nsum (nR (wA W)) 0 = 0 := rfl
    omega
  have hmir : b = 1 ↔ mirA (wA W) (aC (wA W)) = true := by
    rw [hbm, mirA_iff]
    exact ⟨fun g i hi => g.2 i hi (Nat.zero_le _), fun g => ⟨rfl, fun i hi _ => g i hi⟩⟩
  obtain ⟨m2, e2, i2⟩ := well_l208 hn (i1 := z (P : Int)) (i2 := z (S : Int)) (i3 := z (b : Int)) 64 0 n w9 m1 i1 (by omega) (by omega)
  unfold fL_isWell_0
  rw [show lL_isWell_0_l9 n n (z 0) (z 0) (z 1) (z 0) m 0 = some (.inl (z (P : Int), z (S : Int), z (b : Int), m1, w9)) from e1, obind, oS_l]
  dsimp only
  rw [show lL_isWell_0_l208 n (z (P : Int)) (z (S : Int)) (z (b : Int)) n (0 : Int64) (z 0) m1 w9 = some (.inl (zl (nsum (qA (wA W)) 64 : Int), m2, w9)) from e2, obind, oS_l]
  dsimp only
  rw [y_dancers i2, obind]
  by_cases h0 : aC (wA W) = 0
  · rw [if_pos (show z (aC (wA W) : Int) = z 0 by rw [h0]; rfl)]
    unfold jL_isWell_0_427
    obtain ⟨m3, w3, e3, i3, hw3⟩ := well_432 i2 hn (w := w9) hb hmir
    exact ⟨m3, w3, e3, i3, by omega⟩
  · have hs : nsum (aNa (wA W)) (aC (wA W)) ≤ 160 := by
      have := nsum_le (f := aNa (wA W)) (n := aC (wA W)) (fun q hq => (h.2.1.2.2.1 q hq).2.2.1)
      omega
    obtain ⟨g1, g2⟩ := mn_ok hs (c := aC (wA W)) (by omega)
    have g3 := up_db (n := n) (m := m2) (by omega) (db_ok hs (c := aC (wA W)) (by omega))
    have hs5 := cnt_le (fun k => decide (¬ aPa (wA W) k = -1)) (aC (wA W))
    obtain ⟨f1, f2, f3, f4, f5⟩ := fb_ok hs5 (by omega)
    have f6 := up_fb (n := n) (m := m2) (by omega) f5
    rw [if_neg (zne (by omega)), y_mean i2 hn h0, obind, oT_l, y_dancers i2, obind, hS, hP]
    rw [if_pos (show okD (FP.ddiv (FP.i2d (z ((nsum (aNa (wA W)) (aC (wA W)) : Nat) : Int))) (FP.i2d (z (aC (wA W) : Int)))) = true from g1), if_pos (show Op.cmpValue (FP.dcmp (mnD (nsum (aNa (wA W)) (aC (wA W))) (aC (wA W))) (FP.ddiv (FP.i2d (z ((nsum (aNa (wA W)) (aC (wA W)) : Nat) : Int))) (FP.i2d (z (aC (wA W) : Int))))) .l = z 0 from g2)]
    unfold fX8_meanNailsBits
    rw [y_mean i2 hn h0, obind, oT_l, g3, obind, obind, oT_l, y_mean i2 hn h0, obind, oT_l, nan_ok g2, obind, if_pos (lg_eq _), y_share i2 hn h0, obind, oT_l, y_dancers i2, obind]
    rw [if_pos (show okF (FP.fdiv (FP.i2f (z ((cnt (fun k => decide (¬ aPa (wA W) k = -1)) (aC (wA W)) : Nat) : Int))) (FP.i2f (z (aC (wA W) : Int)))) = true from f1), if_pos (show Op.cmpValue (FP.fcmp (mnF (cnt (fun k => decide (¬ aPa (wA W) k = -1)) (aC (wA W))) (aC (wA W))) (FP.fdiv (FP.i2f (z ((cnt (fun k => decide (¬ aPa (wA W) k = -1)) (aC (wA W)) : Nat) : Int))) (FP.i2f (z (aC (wA W) : Int))))) .l = z 0 from f4)]
    unfold fX8_pairedShareBits
    rw [y_share i2 hn h0, obind, oT_l, f6, obind, obind, oT_l, y_share i2 hn h0, obind, oT_l, nanf_ok f4, obind, if_pos rfl]
    unfold jL_isWell_0_427
    obtain ⟨m3, w3, e3, i3, hw3⟩ := well_432 i2 hn (w := w9) hb hmir
    exact ⟨m3, w3, e3, i3, by omega⟩
end WELL
