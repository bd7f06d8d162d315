/-! the law, call by call: the means -/
theorem nsum_le {f : Nat → Nat} : ∀ {n : Nat}, (∀ k, k < n → f k ≤ 20) → nsum f n ≤ 20 * n
  | 0, _ => Nat.le_refl _
  | n + 1, h => by
    show nsum f n + f n ≤ 20 * (n + 1)
    have h1 := nsum_le (f := f) (n := n) (fun k hk => h k (by omega))
    have h2 := h n (by omega)
    omega
section LAW9
variable {E : pmEv0} {n : Nat} {self : lSelf} {i5 : Int32} {m : pmI} {D : Nat → Nat → UInt64} {w k : Nat} {W : Wd}
theorem law_meanNails (hn : 200 ≤ n) (h : cInv m W) (hM : mInv m W) (hB : wB W k) : Sgo (jL_law_99998_2214 E n self i5 m D w) self i5 w k := by
  have w1 := h.2.1.1
  unfold jL_law_99998_2214 fL_meanNails_0_128 fX8_meanNails
  rw [h.1.2.1]
  by_cases e : aC (wA W) = 0
  · rw [if_pos (show z (aC (wA W) : Int) = z 0 by rw [e]; rfl), obind, oT_r, if_pos rfl, obind]
    obtain ⟨m2, e2, t2, o2, i2⟩ := mQ_thr (c := 1) hM
    dsimp only
    unfold fX9_meanNails jX9_meanNails_15
    rw [if_pos (show m.1 114 1 = z 0 by rw [hM.1.2.1.1, e]; rfl), e2, obind]
    dsimp only
    rw [if_neg z10, obind]
    unfold fX9_thrown
    rw [obind]
    dsimp only
    rw [if_pos t2, if_neg z10]
    exact ⟨m2, D, 1, W, rfl, by omega, cInv_m h o2, i2, wB_up hB (by omega)⟩
  · have hs : nsum (aNa (wA W)) (aC (wA W)) ≤ 160 := by
      have := nsum_le (f := aNa (wA W)) (n := aC (wA W)) (fun q hq => (h.2.1.2.2.1 q hq).2.2.1)
      omega
    obtain ⟨g1, g2⟩ := mn_ok hs (c := aC (wA W)) (by omega)
    rw [if_neg (zne (by omega)), c_sumOfNails (n := n) h.1 h.2.1 (by omega), obind, if_pos g1, obind, oT_l, obind]
    obtain ⟨m2, e2, t2, o2, i2⟩ := mQ_fin 1 hM
    dsimp only
    unfold fX9_meanNails jX9_meanNails_15
    rw [if_neg (show ¬ m.1 114 1 = z 0 by rw [hM.1.2.1.1]; exact zne (by omega)), e2, obind]
    dsimp only
    rw [if_pos rfl, m_allNails (n := n) i2.1 h.2.1 (by omega), obind, i2.1.2.1.1, if_pos g1, obind]
    unfold fX9_thrown
    rw [obind]
    dsimp only
    rw [if_pos t2, if_pos rfl, if_pos (show Op.cmpValue (FP.dcmp (pmU D 128 0 (mnD (nsum (aNa (wA W)) (aC (wA W))) (aC (wA W))) 128 0) (mnD (nsum (aNa (wA W)) (aC (wA W))) (aC (wA W)))) .l = z 0 by rw [pU_same]; exact g2)]
    exact ⟨m2, _, 0, W, rfl, by omega, cInv_m h o2, i2, wB_up hB (by omega)⟩
theorem nan_ok {x : UInt64} (h : Op.cmpValue (FP.dcmp x x) .l = z 0) (m : pmI) : fJxe99ae_doubleToLongBits_ccdee x m = some (UInt64.toInt64 x) := by
  unfold fJxe99ae_doubleToLongBits_ccdee fJxe99ae_isNaN_b9ae7
  rw [if_pos h, obind, if_pos rfl]
theorem nanf_ok {x : UInt32} (h : Op.cmpValue (FP.fcmp x x) .l = z 0) (m : pmI) : fJxf58ca_floatToIntBits_5c35a x m = some (UInt32.toInt32 x) := by
  unfold fJxf58ca_floatToIntBits_5c35a fJxf58ca_isNaN_12338
  rw [if_pos h, obind, if_pos rfl]
theorem law_meanNailsBits (hn : 200 ≤ n) (h : cInv m W) (hM : mInv m W) (hB : wB W k) : Sgo (jL_law_99998_2279 E n self i5 m D w) self i5 w k := by
  have w1 := h.2.1.1
  unfold jL_law_99998_2279 fL_meanNailsBits_0_127 fX8_meanNailsBits fX8_meanNails
  rw [h.1.2.1]
  by_cases e : aC (wA W) = 0
  · rw [if_pos (show z (aC (wA W) : Int) = z 0 by rw [e]; rfl), obind, oT_r, obind, oT_r, if_pos rfl, obind]
    obtain ⟨m2, e2, t2, o2, i2⟩ := mQ_thr (c := 1) hM
    dsimp only
    unfold fX9_meanNailsBits jX9_meanNailsBits_15
    rw [if_pos (show m.1 114 1 = z 0 by rw [hM.1.2.1.1, e]; rfl), e2, obind]
    dsimp only
    rw [if_neg z10, obind]
    unfold fX9_thrown
    rw [obind]
    dsimp only
    rw [if_pos t2, if_neg z10]
    exact ⟨m2, D, 1, W, rfl, by omega, cInv_m h o2, i2, wB_up hB (by omega)⟩
  · have hs : nsum (aNa (wA W)) (aC (wA W)) ≤ 160 := by
      have := nsum_le (f := aNa (wA W)) (n := aC (wA W)) (fun q hq => (h.2.1.2.2.1 q hq).2.2.1)
      omega
    obtain ⟨g1, g2⟩ := mn_ok hs (c := aC (wA W)) (by omega)
    have g3 := up_db (n := n) (m := m) (by omega) (db_ok hs (c := aC (wA W)) (by omega))
    rw [if_neg (zne (by omega)), c_sumOfNails (n := n) h.1 h.2.1 (by omega), obind, if_pos g1, obind, oT_l, g3, obind, obind, oT_l, pmLet_eq, obind]
    obtain ⟨m2, e2, t2, o2, i2⟩ := mQ_fin 1 (mInv_J hM (UInt64.toInt64 (mnD (nsum (aNa (wA W)) (aC (wA W))) (aC (wA W)))))
    dsimp only
    unfold fX9_meanNailsBits jX9_meanNailsBits_15
    rw [if_neg (show ¬ m.1 114 1 = z 0 by rw [hM.1.2.1.1]; exact zne (by omega)), e2, obind]
    dsimp only
    rw [if_pos rfl, m_allNails (n := n) i2.1 h.2.1 (by omega), obind, i2.1.2.1.1, if_pos g1, nan_ok g2, obind, obind]
    unfold fX9_thrown
    rw [obind]
    dsimp only
    rw [if_pos t2, if_pos rfl, o2.2, if_pos (show lg_cmp (pmU m.2 127 0 (UInt64.toInt64 (mnD (nsum (aNa (wA W)) (aC (wA W))) (aC (wA W)))) 127 0) (UInt64.toInt64 (mnD (nsum (aNa (wA W)) (aC (wA W))) (aC (wA W)))) = z 0 by rw [pU_same]; exact lg_eq _)]
    exact ⟨m2, D, 0, W, rfl, by omega, cInv_m (cInv_J h _) o2, i2, wB_up hB (by omega)⟩
theorem m_paired {A : Ab} (h : repR (m.1 114) A) (w : wfA A) (hn : 20 ≤ n) : fX9_paired n m = some (z ((cnt (fun k => decide (¬ aPa A k = -1)) (aC A) : Nat) : Int)) := by
  unfold fX9_paired
  rw [m_cntW (n := n) h w hn, obind]
theorem law_pairedShare (hn : 200 ≤ n) (h : cInv m W) (hM : mInv m W) (hB : wB W k) : Sgo (jL_law_99998_2322 E n self i5 m D w) self i5 w k := by
  have w1 := h.2.1.1
  unfold jL_law_99998_2322 fL_pairedShare_0_128 fX8_pairedShare
  rw [h.1.2.1]
  by_cases e : aC (wA W) = 0
  · rw [if_pos (show z (aC (wA W) : Int) = z 0 by rw [e]; rfl), obind, oT_r, if_pos rfl, obind]
    obtain ⟨m2, e2, t2, o2, i2⟩ := mQ_thr (c := 1) hM
    dsimp only
    unfold fX9_pairedShare jX9_pairedShare_15
    rw [if_pos (show m.1 114 1 = z 0 by rw [hM.1.2.1.1, e]; rfl), e2, obind]
    dsimp only
    rw [if_neg z10, obind]
    unfold fX9_thrown
    rw [obind]
    dsimp only
    rw [if_pos t2, if_neg z10]
    exact ⟨m2, D, 1, W, rfl, by omega, cInv_m h o2, i2, wB_up hB (by omega)⟩
  · have hs := cnt_le (fun k => decide (¬ aPa (wA W) k = -1)) (aC (wA W))
    obtain ⟨g1, g2, g3, g4, g5⟩ := fb_ok hs (by omega)
    rw [if_neg (zne (by omega)), c_countPaired (n := n) h.1 h.2.1 (by omega), obind, if_pos g1, obind, oT_l, if_pos g2, obind]
    obtain ⟨m2, e2, t2, o2, i2⟩ := mQ_fin 1 hM
    dsimp only
    unfold fX9_pairedShare jX9_pairedShare_15
    rw [if_neg (show ¬ m.1 114 1 = z 0 by rw [hM.1.2.1.1]; exact zne (by omega)), e2, obind]
    dsimp only
    rw [if_pos rfl, m_paired (n := n) i2.1 h.2.1 (by omega), obind, i2.1.2.1.1, if_pos g1, obind]
    unfold fX9_thrown
    rw [obind]
    dsimp only
    rw [if_pos t2, if_pos rfl, if_pos g2, if_pos (show Op.cmpValue (FP.dcmp (pmU D 128 0 (FP.f2d (mnF (cnt (fun k => decide (¬ aPa (wA W) k = -1)) (aC (wA W))) (aC (wA W)))) 128 0) (FP.f2d (mnF (cnt (fun k => decide (¬ aPa (wA W) k = -1)) (aC (wA W))) (aC (wA W))))) .l = z 0 by rw [pU_same]; exact g3)]
    exact ⟨m2, _, 0, W, rfl, by omega, cInv_m h o2, i2, wB_up hB (by omega)⟩
theorem law_pairedShareBits (hn : 200 ≤ n) (h : cInv m W) (hM : mInv m W) (hB : wB W k) : Sgo (jL_law_99998_2388 E n self i5 m D w) self i5 w k := by
  have w1 := h.2.1.1
  unfold jL_law_99998_2388 fL_pairedShareBits_0_127 fX8_pairedShareBits fX8_pairedShare
  rw [h.1.2.1]
  by_cases e : aC (wA W) = 0
  · rw [if_pos (show z (aC (wA W) : Int) = z 0 by rw [e]; rfl), obind, oT_r, obind, oT_r, if_pos rfl, obind]
    obtain ⟨m2, e2, t2, o2, i2⟩ := mQ_thr (c := 1) hM
    dsimp only
    unfold fX9_pairedShareBits jX9_pairedShareBits_15
    rw [if_pos (show m.1 114 1 = z 0 by rw [hM.1.2.1.1, e]; rfl), e2, obind]
    dsimp only
    rw [if_neg z10, obind]
    unfold fX9_thrown
    rw [obind]
    dsimp only
    rw [if_pos t2, if_neg z10]
    exact ⟨m2, D, 1, W, rfl, by omega, cInv_m h o2, i2, wB_up hB (by omega)⟩
  · have hs := cnt_le (fun k => decide (¬ aPa (wA W) k = -1)) (aC (wA W))
    obtain ⟨g1, g2, g3, g4, g5⟩ := fb_ok hs (by omega)
    have g6 := up_fb (n := n) (m := m) (by omega) g5
    rw [if_neg (zne (by omega)), c_countPaired (n := n) h.1 h.2.1 (by omega), obind, if_pos g1, obind, oT_l, g6, obind, obind, oT_l, pmLet_eq, obind]
    obtain ⟨m2, e2, t2, o2, i2⟩ := mQ_fin 1 (mInv_J hM (Int32.toInt64 (UInt32.toInt32 (mnF (cnt (fun k => decide (¬ aPa (wA W) k = -1)) (aC (wA W))) (aC (wA W))))))
    dsimp only
    unfold fX9_pairedShareBits jX9_pairedShareBits_15
    rw [if_neg (show ¬ m.1 114 1 = z 0 by rw [hM.1.2.1.1]; exact zne (by omega)), e2, obind]
    dsimp only
    rw [if_pos rfl, m_paired (n := n) i2.1 h.2.1 (by omega), obind, i2.1.2.1.1, if_pos g1, nanf_ok g4, obind, obind]
    unfold fX9_thrown
    rw [obind]
    dsimp only
    rw [if_pos t2, if_pos rfl, o2.2, if_pos (show lg_cmp (pmU m.2 127 0 (Int32.toInt64 (UInt32.toInt32 (mnF (cnt (fun k => decide (¬ aPa (wA W) k = -1)) (aC (wA W))) (aC (wA W))))) 127 0) (Int32.toInt64 (UInt32.toInt32 (mnF (cnt (fun k => decide (¬ aPa (wA W) k = -1)) (aC (wA W))) (aC (wA W))))) = z 0 by rw [pU_same]; exact lg_eq _)]
    exact ⟨m2, D, 0, W, rfl, by omega, cInv_m (cInv_J h _) o2, i2, wB_up hB (by omega)⟩
end LAW9
