/-! areas: the law's calls -/
theorem lead_congr {P Q : Nat → Bool} (h : ∀ c, c < 64 → P c = Q c) : cnt (lead P) 64 = cnt (lead Q) 64 := by
  have hk : ∀ a, a < 64 → ∀ k c, R P a k c = R Q a k c := fun a ha k => by
    induction k with
    | zero => intro c; rfl
    | succ k ih =>
      intro c
      rw [Bool.eq_iff_iff, R_s, R_s, ih c]
      constructor
      · rintro (h1 | ⟨h1, e, h2, h3, h4⟩)
        · exact Or.inl h1
        · exact Or.inr ⟨by rw [← h c (adj_lt h2 h3)]; exact h1, e, h2, h3, by rw [← ih e]; exact h4⟩
      · rintro (h1 | ⟨h1, e, h2, h3, h4⟩)
        · exact Or.inl h1
        · exact Or.inr ⟨by rw [h c (adj_lt h2 h3)]; exact h1, e, h2, h3, by rw [ih e]; exact h4⟩
  refine cnt_congr fun c hc => ?_
  rw [Bool.eq_iff_iff, lead_iff, lead_iff, h c hc]
  constructor
  · rintro ⟨h1, h2⟩
    exact ⟨h1, fun b hb hq => by
      have := h2 b hb (by rw [h b (by omega)]; exact hq)
      unfold K at this ⊢
      rw [← hk b (by omega)]
      exact this⟩
  · rintro ⟨h1, h2⟩
    exact ⟨h1, fun b hb hq => by
      have := h2 b hb (by rw [← h b (by omega)]; exact hq)
      unfold K at this ⊢
      rw [hk b (by omega)]
      exact this⟩
theorem K_congr {P Q : Nat → Bool} (h : ∀ c, c < 64 → P c = Q c) {a c : Nat} (ha : a < 64) : K P a c = K Q a c := by
  have hk : ∀ k c, R P a k c = R Q a k c := fun k => by
    induction k with
    | zero => intro c; rfl
    | succ k ih =>
      intro c
      rw [Bool.eq_iff_iff, R_s, R_s, ih c]
      constructor
      · rintro (h1 | ⟨h1, e, h2, h3, h4⟩)
        · exact Or.inl h1
        · exact Or.inr ⟨by rw [← h c (adj_lt h2 h3)]; exact h1, e, h2, h3, by rw [← ih e]; exact h4⟩
      · rintro (h1 | ⟨h1, e, h2, h3, h4⟩)
        · exact Or.inl h1
        · exact Or.inr ⟨by rw [h c (adj_lt h2 h3)]; exact h1, e, h2, h3, by rw [ih e]; exact h4⟩
  exact hk 64 c
section LAW17
variable {E : pmEv0} {n : Nat} {self : lSelf} {i5 : Int32} {m : pmI} {D : Nat → Nat → UInt64} {w k : Nat} {W : Wd}
theorem cInv_a {m' : pmI} (h : cInv m W) (f : afr m m') : cInv m' W := cInv_fr h (fun i hi => ⟨f.1 i (by omega) (by omega), by rw [f.2]⟩)
theorem cOut_a {m' : pmI} (f : afr m m') : cOut m m' := fun i hi => ⟨f.1 i (by omega) (by omega), by rw [f.2]⟩
theorem mm_areas (hn : 700000 ≤ n) : mQ W W (fX9_areas n) 0 (z ((cnt (lead (aP (wA W))) 64 : Nat) : Int)) := fun m1 h1 => by
  obtain ⟨m2, e2, t2, f2, r2⟩ := m_areas h1.1 hn
  exact ⟨m2, e2, t2, mOut_mfr f2, mInv_mfr h1 f2 r2⟩
theorem law_areas (hn : 700000 ≤ n) (h : cInv m W) (hM : mInv m W) (hB : wB W k) : Sgo (jL_law_99998_483 E n self i5 m D w) self i5 w k := by
  obtain ⟨m1, e1, f1⟩ := c_areas (n := n) (m := m) (by omega) (m.2 1 0)
  rw [lead_congr h.1.1] at e1
  unfold jL_law_99998_483 fX8_areas
  rw [e1, obind, obind]
  exact law_caseD (m := m) (m1 := m1) (fm := fX9_areas n) (cInv_a h f1) (mInv_c hM (cOut_a f1)) (mm_areas hn) (wB_up hB (by omega))
theorem law_areasByUnions (hn : 700000 ≤ n) (h : cInv m W) (hM : mInv m W) (hB : wB W k) : Sgo (jL_law_99998_496 E n self i5 m D w) self i5 w k := by
  obtain ⟨m1, e1, f1⟩ := c_unions (n := n) (m := m) (by omega) (m.2 1 0)
  rw [lead_congr h.1.1] at e1
  unfold jL_law_99998_496 fX8_areasByUnions
  rw [e1, obind, obind]
  refine law_caseD (m := m) (m1 := m1) (fm := fX9_areasByUnions n) (cInv_a h f1) (mInv_c hM (cOut_a f1)) (fun m2 h2 => ?_) (wB_up hB (by omega))
  obtain ⟨m3, e3, g⟩ := mm_areas (W := W) hn m2 h2
  unfold fX9_areasByUnions
  rw [e3, obind]
  exact ⟨m3, rfl, g⟩
/-- how many cells an area has -/
def qSize (A : Ab) (x y : Int) : Int × Int := if isCb x y = true then (0, if aP A (8 * y + x).toNat = true then 0 else ((cnt (K (aP A) (8 * y + x).toNat) 64 : Nat) : Int)) else (1, 0)
theorem c_areaSize (h : cInv m W) (hn : 100 ≤ n) {x y : Int} (hx : -2147483648 ≤ x ∧ x < 2147483648) (hy : -2147483648 ≤ y ∧ y < 2147483648) : cQ m W (fX8_areaSize n (z x) (z y) m) (qSize (wA W) x y).1 (z (qSize (wA W) x y).2) 0 := by
  unfold fX8_areaSize qSize
  by_cases hc : isC x y
  · obtain ⟨c, hc1, hc2, hc3⟩ := isC_nat hc
    rw [(c_cell hx hy m).1 hc, obind, tf0, obind, oT_l, f_cellAt, obind, if_pos (isCb_t hc), hc2, Int.toNat_natCast]
    by_cases hp : aP (wA W) c = true
    · unfold fX0_fillFrom_91
      rw [f_holds _ hc1, obind, h.1.1 c hc1, if_pos hp, if_neg z10, obind]
      try dsimp only
      rw [f_bitCount, obind, if_pos hp]
      refine ⟨m, ?_, cOut_rf, h⟩
      have h0 : ∀ n, cnt (bt 0) n = 0 := fun n => by
        induction n with
        | zero => rfl
        | succ n ih => rw [cnt_s, ih, bt_zero, if_neg (by decide)]
      rw [h0]
      rfl
    · obtain ⟨m1, v, e1, g1, f1⟩ := c_fill (n := n) (m := m) hn hc1 (m.2 1 0) (by rw [h.1.1 c hc1]; exact Bool.eq_false_iff.mpr hp)
      rw [e1, obind]
      try dsimp only
      rw [f_bitCount, obind, if_neg hp, cnt_congr (Q := K (aP (wA W)) c) (fun e he => by rw [g1 e he, K_congr h.1.1 hc1])]
      exact ⟨m1, rfl, cOut_a f1, cInv_a h f1⟩
  · rw [(c_cell hx hy m).2 hc, obind, tf1, obind, oT_r, if_neg (by rw [isCb_f hc]; decide)]
    exact ⟨m, rfl, cOut_rf, h⟩
theorem mm_areaSize (hn : 700000 ≤ n) {x y : Int} (hx : -2147483648 ≤ x ∧ x < 2147483648) (hy : -2147483648 ≤ y ∧ y < 2147483648) : mQ W W (fX9_areaSize n (z x) (z y)) (qSize (wA W) x y).1 (z (qSize (wA W) x y).2) := fun m1 h1 => by
  unfold fX9_areaSize qSize jX9_areaSize_14
  by_cases hc : isC x y
  · obtain ⟨c, hc1, hc2, hc3⟩ := isC_nat hc
    obtain ⟨m2, e2, t2, o2, i2⟩ := mQ_fin 1 h1
    rw [(m_isCell hx hy m1).1 hc, obind, if_neg z10, e2, obind]
    try dsimp only
    rw [if_pos rfl, z_mul, z_add, hc3, m_isProp i2.1 hc1, obind, if_pos (isCb_t hc), hc2, Int.toNat_natCast]
    by_cases hp : aP (wA W) c = true
    · rw [if_pos hp, if_neg z10, if_pos hp]
      exact ⟨m2, rfl, t2, o2, i2⟩
    · have ho := Bool.eq_false_iff.mpr hp
      obtain ⟨m3, g, e3, x1, x2, x3, x4⟩ := m_groups (n := n) (m := m2) i2.1 hn
      have hA3 : repR (m3.1 114) (wA W) := by rw [x4.1 114 (by decide)]; exact i2.1
      have F := cntl (lX9_areaSize_l45 n (z x) (z y) m3) 64 (K (aP (wA W)) c) (fun k i a hi => by
        show bX9_areaSize_l45 n (z x) (z y) m3 (lX9_areaSize_l45 n (z x) (z y) m3 k) (z (a : Int)) (z (i : Int)) = _
        have b1 := (x1 i hi).1
        have b2 := (x1 c hc1).1
        unfold bX9_areaSize_l45
        rw [if_pos (zlt (by omega)), m_isProp hA3 hi, obind, z_mul, z_add, hc3]
        by_cases hq : aP (wA W) i = true
        · have hk : ¬ K (aP (wA W)) c i = true := fun h => by
            rw [K_op ho h] at hq; cases hq
          rw [if_pos hq, if_neg z10, if_neg hk, z_add, z_add]
          rfl
        · have hq' := Bool.eq_false_iff.mpr hq
          rw [if_neg hq, if_pos rfl, if_pos ⟨okI_z (by omega), okI_z (by omega)⟩, z_nat (by omega), z_nat (by omega), x2 i hi, x2 c hc1, z_add, z_add, z_add]
          by_cases hg : g i = g c
          · have hk : K (aP (wA W)) c i = true := by
              have k1 := ((x1 c hc1).2 ho).2
              have k2 := ((x1 i hi).2 hq').2
              rw [hg] at k2
              exact K_tr hc1 (by omega) k1 (K_sy hi hq' k2)
            rw [if_pos (by rw [hg]), if_pos hk]
            rfl
          · have hk : ¬ K (aP (wA W)) c i = true := fun h => hg (GX_K x3 hc1 ho h).symm
            rw [if_neg (zne (by omega)), if_neg hk]
            rfl) (fun k a => by
        show bX9_areaSize_l45 n (z x) (z y) m3 (lX9_areaSize_l45 n (z x) (z y) m3 k) (z (a : Int)) (z ((64 : Nat) : Int)) = _
        unfold bX9_areaSize_l45
        rw [if_neg (zge (by omega))]) 64 0 n (by omega) (by omega)
      have F : lX9_areaSize_l45 n (z x) (z y) m3 n (z 0) (z 0) = some (z ((cnt (K (aP (wA W)) c) 64 : Nat) : Int)) := F
      rw [if_neg hp, if_pos rfl, e3, obind, F, obind, if_neg hp]
      have f3 : mfr m2 m3 := ⟨fun i hi => x4.1 i (by omega), x4.2, fun k _ => by rw [x4.1 113 (by decide)]⟩
      exact ⟨m3, rfl, by rw [x4.1 113 (by decide)]; exact t2, ⟨fun i hi => ((mOut_mfr f3).1 i hi).trans (o2.1 i hi), f3.2.1.trans o2.2⟩, mInv_mfr i2 f3 (x4.1 114 (by decide))⟩
  · obtain ⟨m2, e2, t2, o2, i2⟩ := mQ_thr (c := 1) h1
    rw [(m_isCell hx hy m1).2 hc, obind, if_pos rfl, e2, obind]
    try dsimp only
    rw [if_neg z10, if_neg (by rw [isCb_f hc]; decide)]
    exact ⟨m2, rfl, t2, o2, i2⟩
theorem law_areaSize (hn : 700000 ≤ n) (h : cInv m W) (hM : mInv m W) (hB : wB W k) (q1 : okI (i5 + (z 1)) E.1 = true) (q2 : okI (i5 + (z 2)) E.1 = true) : Sgo (jL_law_99998_509 E n self i5 m D w) self i5 w k := by
  unfold jL_law_99998_509
  obtain ⟨x, hx, ex⟩ := z_of (E.2.1 (Int32.toNatClampNeg (i5 + (z 1))))
  obtain ⟨y, hy, ey⟩ := z_of (E.2.1 (Int32.toNatClampNeg (i5 + (z 2))))
  simp only [q1, q2, and_self, if_true, ex, ey]
  unfold fL_areaSize_0_127
  have qc : (qSize (wA W) x y).1 = 0 ∨ (qSize (wA W) x y).1 = 1 := by
    unfold qSize
    split
    · exact Or.inl rfl
    · exact Or.inr rfl
  exact law_caseQ (fm := fX9_areaSize n (z x) (z y)) (W' := W) (l_helpQ (W' := W) (c_areaSize (n := n) h (by omega) hx hy) hM (fun m2 h0 => by
    rcases qc with e | e
    · exact absurd e h0
    · rw [e]; rfl)) (mm_areaSize hn hx hy) (fun _ => rfl) (wB_up hB (by omega)) (by omega)
end LAW17
