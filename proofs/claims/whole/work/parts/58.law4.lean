/-! the law, call by call: unpair, removeExit, isFree, lostNailsByParts, type, charAt -/
theorem nar_c (x : Int32) : vp_nar .char x = (Int32.toUInt32 x % 65536).toInt32 := rfl
theorem ch_of (a : Int32) : ∃ c : Nat, c < 65536 ∧ (Int32.toUInt32 a % 65536).toInt32 = z (c : Int) := by
  have h1 : (Int32.toUInt32 a % 65536).toNat < 65536 := by
    rw [UInt32.toNat_mod]
    exact Nat.mod_lt _ (by decide)
  refine ⟨(Int32.toUInt32 a % 65536).toNat, h1, ?_⟩
  rw [← Int32.toInt_inj, z_toInt (by omega)]
  show (Int32.toUInt32 a % 65536).toBitVec.toInt = _
  rw [BitVec.toInt_eq_toNat_of_lt (by show 2 * (Int32.toUInt32 a % 65536).toNat < 2 ^ 32; omega)]
  rfl
theorem ch_z {c : Nat} (hc : c < 65536) : (Int32.toUInt32 (z (c : Int)) % 65536).toInt32 = z (c : Int) := by
  have h0 : (Int32.toUInt32 (z (c : Int))).toNat = c := by
    show (z (c : Int)).toBitVec.toNat = c
    have : (z (c : Int)).toBitVec.toInt = (c : Int) := z_toInt (k := (c : Int)) (by omega)
    rw [BitVec.toInt_eq_toNat_cond] at this
    split at this
    · omega
    · have := (z (c : Int)).toBitVec.isLt
      omega
  rw [← Int32.toInt_inj, z_toInt (by omega)]
  show (Int32.toUInt32 (z (c : Int)) % 65536).toBitVec.toInt = _
  have h1 : (Int32.toUInt32 (z (c : Int)) % 65536).toBitVec.toNat = c := by
    show (Int32.toUInt32 (z (c : Int)) % 65536).toNat = c
    rw [UInt32.toNat_mod, h0]
    exact Nat.mod_eq_of_lt hc
  rw [BitVec.toInt_eq_toNat_of_lt (by rw [h1]; omega), h1]
/-- the model's end of a change, by hand -/
theorem m_after {m m1 m2 : pmI} {n : Nat} {W : Wd} {A : Ab} (hn : 200 ≤ n) (h : mInv m W) (w : wfA (wA W)) (k : m1.2 = m.2 ∧ (∀ i, ¬ i = 113 → ¬ i = 115 → m1.1 i = m.1 i) ∧ (∀ k, ¬ k = 10 → m1.1 113 k = m.1 113 k) ∧ ∀ b, b < 188 → m1.1 115 b = m.1 114 b) (f : mfr m1 m2) (t2 : m2.1 113 10 = z 0) (r2 : repR (m2.1 114) A) (t : Int32) :
    ∃ m3, fX9_ends n t m2 = some (t, m3) ∧ m3.1 113 10 = z 0 ∧ mOut m m3 ∧ mInv m3 (wPut W A) := by
  obtain ⟨j1, o1, f1, k1⟩ := k
  obtain ⟨h1, h2, h3, h4, h5, h6, h7⟩ := h
  obtain ⟨a2, b2, c2⟩ := f
  have g115 : repR (m2.1 115) (wA W) := by
    rw [a2 115 (by decide)]
    exact repR_fr h1 w (fun b hb => k1 b hb)
  have hh : mHist m2 (wH W) := mHist_fr (mHist_fr h2 (o1 118 (by decide) (by decide)) (f1 9 (by decide))) (a2 118 (by decide)) (c2 9 (by decide))
  have hsv : mSv m2 (wS W) := mSv_fr (mSv_fr h3 (f1 15 (by decide)) (o1 117 (by decide) (by decide))) (c2 15 (by decide)) (a2 117 (by decide))
  obtain ⟨m3, e3, j3, o3, f3, g3⟩ := m_ends (n := n) hn t2 g115 w hh t
  refine ⟨m3, e3, by rw [f3 10 (by decide)]; exact t2, ⟨fun i hi => by rw [o3 i (by omega) (by omega), a2 i (by omega), o1 i (by omega) (by omega)], by rw [j3, b2, j1]⟩, ?_, g3, mSv_fr hsv (f3 15 (by decide)) (o3 117 (by decide) (by decide)), ?_, ?_, ?_, ?_⟩
  · rw [o3 114 (by decide) (by decide)]; exact r2
  · rw [f3 21 (by decide), c2 21 (by decide), f1 21 (by decide), o3 125 (by decide) (by decide), a2 125 (by decide), o1 125 (by decide) (by decide)]; exact h4
  · rw [f3 18 (by decide), c2 18 (by decide), f1 18 (by decide), o3 124 (by decide) (by decide), a2 124 (by decide), o1 124 (by decide) (by decide)]; exact h5
  · rw [f3 11 (by decide), c2 11 (by decide), f1 11 (by decide)]; exact h6
  · rw [f3 12 (by decide), c2 12 (by decide), f1 12 (by decide)]; exact h7
theorem m_afterX {m m1 m2 : pmI} {W : Wd} (h : mInv m W) (k : m1.2 = m.2 ∧ (∀ i, ¬ i = 113 → ¬ i = 115 → m1.1 i = m.1 i) ∧ (∀ k, ¬ k = 10 → m1.1 113 k = m.1 113 k) ∧ ∀ b, b < 188 → m1.1 115 b = m.1 114 b) (f : mfr m1 m2) (r : m2.1 114 = m1.1 114) : mOut m m2 ∧ mInv m2 W := by
  obtain ⟨j1, o1, f1, k1⟩ := k
  obtain ⟨a2, b2, c2⟩ := f
  refine ⟨⟨fun i hi => by rw [a2 i (by omega), o1 i (by omega) (by omega)], by rw [b2, j1]⟩, mInv_fr h (fun i h1 h2 h3 => ?_) (fun q hq => by rw [c2 q hq, f1 q (by omega)])⟩
  by_cases e : i = 114
  · rw [e, r, o1 114 (by decide) (by decide)]
  · rw [a2 i (by omega), o1 i (by omega) (by omega)]
section LAW4
variable {E : pmEv0} {n : Nat} {self : lSelf} {i5 : Int32} {m : pmI} {D : Nat → Nat → UInt64} {w k : Nat} {W : Wd}
def mR (W : Wd) (m1 : pmI) (r : Option (Int32 × pmI)) (s : Int × Int × Ab) : Prop := ∃ m2, r = some (z s.2.1, m2) ∧ m2.1 113 10 = z s.1 ∧ mOut m1 m2 ∧ mInv m2 (if s.1 = 0 then wPut W s.2.2 else W)
theorem mm_unpair (hn : 200 ≤ n) (w0 : wfA (wA W)) {x : Int} (hx : -2147483648 ≤ x ∧ x < 2147483648) : ∀ m1, mInv m1 W → mR W m1 (fX9_unpair n (z x) m1) (sUnpair (wA W) x) := fun m1 h1 => by
  have w1 := w0.1
  obtain ⟨m2, e2, k2⟩ := m_keeps (m := m1) hn
  have r2 : repR (m2.1 114) (wA W) := by rw [k2.2.1 114 (by decide) (by decide)]; exact h1.1
  unfold fX9_unpair sUnpair
  rw [e2, obind, m_at (n := n) r2 w0 (by omega) hx, obind]
  cases hs : slot (wA W) x with
  | none =>
    obtain ⟨m3, e3, t3, f3, r3⟩ := m_t1 (m := m2) (z 1)
    rw [oz_n, if_pos (zlt (by omega))]
    unfold jX9_unpair_20
    rw [e3, obind]
    dsimp only
    rw [if_neg z10]
    obtain ⟨a, b⟩ := m_afterX h1 k2 f3 r3
    exact ⟨m3, rfl, t3, a, b⟩
  | some j =>
    have hj := (slot_lt hs).1
    have rj := pa_rg w0 hj
    obtain ⟨m3, e3, t3, f3, r3⟩ := m_t0 (m := m2) (z 1)
    have h3 : repR (m3.1 114) (wA W) := r3 ▸ r2
    rw [oz_s, if_neg (zge (by omega))]
    unfold jX9_unpair_20
    rw [e3, obind]
    dsimp only
    rw [if_pos rfl, show z 3 = z ((3 : Nat) : Int) from rfl, mr_of h3 hj w1 (by decide), obind, (h3.2.1.2.2 j hj).2.2.2]
    by_cases e : aPa (wA W) j = -1
    · rw [if_pos (show z (aPa (wA W) j + 1) = z 0 by rw [e]; rfl)]
      try dsimp only
      rw [if_pos e]
      obtain ⟨m4, e4, t4, f4, r4⟩ := m_t1 (m := m3) (z 2)
      unfold jX9_unpair_42
      rw [e4, obind]
      dsimp only
      rw [if_neg z10]
      obtain ⟨a, b⟩ := m_afterX h1 k2 (mfr_tr f3 f4) (r4.trans r3)
      exact ⟨m4, rfl, t4, a, b⟩
    · rw [if_neg (zne (by omega))]
      try dsimp only
      rw [if_neg e]
      obtain ⟨m4, e4, t4, f4, r4⟩ := m_t0 (m := m3) (z 2)
      have h4 : repR (m4.1 114) (wA W) := r4 ▸ h3
      unfold jX9_unpair_42
      rw [e4, obind]
      dsimp only
      obtain ⟨m5, e5, f5, t5, r5⟩ := m_parts (n := n) h4 w0 (by omega) hj
      rw [if_pos rfl, show z 3 = z ((3 : Nat) : Int) from rfl, mr_of h4 hj w1 (by decide), obind, (h4.2.1.2.2 j hj).2.2.2, e5, obind, z_sub, show aPa (wA W) j + 1 - 1 = aPa (wA W) j by omega]
      obtain ⟨m6, e6, t6, o6, i6⟩ := m_after hn h1 w0 k2 (mfr_tr f3 (mfr_tr f4 f5)) (by rw [t5]; exact t4) r5 (z (aPa (wA W) j))
      rw [e6, obind]
      exact ⟨m6, rfl, t6, o6, i6⟩
theorem law_unpair (hn : 200 ≤ n) (h : cInv m W) (hM : mInv m W) (hB : wB W k) (q1 : okI (i5 + (z 1)) E.1 = true) : Sgo (jL_law_99998_781 E n self i5 m D w) self i5 w k := by
  unfold jL_law_99998_781
  obtain ⟨x, hx, ex⟩ := z_of (E.2.1 (Int32.toNatClampNeg (i5 + (z 1))))
  simp only [q1, if_true, ex]
  have hs : sOk (wA W) (sUnpair (wA W) x) 2 := by
    unfold sUnpair
    split
    · exact sOk1 (by omega)
    · split
      · exact sOk1 (by omega)
      · exact sOk0 (Nat.le_succ _)
  have hr : 0 ≤ (sUnpair (wA W) x).1 ∧ (sUnpair (wA W) x).1 < 100 := by
    rcases hs with ⟨h, -⟩ | ⟨h, -⟩ <;> omega
  unfold fL_unpair_0_127
  refine law_case (fm := fX9_unpair n (z x)) (l_help (c_unpair (n := n) h (by omega) hx) hM (fun m2 h0 => by rcases cd2 hs h0 with e | e <;> (rw [e]; rfl))) (mm_unpair hn h.2.1 hx) ?_ hr
  by_cases e : (sUnpair (wA W) x).1 = 0
  · rw [if_pos e]
    refine wB_put hB ?_ (by omega)
    have := hB.1
    rcases hs with ⟨-, h⟩ | ⟨h, -⟩ <;> omega
  · rw [if_neg e]
    exact wB_up hB (by omega)
theorem m_isExit {m : pmI} {A : Ab} (h : repR (m.1 114) A) (w : wfA A) {e : Int} (he : -2147483648 ≤ e ∧ e < 2147483648) : fX9_isExit (z e) m = some (if 0 ≤ e ∧ e < aEn A then z 1 else z 0) := by
  have w6 := w.2.2.2.2.2.2.1
  unfold fX9_isExit
  rw [h.2.2.2.1.1, z_sub]
  by_cases hg : 0 ≤ e ∧ e < aEn A
  · rw [m_in (by omega), obind, if_pos (Or.inr rfl), if_pos hg]
  · rw [m_out (by omega), obind, if_pos (Or.inl rfl), if_neg hg]
theorem mm_removeExit (hn : 200 ≤ n) (w0 : wfA (wA W)) {x : Int} (hx : -2147483648 ≤ x ∧ x < 2147483648) : ∀ m1, mInv m1 W → ∃ m2, fX9_removeExit n (z x) m1 = some (z (sShut (wA W) x).2.1, m2) ∧ m2.1 113 10 = z (sShut (wA W) x).1 ∧ mOut m1 m2 ∧ mInv m2 (if (sShut (wA W) x).1 = 0 then wPut W (sShut (wA W) x).2.2 else W) := fun m1 h1 => by
  have w6 := w0.2.2.2.2.2.2.1
  obtain ⟨m2, e2, k2⟩ := m_keeps (m := m1) hn
  have r2 : repR (m2.1 114) (wA W) := by rw [k2.2.1 114 (by decide) (by decide)]; exact h1.1
  unfold fX9_removeExit sShut
  rw [e2, obind, m_isExit r2 w0 hx, obind]
  by_cases hg : 0 ≤ x ∧ x < aEn (wA W)
  · obtain ⟨g, rfl⟩ : ∃ g : Nat, x = (g : Int) := ⟨x.toNat, by omega⟩
    have hge : g < aEn (wA W) := by omega
    obtain ⟨m3, e3, t3, f3, r3⟩ := m_t0 (m := m2) (z 1)
    have h3 : repR (m3.1 114) (wA W) := r3 ▸ r2
    rw [if_pos hg, if_neg z10, if_pos (exB.mpr hg), Int.toNat_natCast]
    unfold jX9_removeExit_18
    rw [e3, obind]
    dsimp only
    obtain ⟨m4, e4, f4, t4, o4, r4⟩ := m_closes (n := n) h3 w0 (by omega) hge
    rw [if_pos rfl, e4, obind, pmLet_eq]
    obtain ⟨m5, e5, f5, t5, r5⟩ := m_w m4 3 (m4.1 114 3 - z 1)
    rw [e5]
    have c5 : m5.1 114 3 = z ((aEn (wA W) - 1 : Nat) : Int) := by
      rw [r5, if_pos rfl, o4 3 (by omega), h3.2.2.2.1.1, z_sub]
      congr 1
      omega
    rw [c5, z_add, if_pos (okI_z (by omega)), pmLet_eq, z_natI (by omega), show (182 + ((aEn (wA W) - 1 : Nat) : Int)).toNat = 182 + (aEn (wA W) - 1) by omega]
    obtain ⟨m6, e6, f6, t6, r6⟩ := m_w m5 (182 + (aEn (wA W) - 1)) (z 0)
    rw [e6]
    have c6 : m6.1 114 3 = z ((aEn (wA W) - 1 : Nat) : Int) := by rw [r6, if_neg (by omega), c5]
    have kk : ∀ b, ¬ b = 3 → ¬ (182 ≤ b ∧ b < 188) → m6.1 114 b = m3.1 114 b := fun b h1 h2 => by rw [r6, if_neg (by omega), r5, if_neg h1, o4 b h2]
    have hR : repR (m6.1 114) (uEx (wA W) (aEn (wA W) - 1) (sh g (aEx (wA W)))) := by
      refine ⟨rP_fr (A := wA W) h3.1 (kk _ (by omega) (by omega)) (fun q h1 h2 => kk q (by omega) (by omega)), rD_fr (A := wA W) h3.2.1 w0.1 (fun q h1 => kk q (by omega) (by omega)), rF_fr (A := wA W) h3.2.2.1 (fun f hf => (w0.2.2.2.2.2.1 f hf).1) (fun q h1 h2 => kk q (by omega) (by omega)), ⟨c6, fun q hq => ?_⟩, rM_fr (A := wA W) h3.2.2.2.2 (fun q h1 h2 => kk q (by omega) (by omega))⟩
      have hq' : q < aEn (wA W) - 1 := hq
      show m6.1 114 (182 + q) = z ((sh g (aEx (wA W)) q : Nat) : Int)
      rw [r6, if_neg (by omega), r5, if_neg (by omega), r4 q hq']
    obtain ⟨m7, e7, t7, o7, i7⟩ := m_after hn h1 w0 k2 (mfr_tr f3 (mfr_tr f4 (mfr_tr f5 f6))) (by rw [t6, t5, t4]; exact t3) hR (m6.1 114 3)
    rw [e7, obind, c6]
    refine ⟨m7, ?_, t7, o7, i7⟩
    show some (z ((aEn (wA W) - 1 : Nat) : Int), m7) = some (z ((aEn (wA W) : Int) - 1), m7)
    rw [show ((aEn (wA W) - 1 : Nat) : Int) = (aEn (wA W) : Int) - 1 by omega]
  · obtain ⟨m3, e3, t3, f3, r3⟩ := m_t1 (m := m2) (z 1)
    rw [if_neg hg, if_pos rfl, if_neg (fun q => hg (exB.mp q))]
    unfold jX9_removeExit_18
    rw [e3, obind]
    dsimp only
    rw [if_neg z10]
    obtain ⟨a, b⟩ := m_afterX h1 k2 f3 r3
    exact ⟨m3, rfl, t3, a, b⟩
theorem law_removeExit (hn : 200 ≤ n) (h : cInv m W) (hM : mInv m W) (hB : wB W k) (q1 : okI (i5 + (z 1)) E.1 = true) : Sgo (jL_law_99998_1837 E n self i5 m D w) self i5 w k := by
  unfold jL_law_99998_1837
  obtain ⟨x, hx, ex⟩ := z_of (E.2.1 (Int32.toNatClampNeg (i5 + (z 1))))
  simp only [q1, if_true, ex]
  have hs : sOk (wA W) (sShut (wA W) x) 1 := by
    unfold sShut
    split
    · exact sOk0 (Nat.le_succ _)
    · exact sOk1 (by omega)
  have hr : 0 ≤ (sShut (wA W) x).1 ∧ (sShut (wA W) x).1 < 100 := by
    rcases hs with ⟨h, -⟩ | ⟨h, -⟩ <;> omega
  unfold fL_removeExit_0_127
  refine law_case (fm := fX9_removeExit n (z x)) (l_help (c_removeExit (n := n) h (by omega) hx) hM (fun m2 h0 => by obtain e := cd1 hs h0; rw [e]; rfl)) (mm_removeExit hn h.2.1 hx) ?_ hr
  by_cases e : (sShut (wA W) x).1 = 0
  · rw [if_pos e]
    refine wB_put hB ?_ (by omega)
    have := hB.1
    rcases hs with ⟨-, h⟩ | ⟨h, -⟩ <;> omega
  · rw [if_neg e]
    exact wB_up hB (by omega)
theorem m_allNails {m : pmI} {A : Ab} (h : repR (m.1 114) A) (w : wfA A) (hn : 20 ≤ n) : fX9_allNails n m = some (z ((nsum (aNa A) (aC A) : Nat) : Int)) := by
  have w1 := w.1
  have L := suml (lX9_allNails_l4 n m) (aC A) (aNa A) (fun k i c hi => by
    show bX9_allNails_l4 n m (lX9_allNails_l4 n m k) _ _ = _
    unfold bX9_allNails_l4
    rw [h.2.1.1, if_pos (zlt (by omega)), show z 2 = z ((2 : Nat) : Int) from rfl, mr_of h hi w1 (by decide), obind, (h.2.1.2.2 i hi).2.2.1, z_add, z_add]
    rfl) (fun k c => by
    show bX9_allNails_l4 n m (lX9_allNails_l4 n m k) _ _ = _
    unfold bX9_allNails_l4
    rw [h.2.1.1, if_neg (zge (by omega))]) (aC A) 0 n (by omega) (by omega)
  unfold fX9_allNails
  exact (congrArg (fun o => Option.bind o (fun w4 => some w4)) L)
theorem law_lostNailsByParts (hn : 200 ≤ n) (h : cInv m W) (hM : mInv m W) (hB : wB W k) : Sgo (jL_law_99998_2201 E n self i5 m D w) self i5 w k := by
  unfold jL_law_99998_2201 fX8_lostNailsByParts fX6_lostByParts_1
  have p := h.1.2.2.2.2.2.2.2
  rw [c_sumOfNails h.1 h.2.1 (by omega), obind, obind, obind, p.2.1, p.2.2.1, p.2.2.2]
  refine law_caseD (m := m) (fm := fX9_lostNailsByParts n) h hM (fun m1 h1 => ?_) (wB_up hB (by omega))
  obtain ⟨m2, e2, t2, o2, i2, r2⟩ := mQ_set h1 0
  have q := i2.1.2.2.2.2
  unfold fX9_lostNailsByParts
  rw [pmLet_eq, e2, m_allNails i2.1 h.2.1 (by omega), obind, q.2.1, q.2.2.1, q.2.2.2]
  exact ⟨m2, rfl, t2, o2, i2⟩
theorem law_isFree (hn : 200 ≤ n) (h : cInv m W) (hM : mInv m W) (hB : wB W k) (q1 : okI (i5 + (z 1)) E.1 = true) (q2 : okI (i5 + (z 2)) E.1 = true) : Sgo (jL_law_99998_408 E n self i5 m D w) self i5 w k := by
  unfold jL_law_99998_408
  obtain ⟨x, hx, ex⟩ := z_of (E.2.1 (Int32.toNatClampNeg (i5 + (z 1))))
  obtain ⟨y, hy, ey⟩ := z_of (E.2.1 (Int32.toNatClampNeg (i5 + (z 2))))
  simp only [q1, q2, and_self, if_true, ex, ey]
  unfold fL_isFree_0_127 fX8_isFree
  by_cases hc : isC x y
  · obtain ⟨c, hc1, hc2, hc3⟩ := isC_nat hc
    rw [(c_cell hx hy m).1 hc, obind, tf0, obind, oT_l, f_cellAt, obind, hc2, c_isOpen (n := n) h.1 h.2.1 (by omega) hc1, obind]
    have key : ∀ m1, mInv m1 W → ∃ m2, fX9_isFree n (z x) (z y) m1 = some ((if aP (wA W) c = true ∨ ¬ spot (wA W) c = none then z 0 else z 1), m2) ∧ m2.1 113 10 = z 0 ∧ mOut m1 m2 ∧ mInv m2 W := fun m1 h1 => by
      obtain ⟨m2, e2, t2, o2, i2⟩ := mQ_fin 1 h1
      unfold fX9_isFree jX9_isFree_14
      rw [(m_isCell hx hy m1).1 hc, obind, if_neg z10, e2, obind]
      dsimp only
      rw [if_pos rfl, z_mul, z_add, hc3, m_free (n := n) i2.1 h.2.1 (by omega) hc1, obind]
      by_cases hf : aP (wA W) c = true ∨ ¬ spot (wA W) c = none
      · rw [if_pos hf, if_pos rfl]
        exact ⟨m2, rfl, t2, o2, i2⟩
      · rw [if_neg hf, if_neg z10]
        exact ⟨m2, rfl, t2, o2, i2⟩
    by_cases hf : aP (wA W) c = true ∨ ¬ spot (wA W) c = none
    · obtain ⟨m2, e2, t2, o2, i2⟩ := key (m.1, pmU m.2 127 0 0) (mInv_J hM 0)
      rw [if_pos hf] at e2
      rw [if_pos hf, if_pos (Or.inl rfl), obind, oT_l, if_pos rfl, pmLet_eq, obind]
      dsimp only
      rw [e2, obind]
      unfold fX9_thrown
      rw [obind]
      dsimp only
      unfold jL_law_99998_474
      rw [if_pos t2, if_pos rfl, if_pos rfl, o2.2, if_pos (show lg_cmp (pmU m.2 127 0 0 127 0) 0 = z 0 by rw [pU_same]; exact lg_eq _)]
      exact ⟨m2, D, 0, W, rfl, by omega, cInv_m (cInv_J h 0) o2, i2, wB_up hB (by omega)⟩
    · obtain ⟨m2, e2, t2, o2, i2⟩ := key (m.1, pmU m.2 127 0 1) (mInv_J hM 1)
      rw [if_neg hf] at e2
      rw [if_neg hf, if_pos (Or.inr rfl), obind, oT_l, if_neg z10, pmLet_eq, obind]
      dsimp only
      rw [e2, obind]
      unfold fX9_thrown
      rw [obind]
      dsimp only
      unfold jL_law_99998_474
      rw [if_pos t2, if_pos rfl, if_neg z10, o2.2, if_pos (show lg_cmp (pmU m.2 127 0 1 127 0) 1 = z 0 by rw [pU_same]; exact lg_eq _)]
      exact ⟨m2, D, 0, W, rfl, by omega, cInv_m (cInv_J h 1) o2, i2, wB_up hB (by omega)⟩
  · rw [(c_cell hx hy m).2 hc, obind, tf1, obind, oT_r, obind, oT_r, if_pos rfl, obind]
    obtain ⟨m2, e2, t2, o2, i2⟩ := mQ_thr (c := 1) hM
    dsimp only
    unfold fX9_isFree jX9_isFree_14
    rw [(m_isCell hx hy m).2 hc, obind, if_pos rfl, e2, obind]
    dsimp only
    rw [if_neg z10, obind]
    unfold fX9_thrown
    rw [obind]
    dsimp only
    rw [if_pos t2, if_neg z10]
    exact ⟨m2, D, 1, W, rfl, by omega, cInv_m h o2, i2, wB_up hB (by omega)⟩
end LAW4
