/-! the law, call by call: partner, figureLength, isFree, unpair, removeExit, positions, undo, save, restore -/
section LAW3
variable {E : pmEv0} {n : Nat} {self : lSelf} {i5 : Int32} {m : pmI} {D : Nat → Nat → UInt64} {w k : Nat} {W : Wd}
theorem law_partner (hn : 200 ≤ n) (h : cInv m W) (hM : mInv m W) (hB : wB W k) (q1 : okI (i5 + (z 1)) E.1 = true) : Sgo (jL_law_99998_1099 E n self i5 m D w) self i5 w k := by
  have w1 := h.2.1.1
  unfold jL_law_99998_1099
  obtain ⟨x, hx, ex⟩ := z_of (E.2.1 (Int32.toNatClampNeg (i5 + (z 1))))
  simp only [q1, if_true, ex]
  unfold fL_partner_0_127 fX8_partner
  rw [c_presence (n := n) h.1 h.2.1 (by omega) hx, obind]
  have bad : ∀ m1, mInv m1 W → ∃ m2, jX9_partner_22 n (z x) m1 = some (z 0, m2) ∧ m2.1 113 10 = z 1 ∧ mOut m1 m2 ∧ mInv m2 W := fun m1 h1 => by
    obtain ⟨m2, e2, t2, o2, i2⟩ := mQ_thr (c := 1) h1
    unfold jX9_partner_22 jX9_partner_27
    rw [e2, obind]
    dsimp only
    rw [if_neg z10]
    exact ⟨m2, rfl, t2, o2, i2⟩
  cases hs : slot (wA W) x with
  | none =>
    rw [if_pos rfl, tf4, obind, oT_r]
    refine law_caseQ (c := 1) (t := z 0) (t' := z 0) (fm := fX9_partner n (z x)) (W' := W) (l_helpQ (W' := W) (ex := 3) ⟨m, rfl, cOut_rf, h⟩ hM (fun m2 _ => rfl)) (fun m1 h1 => ?_) (fun h => absurd h (by decide)) (wB_up hB (by omega)) (by omega)
    unfold fX9_partner
    rw [m_at (n := n) h1.1 h.2.1 (by omega) hx, obind, hs, oz_n, if_pos (zlt (by omega))]
    exact bad m1 h1
  | some j =>
    have hj := (slot_lt hs).1
    have rj := pa_rg h.2.1 hj
    rw [if_neg (Option.some_ne_none j), tf0, obind, oT_l, c_partnerOf (n := n) h.1 h.2.1 (by omega) hx, obind, hs]
    dsimp only
    by_cases e : aPa (wA W) j = -1
    · rw [if_pos (show z (aPa (wA W) j) = z (-1) by rw [e])]
      refine law_caseQ (c := 1) (t := z 0) (t' := z 0) (fm := fX9_partner n (z x)) (W' := W) (l_helpQ (W' := W) (ex := 3) ⟨m, rfl, cOut_rf, h⟩ hM (fun m2 _ => rfl)) (fun m1 h1 => ?_) (fun h => absurd h (by decide)) (wB_up hB (by omega)) (by omega)
      unfold fX9_partner
      rw [m_at (n := n) h1.1 h.2.1 (by omega) hx, obind, hs, oz_s, if_neg (zge (by omega)), obind, show z 3 = z ((3 : Nat) : Int) from rfl, mr_of h1.1 hj w1 (by decide), obind, (h1.1.2.1.2.2 j hj).2.2.2, if_pos (show z (aPa (wA W) j + 1) = z 0 by rw [e]; rfl)]
      exact bad m1 h1
    · rw [if_neg (zne (by omega))]
      refine law_caseQ (c := 0) (t := z (aPa (wA W) j)) (t' := z (aPa (wA W) j)) (fm := fX9_partner n (z x)) (W' := W) (l_helpQ (W' := W) (ex := 3) ⟨m, rfl, cOut_rf, h⟩ hM (fun m2 h => absurd rfl h)) (fun m1 h1 => ?_) (fun _ => rfl) (wB_up hB (by omega)) (by omega)
      obtain ⟨m2, e2, t2, o2, i2⟩ := mQ_fin 1 h1
      unfold fX9_partner
      rw [m_at (n := n) h1.1 h.2.1 (by omega) hx, obind, hs, oz_s, if_neg (zge (by omega)), obind, show z 3 = z ((3 : Nat) : Int) from rfl, mr_of h1.1 hj w1 (by decide), obind, (h1.1.2.1.2.2 j hj).2.2.2, if_neg (zne (by omega))]
      unfold jX9_partner_27
      rw [e2, obind]
      dsimp only
      rw [if_pos rfl, m_at (n := n) i2.1 h.2.1 (by omega) hx, obind, hs, oz_s, show z 3 = z ((3 : Nat) : Int) from rfl, mr_of i2.1 hj w1 (by decide), obind, (i2.1.2.1.2.2 j hj).2.2.2, z_sub, show aPa (wA W) j + 1 - 1 = aPa (wA W) j by omega]
      exact ⟨m2, rfl, t2, o2, i2⟩
theorem law_figureLength (hn : 200 ≤ n) (h : cInv m W) (hM : mInv m W) (hB : wB W k) (q1 : okI (i5 + (z 1)) E.1 = true) : Sgo (jL_law_99998_1337 E n self i5 m D w) self i5 w k := by
  unfold jL_law_99998_1337
  obtain ⟨x, hx, ex⟩ := z_of (E.2.1 (Int32.toNatClampNeg (i5 + (z 1))))
  simp only [q1, if_true, ex]
  unfold fL_figureLength_0_127 fX8_figureLength
  rw [c_figF hx, obind]
  by_cases hg : 0 ≤ x ∧ x < 6
  · obtain ⟨g, rfl⟩ : ∃ g : Nat, x = (g : Int) := ⟨x.toNat, by omega⟩
    have hg6 : g < 6 := by omega
    rw [if_pos (figB_t hg), tf0, obind, oT_l, c_movesIn h.1 hg6, obind]
    refine law_caseQ (c := 0) (t := z (aFl (wA W) g)) (t' := z (aFl (wA W) g)) (fm := fX9_figureLength (z (g : Int))) (W' := W) (l_helpQ (W' := W) (ex := 0) ⟨m, rfl, cOut_rf, h⟩ hM (fun m2 h => absurd rfl h)) (fun m1 h1 => ?_) (fun _ => rfl) (wB_up hB (by omega)) (by omega)
    obtain ⟨m2, e2, t2, o2, i2⟩ := mQ_fin 1 h1
    unfold fX9_figureLength jX9_figureLength_13
    rw [(m_isFig hx m1).1 hg, obind, if_neg z10, e2, obind]
    dsimp only
    rw [if_pos rfl, m_many i2.1 hg6, obind]
    exact ⟨m2, rfl, t2, o2, i2⟩
  · rw [if_neg (show ¬ figB x = true by rw [figB_f hg]; decide), tf1, obind, oT_r]
    refine law_caseQ (c := 1) (t := z 0) (t' := z 0) (fm := fX9_figureLength (z x)) (W' := W) (l_helpQ (W' := W) (ex := 0) ⟨m, rfl, cOut_rf, h⟩ hM (fun m2 _ => rfl)) (fun m1 h1 => ?_) (fun h => absurd h (by decide)) (wB_up hB (by omega)) (by omega)
    obtain ⟨m2, e2, t2, o2, i2⟩ := mQ_thr (c := 1) h1
    unfold fX9_figureLength jX9_figureLength_13
    rw [(m_isFig hx m1).2 hg, obind, if_pos rfl, e2, obind]
    dsimp only
    rw [if_neg z10]
    exact ⟨m2, rfl, t2, o2, i2⟩
theorem law_errorPosition (hn : 200 ≤ n) (h : cInv m W) (hM : mInv m W) (hB : wB W k) : Sgo (jL_law_99998_2715 E n self i5 m D w) self i5 w k := by
  obtain ⟨he, he1, he2⟩ := h.2.2.2.2.2.2.1
  unfold jL_law_99998_2715 fL_errorPosition_0_127 fX8_errorPosition
  rw [he]
  by_cases e : wE W = -1
  · rw [if_pos (show z (wE W) = z (-1) by rw [e])]
    refine law_caseQ (c := 1) (t := z 0) (t' := z 0) (fm := fX9_errorPosition) (W' := W) (l_helpQ (W' := W) (ex := 3) ⟨m, rfl, cOut_rf, h⟩ hM (fun m2 _ => rfl)) (fun m1 h1 => ?_) (fun h => absurd h (by decide)) (wB_up hB (by omega)) (by omega)
    obtain ⟨m2, e2, t2, o2, i2⟩ := mQ_thr (c := 1) h1
    unfold fX9_errorPosition jX9_errorPosition_13
    rw [if_pos (show m1.1 113 11 < z 0 by rw [h1.2.2.2.2.2.1]; exact zlt (by omega)), e2, obind]
    dsimp only
    rw [if_neg z10]
    exact ⟨m2, rfl, t2, o2, i2⟩
  · rw [if_neg (zne (by omega))]
    refine law_caseQ (c := 0) (t := z (wE W)) (t' := z (wE W)) (fm := fX9_errorPosition) (W' := W) (l_helpQ (W' := W) (ex := 3) ⟨m, rfl, cOut_rf, h⟩ hM (fun m2 h => absurd rfl h)) (fun m1 h1 => ?_) (fun _ => rfl) (wB_up hB (by omega)) (by omega)
    obtain ⟨m2, e2, t2, o2, i2⟩ := mQ_fin 1 h1
    unfold fX9_errorPosition jX9_errorPosition_13
    rw [if_neg (show ¬ m1.1 113 11 < z 0 by rw [h1.2.2.2.2.2.1]; exact zge (by omega)), e2, obind]
    dsimp only
    rw [if_pos rfl, i2.2.2.2.2.2.1]
    exact ⟨m2, rfl, t2, o2, i2⟩
theorem law_failedCommand (hn : 200 ≤ n) (h : cInv m W) (hM : mInv m W) (hB : wB W k) : Sgo (jL_law_99998_2759 E n self i5 m D w) self i5 w k := by
  obtain ⟨he, he1, he2⟩ := h.2.2.2.2.2.2.2
  unfold jL_law_99998_2759 fL_failedCommand_0_127 fX8_failedCommand
  rw [he]
  by_cases e : wF W = -1
  · rw [if_pos (show z (wF W) = z (-1) by rw [e])]
    refine law_caseQ (c := 1) (t := z 0) (t' := z 0) (fm := fX9_failedCommand) (W' := W) (l_helpQ (W' := W) (ex := 3) ⟨m, rfl, cOut_rf, h⟩ hM (fun m2 _ => rfl)) (fun m1 h1 => ?_) (fun h => absurd h (by decide)) (wB_up hB (by omega)) (by omega)
    obtain ⟨m2, e2, t2, o2, i2⟩ := mQ_thr (c := 1) h1
    unfold fX9_failedCommand jX9_failedCommand_13
    rw [if_pos (show m1.1 113 12 < z 0 by rw [h1.2.2.2.2.2.2]; exact zlt (by omega)), e2, obind]
    dsimp only
    rw [if_neg z10]
    exact ⟨m2, rfl, t2, o2, i2⟩
  · rw [if_neg (zne (by omega))]
    refine law_caseQ (c := 0) (t := z (wF W)) (t' := z (wF W)) (fm := fX9_failedCommand) (W' := W) (l_helpQ (W' := W) (ex := 3) ⟨m, rfl, cOut_rf, h⟩ hM (fun m2 h => absurd rfl h)) (fun m1 h1 => ?_) (fun _ => rfl) (wB_up hB (by omega)) (by omega)
    obtain ⟨m2, e2, t2, o2, i2⟩ := mQ_fin 1 h1
    unfold fX9_failedCommand jX9_failedCommand_13
    rw [if_neg (show ¬ m1.1 113 12 < z 0 by rw [h1.2.2.2.2.2.2]; exact zge (by omega)), e2, obind]
    dsimp only
    rw [if_pos rfl, i2.2.2.2.2.2.2]
    exact ⟨m2, rfl, t2, o2, i2⟩
/-- the class's side with its states anew -/
theorem cInv_mk {m m' : pmI} {W : Wd} {A : Ab} {hs : List Ab} {sv : Option Ab} (h : cInv m W) (e : ∀ i, i = 107 ∨ i = 108 ∨ i = 111 ∨ i = 112 → m'.1 i = m.1 i) (e1 : m'.1 0 11 = m.1 0 11) (e2 : m'.1 0 12 = m.1 0 12) (hA : repC 1 m' A) (hw : wfA A) (hh : cHist m' hs) (hv : cSv m' sv) : cInv m' (A, hs, sv, W.2.2.2) := by
  obtain ⟨h1, h2, h3, h4, h5, h6, h7, h8⟩ := h
  refine ⟨hA, hw, hh, hv, ?_, ?_, ?_, ?_⟩
  · rw [e 107 (by omega), e 108 (by omega)]; exact h5
  · rw [e 111 (by omega), e 112 (by omega)]; exact h6
  · rw [e1]; exact h7
  · rw [e2]; exact h8
theorem mInv_mk {m m' : pmI} {W : Wd} {A : Ab} {hs : List Ab} {sv : Option Ab} (h : mInv m W) (e4 : m'.1 124 = m.1 124) (e5 : m'.1 125 = m.1 125) (e : ∀ k, k = 11 ∨ k = 12 ∨ k = 18 ∨ k = 21 → m'.1 113 k = m.1 113 k) (hA : repR (m'.1 114) A) (hh : mHist m' hs) (hv : mSv m' sv) : mInv m' (A, hs, sv, W.2.2.2) := by
  obtain ⟨h1, h2, h3, h4, h5, h6, h7⟩ := h
  refine ⟨hA, hh, hv, ?_, ?_, ?_, ?_⟩
  · rw [e 21 (by omega), e5]; exact h4
  · rw [e 18 (by omega), e4]; exact h5
  · rw [e 11 (by omega)]; exact h6
  · rw [e 12 (by omega)]; exact h7
theorem law_save (hn : 200 ≤ n) (h : cInv m W) (hM : mInv m W) (hB : wB W k) : Sgo (jL_law_99998_2847 E n self i5 m D w) self i5 w k := by
  unfold jL_law_99998_2847 fX8_save
  obtain ⟨m1, e1, r1, o1⟩ := c_copy (q := 9) (o := 1) (by omega) h.1 h.2.1
  rw [cp_9_1, e1, obind, pmLet_eq]
  obtain ⟨m2, e2, j2, o2, r2⟩ := w_1 m1 0 10 (z 1)
  rw [e2, obind]
  have hC : cInv m2 (wA W, wH W, some (wA W), W.2.2.2) := cInv_mk h (fun i hi => by rw [o2 i (by omega), (o1 i (by omega)).1]) (by rw [r2, if_neg (by decide), (o1 0 (by omega)).1]) (by rw [r2, if_neg (by decide), (o1 0 (by omega)).1])
    (repC_fr h.1 (fun i _ _ => ⟨by rw [o2 i (by omega), (o1 i (by omega)).1], by rw [j2, (o1 i (by omega)).2]⟩)) h.2.1 (cHist_fr h.2.2.1 (fun i _ _ => ⟨by rw [o2 i (by omega), (o1 i (by omega)).1], by rw [j2, (o1 i (by omega)).2]⟩))
    ⟨by rw [r2, if_pos rfl], h.2.1, repC_fr r1 (fun i _ _ => ⟨o2 i (by omega), by rw [j2]⟩)⟩
  have hO : cOut m m2 := fun i hi => ⟨by rw [o2 i (by omega), (o1 i (by omega)).1], by rw [j2, (o1 i (by omega)).2]⟩
  dsimp only
  rw [hC.1.2.1]
  refine law_caseD (m := m) (m1 := m2) (fm := fX9_save n) hC (mInv_c hM hO) (fun m3 h3 => ?_) ⟨Nat.le_trans hB.1 (by omega), fun B hb => Nat.le_trans (hB.2.1 B hb) (by omega), fun B hb => ?_⟩
  · obtain ⟨m4, e4, t4, o4, i4, r4⟩ := mQ_set h3 0
    obtain ⟨m5, e5, j5, o5, r5⟩ := m_cp_114_117 (n := n) (m := m4) hn (u := 0) (v := 0) (by omega) (by omega)
    obtain ⟨m6, e6, j6, o6, r6⟩ := w_1 m5 113 15 (z 1)
    unfold fX9_save
    rw [pmLet_eq, e4, show z 0 = z ((0 : Nat) : Int) from rfl, e5, obind, pmLet_eq, e6, show m6.1 114 1 = z (aC (wA W)) by rw [o6 114 (by decide), o5 114 (by decide)]; exact i4.1.2.1.1]
    refine ⟨m6, rfl, by rw [r6, if_neg (by decide), o5 113 (by decide)]; exact t4, ⟨fun i hi => by rw [o6 i (by omega), o5 i (by omega), o4.1 i hi], by rw [j6, j5, o4.2]⟩, ?_⟩
    refine mInv_mk i4 (by rw [o6 124 (by decide), o5 124 (by decide)]) (by rw [o6 125 (by decide), o5 125 (by decide)]) (fun q hq => by rw [r6, if_neg (by omega), o5 113 (by decide)]) (by rw [o6 114 (by decide), o5 114 (by decide)]; exact i4.1) (mHist_fr i4.2.1 (by rw [o6 118 (by decide), o5 118 (by decide)]) (by rw [r6, if_neg (by decide), o5 113 (by decide)])) ⟨by rw [r6, if_pos rfl], ?_⟩
    rw [o6 117 (by decide)]
    exact repR_fr i4.1 h.2.1 (fun b hb => by rw [r5, if_pos (by omega), show 0 + (b - 0) = b by omega])
  · have hb' : some (wA W) = some B := hb
    cases hb'
    exact Nat.le_trans hB.1 (by omega)
theorem law_restore (hn : 200 ≤ n) (h : cInv m W) (hM : mInv m W) (hB : wB W k) : Sgo (jL_law_99998_2860 E n self i5 m D w) self i5 w k := by
  unfold jL_law_99998_2860 fL_restore_0_127 fX8_restore
  cases hs : wS W with
  | none =>
    have h4 := h.2.2.2.1
    rw [hs] at h4
    rw [if_pos (show m.1 0 10 = z 0 from h4)]
    refine law_caseQ (c := 1) (t := z 0) (t' := z 0) (fm := fX9_restore n) (W' := W) (l_helpQ (W' := W) (ex := 2) ⟨m, rfl, cOut_rf, h⟩ hM (fun m2 _ => rfl)) (fun m1 h1 => ?_) (fun h => absurd h (by decide)) (wB_up hB (by omega)) (by omega)
    obtain ⟨m2, e2, t2, o2, i2⟩ := mQ_thr (c := 1) h1
    have g4 := h1.2.2.1
    rw [hs] at g4
    unfold fX9_restore jX9_restore_13
    rw [if_pos (show m1.1 113 15 = z 0 from g4), e2, obind]
    dsimp only
    rw [if_neg z10]
    exact ⟨m2, rfl, t2, o2, i2⟩
  | some B =>
    have h4 := h.2.2.2.1
    rw [hs] at h4
    rw [if_neg (show ¬ m.1 0 10 = z 0 by rw [h4.1]; decide)]
    obtain ⟨m1, e1, r1, o1⟩ := c_copy (q := 1) (o := 9) (by omega) h4.2.2 h4.2.1
    rw [cp_1_9, e1, obind, pmLet_eq]
    obtain ⟨m2, e2, j2, o2, r2⟩ := w_1 m1 25 2 (z 0)
    rw [e2]
    have hA : repC 1 m2 B := repC_fr r1 (fun i _ _ => ⟨o2 i (by omega), by rw [j2]⟩)
    obtain ⟨nx, n1, n2, n3, n4, n5⟩ := h.2.2.1
    have hC : cInv m2 (B, [], some B, W.2.2.2) := cInv_mk h (fun i hi => by rw [o2 i (by omega), (o1 i (by omega)).1]) (by rw [o2 0 (by decide), (o1 0 (by omega)).1]) (by rw [o2 0 (by decide), (o1 0 (by omega)).1]) hA h4.2.1
      ⟨nx, n1, by rw [r2, if_neg (by decide), (o1 25 (by omega)).1]; exact n2, by rw [r2, if_pos rfl]; rfl, Nat.zero_le _, fun j B hj => by cases hj⟩
      ⟨by rw [o2 0 (by decide), (o1 0 (by omega)).1]; exact h4.1, h4.2.1, repC_fr h4.2.2 (fun i _ _ => ⟨by rw [o2 i (by omega), (o1 i (by omega)).1], by rw [j2, (o1 i (by omega)).2]⟩)⟩
    have hO : cOut m m2 := fun i hi => ⟨by rw [o2 i (by omega), (o1 i (by omega)).1], by rw [j2, (o1 i (by omega)).2]⟩
    rw [show m2.1 1 1 = z (aC B) from hA.2.1]
    refine law_caseQ (c := 0) (t := z (aC B)) (t' := z (aC B)) (fm := fX9_restore n) (W' := (B, [], some B, W.2.2.2)) (l_helpQ (ex := 2) ⟨m2, rfl, hO, hC⟩ hM (fun m2 h => absurd rfl h)) (fun m3 h3 => ?_) (fun _ => rfl) ⟨Nat.le_trans (hB.2.2 B hs) (by omega), fun B' hb => absurd hb List.not_mem_nil, fun B' hb => ?_⟩ (by omega)
    · obtain ⟨m4, e4, t4, o4, i4⟩ := mQ_fin 1 h3
      have g4 := i4.2.2.1
      rw [hs] at g4
      have g5 := h3.2.2.1
      rw [hs] at g5
      obtain ⟨m5, e5, j5, o5, r5⟩ := m_cp_117_114 (n := n) (m := m4) hn (u := 0) (v := 0) (by omega) (by omega)
      obtain ⟨m6, e6, j6, o6, r6⟩ := w_1 m5 113 9 (z ((0 : Nat) : Int))
      unfold fX9_restore jX9_restore_13
      rw [if_neg (show ¬ m3.1 113 15 = z 0 by rw [g5.1]; decide), e4, obind]
      dsimp only
      rw [if_pos rfl, show z 0 = z ((0 : Nat) : Int) from rfl, e5, obind, pmLet_eq, e6]
      have hR : repR (m6.1 114) B := by
        rw [o6 114 (by decide)]
        exact repR_fr g4.2 h4.2.1 (fun b hb => by rw [r5, if_pos (by omega), show 0 + (b - 0) = b by omega])
      rw [hR.2.1.1]
      refine ⟨m6, rfl, by rw [r6, if_neg (by decide), o5 113 (by decide)]; exact t4, ⟨fun i hi => by rw [o6 i (by omega), o5 i (by omega), o4.1 i hi], by rw [j6, j5, o4.2]⟩, ?_⟩
      refine mInv_mk i4 (by rw [o6 124 (by decide), o5 124 (by decide)]) (by rw [o6 125 (by decide), o5 125 (by decide)]) (fun q hq => by rw [r6, if_neg (by omega), o5 113 (by decide)]) hR ⟨by rw [r6, if_pos rfl]; rfl, Nat.zero_le _, fun j B hj => by cases hj⟩ ⟨by rw [r6, if_neg (by decide), o5 113 (by decide)]; exact g4.1, ?_⟩
      rw [o6 117 (by decide), o5 117 (by decide)]
      exact g4.2
    · have hb' : some B = some B' := hb
      cases hb'
      exact Nat.le_trans (hB.2.2 B hs) (by omega)
theorem law_undo (hn : 200 ≤ n) (h : cInv m W) (hM : mInv m W) (hB : wB W k) : Sgo (jL_law_99998_2803 E n self i5 m D w) self i5 w k := by
  unfold jL_law_99998_2803 fL_undo_0_127 fX8_undo
  have hcnt : m.1 25 2 = z ((wH W).length : Int) := by
    obtain ⟨nx, n1, n2, n3, n4, n5⟩ := h.2.2.1
    exact n3
  cases hs : wH W with
  | nil =>
    rw [hs] at hcnt
    rw [if_pos (show m.1 25 2 = z 0 by rw [hcnt]; rfl)]
    refine law_caseQ (c := 1) (t := z 0) (t' := z 0) (fm := fX9_undo n) (W' := W) (l_helpQ (W' := W) (ex := 2) ⟨m, rfl, cOut_rf, h⟩ hM (fun m2 _ => rfl)) (fun m1 h1 => ?_) (fun h => absurd h (by decide)) (wB_up hB (by omega)) (by omega)
    obtain ⟨m2, e2, t2, o2, i2⟩ := mQ_thr (c := 1) h1
    have g := h1.2.1.1
    rw [hs] at g
    unfold fX9_undo jX9_undo_13
    rw [if_pos (show m1.1 113 9 = z 0 by rw [g]; rfl), e2, obind]
    dsimp only
    rw [if_neg z10]
    exact ⟨m2, rfl, t2, o2, i2⟩
  | cons A hs' =>
    rw [hs, List.length_cons] at hcnt
    have hH := h.2.2.1
    rw [hs] at hH
    have l8 : hs'.length + 1 ≤ 8 := by
      obtain ⟨nx, n1, n2, n3, n4, n5⟩ := hH
      exact n4
    have wA' : wfA A := by
      obtain ⟨nx, n1, n2, n3, n4, n5⟩ := hH
      exact (n5 0 A rfl).1
    rw [if_neg (show ¬ m.1 25 2 = z 0 by rw [hcnt]; exact zne (by omega))]
    obtain ⟨m1, e1, o1, h1, r1, c1⟩ := c_pop hH
    rw [e1, obind, c1]
    have hC : cInv m1 (A, hs', wS W, W.2.2.2) := cInv_mk h (fun i hi => (o1 i (by omega) (by omega)).1) (by rw [(o1 0 (by omega) (by omega)).1]) (by rw [(o1 0 (by omega) (by omega)).1]) r1 wA' h1 (cSv_fr h.2.2.2.1 (fun i hi => o1 i (by omega) (by omega)))
    have hO : cOut m m1 := fun i hi => o1 i (by omega) (by omega)
    refine law_caseQ (c := 0) (t := z (hs'.length : Int)) (t' := z (hs'.length : Int)) (fm := fX9_undo n) (W' := (A, hs', wS W, W.2.2.2)) (l_helpQ (ex := 2) ⟨m1, rfl, hO, hC⟩ hM (fun m2 h => absurd rfl h)) (fun m3 h3 => ?_) (fun _ => rfl) ⟨Nat.le_trans (hB.2.1 A (by rw [hs]; exact List.mem_cons_self)) (by omega), fun B hb => Nat.le_trans (hB.2.1 B (by rw [hs]; exact List.mem_cons_of_mem _ hb)) (by omega), fun B hb => Nat.le_trans (hB.2.2 B hb) (by omega)⟩ (by omega)
    obtain ⟨m4, e4, t4, o4, i4⟩ := mQ_fin 1 h3
    have g9 := h3.2.1.1
    obtain ⟨y1, y2, y3⟩ := i4.2.1
    rw [hs, List.length_cons] at g9 y1 y2
    rw [hs] at y3
    obtain ⟨m5, e5, j5, o5, r5⟩ := w_1 m4 113 9 (m4.1 113 9 - z 1)
    have c5 : m5.1 113 9 = z (hs'.length : Int) := by
      rw [r5, if_pos rfl, y1, z_sub]
      congr 1
      omega
    obtain ⟨m6, e6, j6, o6, r6⟩ := m_cp_118_114 (n := n) (m := m5) hn (u := 188 * hs'.length) (v := 0) (by omega) (by omega)
    unfold fX9_undo jX9_undo_13
    rw [if_neg (show ¬ m3.1 113 9 = z 0 by rw [g9]; exact zne (by omega)), e4, obind]
    dsimp only
    rw [if_pos rfl, pmLet_eq, e5, c5, z_mul, show (188 : Int) * (hs'.length : Int) = ((188 * hs'.length : Nat) : Int) by omega, show z 0 = z ((0 : Nat) : Int) from rfl, e6, obind, o6 113 (by decide), c5]
    refine ⟨m6, rfl, by rw [o6 113 (by decide), r5, if_neg (by decide)]; exact t4, ⟨fun i hi => by rw [o6 i (by omega), o5 i (by omega), o4.1 i hi], by rw [j6, j5, o4.2]⟩, ?_⟩
    refine mInv_mk i4 (by rw [o6 124 (by decide), o5 124 (by decide)]) (by rw [o6 125 (by decide), o5 125 (by decide)]) (fun q hq => by rw [o6 113 (by decide), r5, if_neg (by omega)]) ?_ ⟨by rw [o6 113 (by decide)]; exact c5, by omega, fun j B hj => ?_⟩ (mSv_fr i4.2.2.1 (by rw [o6 113 (by decide), r5, if_neg (by decide)]) (by rw [o6 117 (by decide), o5 117 (by decide)]))
    · have q0 := y3 0 A rfl
      rw [List.length_cons, show hs'.length + 1 - 1 - 0 = hs'.length by omega] at q0
      exact repR_fr q0.2 q0.1 (fun b hb => by rw [r6, if_pos (by omega), o5 118 (by decide), show b - 0 = b by omega])
    · have q0 := y3 (j + 1) B hj
      rw [List.length_cons, show hs'.length + 1 - 1 - (j + 1) = hs'.length - 1 - j by omega] at q0
      refine ⟨q0.1, ?_⟩
      rw [o6 118 (by decide), o5 118 (by decide)]
      exact q0.2
end LAW3
