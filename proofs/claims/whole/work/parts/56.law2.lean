/-! the law, call by call: calls that only answer -/
def lOkQ (m : pmI) (D : Nat → Nat → UInt64) (W W' : Wd) (c : Int) (t : Int32) (o : Option lR) : Prop := ∃ m1 e, o = some (z c, m1, D, e) ∧ e ≤ 1 ∧ cInv m1 W' ∧ mInv m1 W ∧ (c = 0 → m1.2 127 0 = Int32.toInt64 t)
/-- an answer, or an exception -/
def cQ (m : pmI) (W' : Wd) (r : Option ((Int32 ⊕ Nat) × pmI)) (c : Int) (t : Int32) (ex : Nat) : Prop := ∃ m', r = some ((if c = 0 then .inl t else .inr ex), m') ∧ cOut m m' ∧ cInv m' W'
theorem l_helpQ {m : pmI} {D : Nat → Nat → UInt64} {W W' : Wd} {r : Option ((Int32 ⊕ Nat) × pmI)} {c : Int} {t : Int32} {ex : Nat} {kr : Nat → pmI → Option lR} (hc : cQ m W' r c t ex) (hM : mInv m W) (hkr : ∀ m2, ¬ c = 0 → kr ex m2 = some (z c, m2, D, 1)) :
    lOkQ m D W W' c t (r.bind (oT (fun v1 m2 => pmLet (m2.1, (pmU m2.2 127 0 (Int32.toInt64 v1))) fun m3 => some ((z 0), m3, D, 0)) kr)) := by
  obtain ⟨m1, e1, c1, i1⟩ := hc
  by_cases e : c = 0
  · rw [if_pos e] at e1
    rw [e1, obind, oT_l, pmLet_eq]
    refine ⟨(m1.1, pmU m1.2 127 0 (Int32.toInt64 t)), 0, ?_, by omega, cInv_J i1 _, mInv_J (mInv_c hM c1) _, fun _ => pU_same m1.2 127 0 _⟩
    rw [e]
  · rw [if_neg e] at e1
    rw [e1, obind, oT_r, hkr m1 e]
    exact ⟨m1, 1, rfl, by omega, i1, mInv_c hM c1, fun h => absurd h e⟩
def mQ (W W' : Wd) (fm : pmI → Option (Int32 × pmI)) (c : Int) (t : Int32) : Prop := ∀ m1, mInv m1 W → ∃ m2, fm m1 = some (t, m2) ∧ m2.1 113 10 = z c ∧ mOut m1 m2 ∧ mInv m2 W'
theorem law_caseQ {self : lSelf} {i5 : Int32} {w k : Nat} {m : pmI} {D : Nat → Nat → UInt64} {W W' : Wd} {c : Int} {t t' : Int32} {fl : Option lR} {fm : pmI → Option (Int32 × pmI)} (hl : lOkQ m D W W' c t fl) (hm : mQ W W' fm c t') (ht : c = 0 → t = t') (hB : wB W' (k + 10)) (hs : 0 ≤ c ∧ c < 100) :
    Sgo (fl.bind fun v => (fm v.2.1).bind fun b => (fX9_thrown b.2).bind fun t => if t = v.1 then if v.1 = (z 0) then if (lg_cmp (b.2.2 127 0) (Int32.toInt64 b.1)) = (z 0) then self (i5 + (z 4)) b.2 v.2.2.1 (w + v.2.2.2) else some ((z 0), b.2, v.2.2.1, (w + v.2.2.2)) else self (i5 + (z 4)) b.2 v.2.2.1 (w + v.2.2.2) else some ((z 0), b.2, v.2.2.1, (w + v.2.2.2))) self i5 w k := by
  obtain ⟨m1, e, e1, he, c1, i1, h0⟩ := hl
  obtain ⟨m2, e2, t2, o2, i2⟩ := hm m1 i1
  rw [e1, obind]
  dsimp only
  rw [e2, obind]
  unfold fX9_thrown
  rw [obind]
  dsimp only
  rw [if_pos t2]
  by_cases hz : c = 0
  · rw [if_pos (by rw [hz]), if_pos (by rw [o2.2, h0 hz, ht hz]; exact lg_eq _)]
    exact ⟨m2, D, e, W', rfl, he, cInv_m c1 o2, i2, hB⟩
  · rw [if_neg (zne (by omega))]
    exact ⟨m2, D, e, W', rfl, he, cInv_m c1 o2, i2, hB⟩
theorem law_caseD {self : lSelf} {i5 : Int32} {w k : Nat} {m m1 : pmI} {D : Nat → Nat → UInt64} {W W' : Wd} {t : Int32} {fm : pmI → Option (Int32 × pmI)} (c1 : cInv m1 W') (i1 : mInv m1 W) (hm : mQ W W' fm 0 t) (hB : wB W' (k + 10)) :
    Sgo ((fm m1).bind fun b => if t = b.1 then self (i5 + (z 4)) b.2 D w else some ((z 0), b.2, D, w)) self i5 w k := by
  obtain ⟨m2, e2, t2, o2, i2⟩ := hm m1 i1
  rw [e2, obind]
  dsimp only
  rw [if_pos rfl]
  exact ⟨m2, D, 0, W', rfl, by omega, cInv_m c1 o2, i2, hB⟩
theorem mOut_mfr {m m1 : pmI} (f : mfr m m1) : mOut m m1 := ⟨fun i hi => f.1 i (by omega), f.2.1⟩
theorem mInv_mfr {m m1 : pmI} {W : Wd} (h : mInv m W) (f : mfr m m1) (r : m1.1 114 = m.1 114) : mInv m1 W := mInv_fr h (fun i h1 h2 h3 => by
    by_cases e : i = 114
    · rw [e]; exact r
    · exact f.1 i (by omega)) (fun k hk => f.2.2 k hk)
/-- the model throws, and that is all -/
theorem mQ_thr {W : Wd} {m1 : pmI} {c : Int} (h : mInv m1 W) : ∃ m2, fX9_isThrown (z 1) (z c) m1 = some (z 1, m2) ∧ m2.1 113 10 = z c ∧ mOut m1 m2 ∧ mInv m2 W := by
  obtain ⟨m2, e2, t2, f2, r2⟩ := m_t1 (m := m1) (z c)
  exact ⟨m2, e2, t2, mOut_mfr f2, mInv_mfr h f2 r2⟩
theorem mQ_fin {W : Wd} {m1 : pmI} (c : Int) (h : mInv m1 W) : ∃ m2, fX9_isThrown (z 0) (z c) m1 = some (z 0, m2) ∧ m2.1 113 10 = z 0 ∧ mOut m1 m2 ∧ mInv m2 W := by
  obtain ⟨m2, e2, t2, f2, r2⟩ := m_t0 (m := m1) (z c)
  exact ⟨m2, e2, t2, mOut_mfr f2, mInv_mfr h f2 r2⟩
theorem mQ_set {W : Wd} {m1 : pmI} (h : mInv m1 W) (x : Int) : ∃ m2, (pmU m1.1 113 10 (z x), m1.2) = m2 ∧ m2.1 113 10 = z x ∧ mOut m1 m2 ∧ mInv m2 W ∧ m2.1 114 = m1.1 114 := by
  have f : mfr m1 (pmU m1.1 113 10 (z x), m1.2) := mfr_113 (Or.inl rfl)
  have r : (pmU m1.1 113 10 (z x)) 114 = m1.1 114 := rowne (by decide)
  exact ⟨_, rfl, pU_same m1.1 113 10 (z x), mOut_mfr f, mInv_mfr h f r, r⟩
theorem z_and7 : ∀ k : Nat, k < 64 → z (k : Int) &&& z 7 = z ((k % 8 : Nat) : Int) := by decide +kernel
theorem z_div8 : ∀ k : Nat, k < 64 → z (k : Int) / z 8 = z ((k / 8 : Nat) : Int) := by decide +kernel
theorem z_mod8 : ∀ k : Nat, k < 64 → z (k : Int) - z (k : Int) / z 8 * z 8 = z ((k % 8 : Nat) : Int) := by decide +kernel
section LAW2
variable {E : pmEv0} {n : Nat} {self : lSelf} {i5 : Int32} {m : pmI} {D : Nat → Nat → UInt64} {w k : Nat} {W : Wd}
theorem law_dancers (hn : 200 ≤ n) (h : cInv m W) (hM : mInv m W) (hB : wB W k) : Sgo (jL_law_99998_893 E n self i5 m D w) self i5 w k := by
  unfold jL_law_99998_893 fX8_dancers
  rw [h.1.2.1, obind]
  refine law_caseD (m := m) (fm := fX9_dancers) h hM (fun m1 h1 => ?_) (wB_up hB (by omega))
  obtain ⟨m2, e2, t2, o2, i2, r2⟩ := mQ_set h1 0
  unfold fX9_dancers
  rw [pmLet_eq, e2, r2, h1.1.2.1.1]
  exact ⟨m2, rfl, t2, o2, i2⟩
theorem law_exits (hn : 200 ≤ n) (h : cInv m W) (hM : mInv m W) (hB : wB W k) : Sgo (jL_law_99998_1893 E n self i5 m D w) self i5 w k := by
  unfold jL_law_99998_1893 fX8_exits
  rw [h.1.2.2.2.2.2.1, obind]
  refine law_caseD (m := m) (fm := fX9_exits) h hM (fun m1 h1 => ?_) (wB_up hB (by omega))
  obtain ⟨m2, e2, t2, o2, i2, r2⟩ := mQ_set h1 0
  unfold fX9_exits
  rw [pmLet_eq, e2, r2, h1.1.2.2.2.1.1]
  exact ⟨m2, rfl, t2, o2, i2⟩
theorem law_lostNails (hn : 200 ≤ n) (h : cInv m W) (hM : mInv m W) (hB : wB W k) : Sgo (jL_law_99998_2188 E n self i5 m D w) self i5 w k := by
  unfold jL_law_99998_2188 fX8_lostNails
  rw [h.1.2.2.2.2.2.2.2.1, obind]
  refine law_caseD (m := m) (fm := fX9_lostNails) h hM (fun m1 h1 => ?_) (wB_up hB (by omega))
  obtain ⟨m2, e2, t2, o2, i2, r2⟩ := mQ_set h1 0
  unfold fX9_lostNails
  rw [pmLet_eq, e2, r2, h1.1.2.2.2.2.1]
  exact ⟨m2, rfl, t2, o2, i2⟩
theorem law_isPresent (hn : 200 ≤ n) (h : cInv m W) (hM : mInv m W) (hB : wB W k) (q1 : okI (i5 + (z 1)) E.1 = true) : Sgo (jL_law_99998_906 E n self i5 m D w) self i5 w k := by
  have w1 := h.2.1.1
  unfold jL_law_99998_906
  obtain ⟨x, hx, ex⟩ := z_of (E.2.1 (Int32.toNatClampNeg (i5 + (z 1))))
  simp only [q1, if_true, ex]
  unfold fX8_isPresent
  rw [c_slotOf (n := n) h.1 h.2.1 (by omega) hx, obind]
  have key : mQ W W (fX9_isPresent n (z x)) 0 (if slot (wA W) x = none then z 0 else z 1) := fun m1 h1 => by
    obtain ⟨m2, e2, t2, o2, i2, r2⟩ := mQ_set h1 0
    unfold fX9_isPresent
    rw [pmLet_eq, e2, m_at (n := n) i2.1 h.2.1 (by omega) hx, obind]
    cases hs : slot (wA W) x with
    | none =>
      rw [oz_n, if_pos (zlt (by omega)), if_pos rfl]
      exact ⟨m2, rfl, t2, o2, i2⟩
    | some j =>
      have hj := (slot_lt hs).1
      rw [oz_s, if_neg (zge (by omega)), if_neg (Option.some_ne_none j)]
      exact ⟨m2, rfl, t2, o2, i2⟩
  cases hs : slot (wA W) x with
  | none =>
    rw [hs, if_pos rfl] at key
    rw [oz_n, if_pos rfl, obind]
    exact law_caseD (m := m) h hM key (wB_up hB (by omega))
  | some j =>
    have hj := (slot_lt hs).1
    rw [hs, if_neg (Option.some_ne_none j)] at key
    rw [oz_s, if_neg (zne (by omega)), obind]
    exact law_caseD (m := m) h hM key (wB_up hB (by omega))
theorem law_column (hn : 200 ≤ n) (h : cInv m W) (hM : mInv m W) (hB : wB W k) (q1 : okI (i5 + (z 1)) E.1 = true) : Sgo (jL_law_99998_931 E n self i5 m D w) self i5 w k := by
  have w1 := h.2.1.1
  unfold jL_law_99998_931
  obtain ⟨x, hx, ex⟩ := z_of (E.2.1 (Int32.toNatClampNeg (i5 + (z 1))))
  simp only [q1, if_true, ex]
  unfold fL_column_0_127 fX8_column
  rw [c_presence (n := n) h.1 h.2.1 (by omega) hx, obind]
  cases hs : slot (wA W) x with
  | none =>
    rw [if_pos rfl, tf4, obind, oT_r]
    refine law_caseQ (c := 1) (t := z 0) (t' := z 0) (fm := fX9_column n (z x)) (W' := W) (l_helpQ (W' := W) (ex := 3) ⟨m, rfl, cOut_rf, h⟩ hM (fun m2 _ => rfl)) (fun m1 h1 => ?_) (fun h => absurd h (by decide)) (wB_up hB (by omega)) (by omega)
    obtain ⟨m2, e2, t2, o2, i2⟩ := mQ_thr (c := 1) h1
    unfold fX9_column jX9_column_14
    rw [m_at (n := n) h1.1 h.2.1 (by omega) hx, obind, hs, oz_n, if_pos (zlt (by omega)), e2, obind]
    dsimp only
    rw [if_neg z10]
    exact ⟨m2, rfl, t2, o2, i2⟩
  | some j =>
    have hj := (slot_lt hs).1
    rw [if_neg (Option.some_ne_none j), tf0, obind, oT_l, c_slotOf (n := n) h.1 h.2.1 (by omega) hx, obind, hs, oz_s, a_3 (by omega), obind, (h.1.2.2.2.1 j hj).2.1]
    unfold fX8_columnOf
    rw [obind, z_and7 _ (h.2.1.2.2.1 j hj).2.1]
    refine law_caseQ (c := 0) (t := z ((aCe (wA W) j % 8 : Nat) : Int)) (t' := z ((aCe (wA W) j % 8 : Nat) : Int)) (fm := fX9_column n (z x)) (W' := W) (l_helpQ (W' := W) (ex := 3) ⟨m, rfl, cOut_rf, h⟩ hM (fun m2 h => absurd rfl h)) (fun m1 h1 => ?_) (fun _ => rfl) (wB_up hB (by omega)) (by omega)
    obtain ⟨m2, e2, t2, o2, i2⟩ := mQ_fin 1 h1
    unfold fX9_column jX9_column_14
    rw [m_at (n := n) h1.1 h.2.1 (by omega) hx, obind, hs, oz_s, if_neg (zge (by omega)), e2, obind]
    dsimp only
    rw [if_pos rfl, m_at (n := n) i2.1 h.2.1 (by omega) hx, obind, hs, oz_s, show z 1 = z ((1 : Nat) : Int) from rfl, mr_of i2.1 hj w1 (by decide), obind, (i2.1.2.1.2.2 j hj).2.1]
    rw [z_mod8 _ (h.2.1.2.2.1 j hj).2.1]
    exact ⟨m2, rfl, t2, o2, i2⟩
theorem law_row (hn : 200 ≤ n) (h : cInv m W) (hM : mInv m W) (hB : wB W k) (q1 : okI (i5 + (z 1)) E.1 = true) : Sgo (jL_law_99998_987 E n self i5 m D w) self i5 w k := by
  have w1 := h.2.1.1
  unfold jL_law_99998_987
  obtain ⟨x, hx, ex⟩ := z_of (E.2.1 (Int32.toNatClampNeg (i5 + (z 1))))
  simp only [q1, if_true, ex]
  unfold fL_row_0_127 fX8_row
  rw [c_presence (n := n) h.1 h.2.1 (by omega) hx, obind]
  cases hs : slot (wA W) x with
  | none =>
    rw [if_pos rfl, tf4, obind, oT_r]
    refine law_caseQ (c := 1) (t := z 0) (t' := z 0) (fm := fX9_row n (z x)) (W' := W) (l_helpQ (W' := W) (ex := 3) ⟨m, rfl, cOut_rf, h⟩ hM (fun m2 _ => rfl)) (fun m1 h1 => ?_) (fun h => absurd h (by decide)) (wB_up hB (by omega)) (by omega)
    obtain ⟨m2, e2, t2, o2, i2⟩ := mQ_thr (c := 1) h1
    unfold fX9_row jX9_row_14
    rw [m_at (n := n) h1.1 h.2.1 (by omega) hx, obind, hs, oz_n, if_pos (zlt (by omega)), e2, obind]
    dsimp only
    rw [if_neg z10]
    exact ⟨m2, rfl, t2, o2, i2⟩
  | some j =>
    have hj := (slot_lt hs).1
    rw [if_neg (Option.some_ne_none j), tf0, obind, oT_l, c_slotOf (n := n) h.1 h.2.1 (by omega) hx, obind, hs, oz_s, a_3 (by omega), obind, (h.1.2.2.2.1 j hj).2.1]
    unfold fX8_rowOf
    rw [obind, z_div8 _ (h.2.1.2.2.1 j hj).2.1]
    refine law_caseQ (c := 0) (t := z ((aCe (wA W) j / 8 : Nat) : Int)) (t' := z ((aCe (wA W) j / 8 : Nat) : Int)) (fm := fX9_row n (z x)) (W' := W) (l_helpQ (W' := W) (ex := 3) ⟨m, rfl, cOut_rf, h⟩ hM (fun m2 h => absurd rfl h)) (fun m1 h1 => ?_) (fun _ => rfl) (wB_up hB (by omega)) (by omega)
    obtain ⟨m2, e2, t2, o2, i2⟩ := mQ_fin 1 h1
    unfold fX9_row jX9_row_14
    rw [m_at (n := n) h1.1 h.2.1 (by omega) hx, obind, hs, oz_s, if_neg (zge (by omega)), e2, obind]
    dsimp only
    rw [if_pos rfl, m_at (n := n) i2.1 h.2.1 (by omega) hx, obind, hs, oz_s, show z 1 = z ((1 : Nat) : Int) from rfl, mr_of i2.1 hj w1 (by decide), obind, (i2.1.2.1.2.2 j hj).2.1]
    rw [z_div8 _ (h.2.1.2.2.1 j hj).2.1]
    exact ⟨m2, rfl, t2, o2, i2⟩
theorem law_nails (hn : 200 ≤ n) (h : cInv m W) (hM : mInv m W) (hB : wB W k) (q1 : okI (i5 + (z 1)) E.1 = true) : Sgo (jL_law_99998_1043 E n self i5 m D w) self i5 w k := by
  have w1 := h.2.1.1
  unfold jL_law_99998_1043
  obtain ⟨x, hx, ex⟩ := z_of (E.2.1 (Int32.toNatClampNeg (i5 + (z 1))))
  simp only [q1, if_true, ex]
  unfold fL_nails_0_127 fX8_nails
  rw [c_presence (n := n) h.1 h.2.1 (by omega) hx, obind]
  cases hs : slot (wA W) x with
  | none =>
    rw [if_pos rfl, tf4, obind, oT_r]
    refine law_caseQ (c := 1) (t := z 0) (t' := z 0) (fm := fX9_nails n (z x)) (W' := W) (l_helpQ (W' := W) (ex := 3) ⟨m, rfl, cOut_rf, h⟩ hM (fun m2 _ => rfl)) (fun m1 h1 => ?_) (fun h => absurd h (by decide)) (wB_up hB (by omega)) (by omega)
    obtain ⟨m2, e2, t2, o2, i2⟩ := mQ_thr (c := 1) h1
    unfold fX9_nails jX9_nails_14
    rw [m_at (n := n) h1.1 h.2.1 (by omega) hx, obind, hs, oz_n, if_pos (zlt (by omega)), e2, obind]
    dsimp only
    rw [if_neg z10]
    exact ⟨m2, rfl, t2, o2, i2⟩
  | some j =>
    have hj := (slot_lt hs).1
    rw [if_neg (Option.some_ne_none j), tf0, obind, oT_l, c_slotOf (n := n) h.1 h.2.1 (by omega) hx, obind, hs, oz_s, a_4 (by omega), obind, (h.1.2.2.2.1 j hj).2.2.1]
    refine law_caseQ (c := 0) (t := z ((aNa (wA W) j : Nat) : Int)) (t' := z ((aNa (wA W) j : Nat) : Int)) (fm := fX9_nails n (z x)) (W' := W) (l_helpQ (W' := W) (ex := 3) ⟨m, rfl, cOut_rf, h⟩ hM (fun m2 h => absurd rfl h)) (fun m1 h1 => ?_) (fun _ => rfl) (wB_up hB (by omega)) (by omega)
    obtain ⟨m2, e2, t2, o2, i2⟩ := mQ_fin 1 h1
    unfold fX9_nails jX9_nails_14
    rw [m_at (n := n) h1.1 h.2.1 (by omega) hx, obind, hs, oz_s, if_neg (zge (by omega)), e2, obind]
    dsimp only
    rw [if_pos rfl, m_at (n := n) i2.1 h.2.1 (by omega) hx, obind, hs, oz_s, show z 2 = z ((2 : Nat) : Int) from rfl, mr_of i2.1 hj w1 (by decide), obind, (i2.1.2.1.2.2 j hj).2.2.1]
    exact ⟨m2, rfl, t2, o2, i2⟩
end LAW2
