/-! programs: the model runs a program; the law's call -/
section MRUN
variable {n T : Nat} {t : Nat → Nat}
theorem keeps_0 {m m' : pmI} (h : fX9_keeps n m = some m') : m'.1 113 10 = z 0 := by
  unfold fX9_keeps at h
  cases e : fX9_copies_114_115 n (z 0) (z 0) m with
  | none =>
    rw [e] at h
    exact nomatch h
  | some v =>
    rw [e, obind] at h
    rw [← Option.some.inj h]
    exact pU_same v.1 113 10 (z 0)
theorem MPR_f {m m1 : pmI} {P : List Cm} (h : MPR m P) (f : mfr m m1) : MPR m1 P := by
  unfold MPR
  rw [f.2.2 23 (by decide), f.1 126 (by decide)]
  exact h
theorem m_runL (hn : 700000 ≤ n) (ht : tOk T t) {P : List Cm} (hP10 : P.length ≤ 10) (hok : ∀ c, c ∈ P → CmOk T t c) : ∀ (cs : List Cm) (i q : Nat) (m : pmI) (A : Ab), i + cs.length = P.length → (∀ j, cs[j]? = P[i + j]?) → cs.length < q → repR (m.1 114) A → wfA A → WFL t cs A → mX m T t → MPR m P → m.1 113 10 = z 0 →
    match runL t cs i A with
    | .inl B => ∃ m', lX9_run_l43 n q (z (i : Int)) m = some (.inl m') ∧ mfr m m' ∧ m'.1 113 10 = z 0 ∧ repR (m'.1 114) B
    | .inr k => ∃ m1, lX9_run_l43 n q (z (i : Int)) m = ((fX9_copies_115_114 n (z 0) (z 0) m1).bind fun v8 => pmLet ((pmU v8.1 113 12 (z (k : Int))), v8.2) fun m9 => pmLet ((pmU m9.1 113 10 (z 2)), m9.2) fun m10 => some (.inr ((z 0), m10))) ∧ mfr m m1 := by
  intro cs
  induction cs with
  | nil =>
    intro i q m A hi hg hq hA w hW hm hP h0
    obtain ⟨q, rfl⟩ : ∃ j, q = j + 1 := ⟨q - 1, by omega⟩
    have hi : i + 0 = P.length := hi
    refine ⟨m, ?_, mfr_rf, h0, hA⟩
    show bX9_run_l43 n (lX9_run_l43 n q) (z (i : Int)) m = _
    unfold bX9_run_l43
    rw [hP.1, if_neg (zge (by omega))]
  | cons c cs ih =>
    intro i q m A hi hg hq hA w hW hm hP h0
    rw [List.length_cons] at hi hq
    obtain ⟨q, rfl⟩ : ∃ j, q = j + 1 := ⟨q - 1, by omega⟩
    obtain ⟨k, as⟩ := c
    have hgi : P[i]? = some (k, as) := (hg 0).symm
    obtain ⟨m0, e0, j0, o0, r0⟩ := w_1 m 113 10 (z 0)
    have f0 : mfr m m0 := ⟨fun x hx => o0 x (by omega), j0, fun x hx => by rw [r0, if_neg (by omega)]⟩
    have hP0 := MPR_f hP f0
    obtain ⟨-, h126, h127⟩ := hP0.2 i k as hgi
    obtain ⟨v, m1, e1, f1, hc⟩ := m_does (n := n) hn ht (mX_f hm f0) (A := A) (by rw [o0 114 (by decide)]; exact hA) w (i := i) (by omega) (hok _ (List.mem_of_getElem? hgi)) h126 h127
    obtain ⟨m2, e2, f2, q2⟩ := m_13 m1 v
    have f3 : mfr m m2 := mfr_tr f0 (mfr_tr f1 f2)
    have step : lX9_run_l43 n (q + 1) (z (i : Int)) m = if m2.1 113 10 = z 0 then lX9_run_l43 n q (z (i : Int) + z 1) m2 else (fX9_copies_115_114 n (z 0) (z 0) m2).bind fun v8 => pmLet ((pmU v8.1 113 12 (z (i : Int))), v8.2) fun m9 => pmLet ((pmU m9.1 113 10 (z 2)), m9.2) fun m10 => some (.inr ((z 0), m10)) := by
      show bX9_run_l43 n (lX9_run_l43 n q) (z (i : Int)) m = _
      unfold bX9_run_l43
      rw [hP.1, if_pos (zlt (by omega)), pmLet_eq, e0, show z 5 = z (5 : Int) from rfl, z_mul, show (5 : Int) * (i : Int) = ((5 * i : Nat) : Int) by omega, e1, obind]
      dsimp only
      rw [e2, pmLet_eq]
    unfold runL
    rcases hc with ⟨h1, h2⟩ | ⟨h1, h2, h3⟩
    · rw [if_neg h1]
      refine ⟨m2, ?_, f3⟩
      rw [step, if_neg (show ¬ m2.1 113 10 = z 0 by rw [q2.1]; exact h2)]
    · rw [if_pos h1]
      obtain ⟨w1, W1⟩ := hW h1
      have key := ih (i + 1) q m2 (sCmd t A (k, as)).2.2 (by omega) (fun j => by
        have := hg (j + 1)
        rw [show i + 1 + j = i + (j + 1) by omega]
        exact this) (by omega) (by rw [q2.2]; exact h3) w1 W1 (mX_f hm f3) (MPR_f hP f3) (by rw [q2.1]; exact h2)
      have st2 : lX9_run_l43 n (q + 1) (z (i : Int)) m = lX9_run_l43 n q (z ((i + 1 : Nat) : Int)) m2 := by
        rw [step, if_pos (show m2.1 113 10 = z 0 by rw [q2.1]; exact h2), show z 1 = z (1 : Int) from rfl, z_add]
        rfl
      rw [st2]
      split
      · rename_i B hB
        rw [hB] at key
        obtain ⟨m4, e4, f4, r4⟩ := key
        exact ⟨m4, e4, mfr_tr f3 f4, r4⟩
      · rename_i B hB
        rw [hB] at key
        obtain ⟨m4, e4, f4⟩ := key
        exact ⟨m4, e4, mfr_tr f3 f4⟩
theorem m_runs {W : Wd} (hn : 700000 ≤ n) (w : wfA (wA W)) (ht : tOk (wT W) (wTf W)) (hW : (prog (wT W) (wTf W)).1 = true → WFL (wTf W) (prog (wT W) (wTf W)).2.2 (wA W)) {m : pmI} (h : mInv m W) : ∃ v m2, fX9_run n m = some (v, m2) ∧ ((rRun W).1 = 0 → v = z ((prog (wT W) (wTf W)).2.2.length : Int)) ∧ m2.1 113 10 = z (rRun W).1 ∧ mOut m m2 ∧ mInv m2 (rRun W).2 := by
  obtain ⟨h1, h2, h3, h4, h5, h6, h7⟩ := h
  obtain ⟨m1, e1, p1, b1, P1⟩ := m_isProgram (n := n) ht (by omega) (m := m) ⟨h4.1, h4.2⟩
  obtain ⟨m2, e2, j2, o2, r2⟩ := w_1 m1 113 21 (z 0)
  have a2 : ∀ i, ¬ i = 113 → ¬ i = 126 → m2.1 i = m.1 i := fun i x y => by rw [o2 i x, b1.1 i x y]
  have c2 : ∀ x, ¬ x = 21 → ¬ x = 22 → ¬ x = 23 → m2.1 113 x = m.1 113 x := fun x x1 x2 x3 => by rw [r2, if_neg x1, b1.2.2.1 x x2 x3]
  have d2 : m2.2 = m.2 := by rw [j2, b1.2.1]
  have i2 : mInv m2 (wA W, wH W, wS W, (0, wTf W), W.2.2.2.2) := by
    refine ⟨by rw [a2 114 (by decide) (by decide)]; exact h1, mHist_fr h2 (a2 118 (by decide) (by decide)) (c2 9 (by decide) (by decide) (by decide)), mSv_fr h3 (c2 15 (by decide) (by decide) (by decide)) (a2 117 (by decide) (by decide)), ⟨by rw [r2, if_pos rfl]; rfl, fun k hk => absurd hk (Nat.not_lt_zero k)⟩, ?_, ?_, ?_⟩
    · rw [c2 18 (by decide) (by decide) (by decide), a2 124 (by decide) (by decide)]; exact h5
    · rw [c2 11 (by decide) (by decide) (by decide)]; exact h6
    · rw [c2 12 (by decide) (by decide) (by decide)]; exact h7
  have v22 : m2.1 113 22 = z ((prog (wT W) (wTf W)).2.1 : Int) := by rw [r2, if_neg (by decide)]; exact p1
  have O2 : mOut m m2 := ⟨fun i hi => a2 i (by omega) (by omega), d2⟩
  unfold fX9_run
  rw [e1, obind, pmLet_eq]
  dsimp only
  rw [e2]
  unfold rRun
  by_cases ok : (prog (wT W) (wTf W)).1 = true
  · obtain ⟨k1, k2⟩ := prog_ok ht.1 ok
    rw [if_pos ok, if_pos ok, if_neg z10]
    unfold jX9_run_20
    obtain ⟨m3, e3, t3, f3, r3⟩ := m_t0 (m := m2) (z 1)
    have i3 := mInv_mfr i2 f3 r3
    obtain ⟨m4, e4, j4, o4, c4, r4⟩ := m_keeps (n := n) (m := m3) (by omega)
    have z4 := keeps_0 e4
    have X4 : mX m4 (wT W) (wTf W) := fun k hk => by rw [o4 125 (by decide) (by decide), f3.1 125 (by decide), a2 125 (by decide) (by decide)]; exact h4.2 k hk
    have P4 : MPR m4 (prog (wT W) (wTf W)).2.2 := by
      obtain ⟨x, y⟩ := P1 ok
      unfold MPR
      rw [c4 23 (by decide), f3.2.2 23 (by decide), r2, if_neg (by decide), o4 126 (by decide) (by decide), f3.1 126 (by decide), o2 126 (by decide)]
      exact ⟨x, y⟩
    have L := m_runL (n := n) hn ht k2 k1 (prog (wT W) (wTf W)).2.2 0 n m4 (wA W) (Nat.zero_add _) (fun j => by rw [Nat.zero_add]) (by omega) (by rw [o4 114 (by decide) (by decide), r3, a2 114 (by decide) (by decide)]; exact h1) w (hW ok) X4 P4 z4
    rw [e3, obind]
    dsimp only
    rw [if_pos rfl, e4, obind]
    cases hr : runL (wTf W) (prog (wT W) (wTf W)).2.2 0 (wA W) with
    | inl B =>
      rw [hr] at L
      obtain ⟨m5, e5, f5, t5, r5⟩ := L
      have e5 : lX9_run_l43 n n (z 0) m4 = some (.inl m5) := e5
      obtain ⟨m6, e6, t6, o6, i6⟩ := m_after (n := n) (by omega) i3 w ⟨j4, o4, c4, r4⟩ f5 t5 r5 (m5.1 113 23)
      rw [e5, obind, oS_l, e6, obind]
      refine ⟨m5.1 113 23, m6, rfl, fun _ => ?_, t6, ⟨fun i hi => by rw [o6.1 i hi, f3.1 i (by omega)]; exact O2.1 i hi, by rw [o6.2, f3.2.1]; exact O2.2⟩, i6⟩
      rw [(MPR_f P4 f5).1]
    | inr k =>
      rw [hr] at L
      have kb := runL_b _ _ _ _ _ hr
      obtain ⟨m5, e5, f5⟩ := L
      have e5 : lX9_run_l43 n n (z 0) m4 = _ := e5
      obtain ⟨m6, e6, j6, o6, r6⟩ := m_cp_115_114 (n := n) (m := m5) (by omega) (u := 0) (v := 0) (by omega) (by omega)
      have e6 : fX9_copies_115_114 n (z 0) (z 0) m5 = some m6 := e6
      obtain ⟨m7, e7, j7, o7, r7⟩ := w_1 m6 113 12 (z (k : Int))
      obtain ⟨m8, e8, j8, o8, r8⟩ := w_1 m7 113 10 (z 2)
      have a8 : ∀ i, ¬ i = 113 → ¬ i = 114 → ¬ i = 115 → ¬ i = 116 → ¬ (119 ≤ i ∧ i ≤ 123) → m8.1 i = m3.1 i := fun i x1 x2 x3 x4 x5 => by rw [o8 i x1, o7 i x1, o6 i x2, f5.1 i (by omega), o4 i x1 x3]
      have b8 : ∀ x, ¬ x = 10 → ¬ x = 12 → ¬ x = 13 → ¬ x = 14 → m8.1 113 x = m3.1 113 x := fun x x1 x2 x3 x4 => by rw [r8, if_neg x1, r7, if_neg x2, o6 113 (by decide), f5.2.2 x (by omega), c4 x x1]
      obtain ⟨g1, g2, g3, g4, g5, g6, g7⟩ := i3
      rw [e5, e6, obind, pmLet_eq, e7, pmLet_eq, e8, obind, oS_r]
      refine ⟨z 0, m8, rfl, fun g => absurd g (by show ¬ (2 : Int) = 0; decide), by rw [r8, if_pos rfl], ⟨fun i hi => by rw [a8 i (by omega) (by omega) (by omega) (by omega) (by omega), f3.1 i (by omega)]; exact O2.1 i hi, by rw [j8, j7, j6, f5.2.1, j4, f3.2.1]; exact O2.2⟩, ?_, mHist_fr g2 (a8 118 (by decide) (by decide) (by decide) (by decide) (by decide)) (b8 9 (by decide) (by decide) (by decide) (by decide)), mSv_fr g3 (b8 15 (by decide) (by decide) (by decide) (by decide)) (a8 117 (by decide) (by decide) (by decide) (by decide) (by decide)), ?_, ?_, ?_, ?_⟩
      · rw [o8 114 (by decide), o7 114 (by decide)]
        refine repR_fr g1 w (fun b hb => ?_)
        rw [r6, if_pos (by omega), f5.1 115 (by decide), show 0 + (b - 0) = b by omega, r4 b hb]
      · rw [b8 21 (by decide) (by decide) (by decide) (by decide), a8 125 (by decide) (by decide) (by decide) (by decide) (by decide)]; exact g4
      · rw [b8 18 (by decide) (by decide) (by decide) (by decide), a8 124 (by decide) (by decide) (by decide) (by decide) (by decide)]; exact g5
      · rw [b8 11 (by decide) (by decide) (by decide) (by decide)]; exact g6
      · rw [r8, if_neg (by decide), r7, if_pos rfl]
  · obtain ⟨m3, e3, t3, f3, r3⟩ := m_t1 (m := m2) (z 1)
    obtain ⟨m4, e4, j4, o4, r4⟩ := w_1 m3 113 11 (m3.1 113 22)
    obtain ⟨g1, g2, g3, g4, g5, g6, g7⟩ := mInv_mfr i2 f3 r3
    rw [if_neg ok, if_neg ok, if_pos rfl]
    unfold jX9_run_20
    rw [e3, obind]
    dsimp only
    rw [if_neg z10, pmLet_eq]
    rw [e4]
    refine ⟨z 0, m4, rfl, fun g => absurd g (by show ¬ (1 : Int) = 0; decide), by rw [r4, if_neg (by decide)]; exact t3, ⟨fun i hi => by rw [o4 i (by omega), f3.1 i (by omega)]; exact O2.1 i hi, by rw [j4, f3.2.1]; exact O2.2⟩, by rw [o4 114 (by decide)]; exact g1, mHist_fr g2 (o4 118 (by decide)) (by rw [r4, if_neg (by decide)]), mSv_fr g3 (by rw [r4, if_neg (by decide)]) (o4 117 (by decide)), ?_, ?_, ?_, ?_⟩
    · rw [r4, if_neg (by decide), o4 125 (by decide)]; exact g4
    · rw [r4, if_neg (by decide), o4 124 (by decide)]; exact g5
    · rw [r4, if_pos rfl, f3.2.2 22 (by decide), v22]
    · rw [r4, if_neg (by decide)]; exact g7
theorem runL_x (t : Nat → Nat) : ∀ (cs : List Cm) (i : Nat) (A B : Ab), wfA A → WFL t cs A → runL t cs i A = .inl B → aX B ≤ aX A + cs.length
  | [], _, A, B, _, _, h => by
    have : A = B := Sum.inl.inj h
    rw [this]
    exact Nat.le_add_right _ _
  | c :: cs, i, A, B, w, hW, h => by
    unfold runL at h
    rw [List.length_cons]
    split at h
    · rename_i h0
      obtain ⟨w1, W1⟩ := hW h0
      have := runL_x t cs (i + 1) _ B w1 W1 h
      rcases sCmd_ok t w c with ⟨-, a⟩ | ⟨a, -⟩
      · omega
      · omega
    · exact nomatch h
theorem law_run {E : pmEv0} {self : lSelf} {i5 : Int32} {m : pmI} {D : Nat → Nat → UInt64} {w k : Nat} {W : Wd} (hn : 700000 ≤ n) (h : cInv m W) (hM : mInv m W) (hB : wB W k) (hk : k < 900000) : Sgo (jL_law_99998_2671 E n self i5 m D w) self i5 w k := by
  have ht : tOk (wT W) (wTf W) := ⟨h.2.2.2.2.1.1, fun k hk => (h.2.2.2.2.1.2.2 k hk).2⟩
  have hB1 := hB.1
  obtain ⟨hc, hW⟩ := c_run (n := n) h (by omega) (by omega)
  have hcode : (rRun W).1 = 0 ∨ (rRun W).1 = 1 ∨ (rRun W).1 = 2 := by
    unfold rRun
    split
    · split
      · exact Or.inl rfl
      · exact Or.inr (Or.inr rfl)
    · exact Or.inr (Or.inl rfl)
  have hB2 : wB (rRun W).2 (k + 10) := by
    unfold rRun
    split
    · rename_i ok
      obtain ⟨k1, k2⟩ := prog_ok ht.1 ok
      split
      · rename_i B hr
        have hx := runL_x _ _ _ _ _ h.2.1 (hW ok) hr
        exact wB_put (W := W) hB (show aX B ≤ k + 10 by omega) (by omega)
      · exact wB_up (W := W) hB (by omega)
    · exact wB_up (W := W) hB (by omega)
  unfold jL_law_99998_2671 fL_run_0_127
  have hl := l_helpQ (D := D) (kr := fun e4 m2 => if e4 = 1 then some ((z 1), m2, D, 1) else if e4 = 4 then some ((z 2), m2, D, 1) else none) hc hM (fun m2 h0 => by
    rcases hcode with e | e | e
    · exact absurd e h0
    · rw [e]; rfl
    · rw [e]; rfl)
  obtain ⟨m1, e, e1, he, c1, i1, h0⟩ := hl
  obtain ⟨v, m2, e2, hv, t2, o2, i2⟩ := m_runs (n := n) hn h.2.1 ht hW i1
  rw [e1, obind]
  dsimp only
  rw [e2, obind]
  unfold fX9_thrown
  rw [obind]
  dsimp only
  rw [if_pos t2]
  by_cases hz : (rRun W).1 = 0
  · rw [if_pos (by rw [hz]), if_pos (by rw [o2.2, h0 hz, hv hz]; exact lg_eq _)]
    exact ⟨m2, D, e, _, rfl, he, cInv_m c1 o2, i2, hB2⟩
  · rw [if_neg (zne (by omega))]
    exact ⟨m2, D, e, _, rfl, he, cInv_m c1 o2, i2, hB2⟩
end MRUN
