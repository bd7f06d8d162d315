/-! exit plans: the law's calls -/
section ISPL
variable {m : pmI} {A : Ab} {n : Nat} {W : Wd}
def ifr (m m' : pmI) : Prop := (∀ i, ¬ i = 113 → ¬ i = 119 → ¬ i = 121 → ¬ i = 122 → ¬ i = 123 → m'.1 i = m.1 i) ∧ (∀ x, ¬ x = 14 → m'.1 113 x = m.1 113 x) ∧ m'.2 = m.2
theorem ifr_rf : ifr m m := ⟨fun _ _ _ _ _ _ => rfl, fun _ _ => rfl, rfl⟩
theorem ifr_tr {m1 m2 : pmI} (h1 : ifr m m1) (h2 : ifr m1 m2) : ifr m m2 := ⟨fun i a b c d e => (h2.1 i a b c d e).trans (h1.1 i a b c d e), fun x a => (h2.2.1 x a).trans (h1.2.1 x a), h2.2.2.trans h1.2.2⟩
theorem mfr_i {m' : pmI} (h : ifr m m') : mfr m m' := ⟨fun i hi => h.1 i (by omega) (by omega) (by omega) (by omega) (by omega), h.2.2, fun k hk => h.2.1 k (by omega)⟩
theorem m_planIn (hA : repR (m.1 114) A) (w : wfA A) (hn : 100 ≤ n) {k : Nat} (hk : k < 8) (hr : ∀ c, c < 64 → m.1 119 c = z (fo (dst (clo A false) (aCe A k) c))) : ∃ m', lX9_isPlanned_l25 n (z (k : Int)) n (z 0) m = some m' ∧ (∀ e, e < aEn A → m'.1 123 (6 * k + e) = z (fo (dis A k e))) ∧ (∀ b, b < 6 * k → m'.1 123 b = m.1 123 b) ∧ (∀ i, ¬ i = 123 → m'.1 i = m.1 i) ∧ m'.2 = m.2 := by
  have w7 := w.2.2.2.2.2.2.1
  have F := forI (fun q i (u : pmI) => lX9_isPlanned_l25 n (z (k : Int)) q i u) (aEn A)
    (fun e u => (∀ e', e' < e → u.1 123 (6 * k + e') = z (fo (dis A k e'))) ∧ (∀ b, b < 6 * k → u.1 123 b = m.1 123 b) ∧ (∀ i, ¬ i = 123 → u.1 i = m.1 i) ∧ u.2 = m.2)
    (fun r => ∃ m', r = some m' ∧ (∀ e, e < aEn A → m'.1 123 (6 * k + e) = z (fo (dis A k e))) ∧ (∀ b, b < 6 * k → m'.1 123 b = m.1 123 b) ∧ (∀ i, ¬ i = 123 → m'.1 i = m.1 i) ∧ m'.2 = m.2)
    (fun q e u he hI => by
      obtain ⟨y1, y2, y3, y4⟩ := hI
      have hx64 := w.2.2.2.2.2.2.2.1 e he
      have x4 : u.1 114 (182 + e) = z (aEx A e : Int) := by rw [y3 114 (by decide)]; exact hA.2.2.2.1.2 e he
      have x3 : u.1 114 3 = z (aEn A : Int) := by rw [y3 114 (by decide)]; exact hA.2.2.2.1.1
      obtain ⟨m1, e1, j1, o1, r1⟩ := w_1 u 123 (6 * k + e) (z (fo (dis A k e)))
      show ∃ s', _ ∧ bX9_isPlanned_l25 n (z (k : Int)) (lX9_isPlanned_l25 n (z (k : Int)) q) (z (e : Int)) u = _
      unfold bX9_isPlanned_l25
      rw [x3, if_pos (zlt (by omega)), z_add, z_natI (by omega), show (182 + (e : Int)).toNat = 182 + e by omega, x4, z_mul, z_add, show 6 * (k : Int) + (e : Int) = ((6 * k + e : Nat) : Int) by omega, if_pos ⟨okI_z (by omega), okI_z (by omega), okI_z (by omega)⟩, z_nat (by omega), z_nat (by omega), y3 119 (by decide), hr _ hx64, show dst (clo A false) (aCe A k) (aEx A e) = dis A k e from rfl, pmLet_eq, e1, z_add]
      refine ⟨m1, ⟨fun e' he' => ?_, fun b hb => ?_, fun i hi => by rw [o1 i hi, y3 i hi], by rw [j1, y4]⟩, rfl⟩
      · rw [r1]
        by_cases e0 : e' = e
        · rw [if_pos (by rw [e0]), e0]
        · rw [if_neg (by omega)]
          exact y1 e' (by omega)
      · rw [r1, if_neg (by omega)]
        exact y2 b hb)
    (fun q u hI => by
      refine ⟨u, ?_, hI⟩
      have x3 : u.1 114 3 = z (aEn A : Int) := by rw [hI.2.2.1 114 (by decide)]; exact hA.2.2.2.1.1
      show bX9_isPlanned_l25 n (z (k : Int)) (lX9_isPlanned_l25 n (z (k : Int)) q) (z (aEn A : Int)) u = _
      unfold bX9_isPlanned_l25
      rw [x3, if_neg (zge (by omega))]) (aEn A) 0 n m (by omega) (by omega) ⟨fun e he => absurd he (Nat.not_lt_zero _), fun _ _ => rfl, fun _ _ => rfl, rfl⟩
  exact F
theorem m_isPlanned (hA : repR (m.1 114) A) (w : wfA A) (hn : 700000 ≤ n) : ∃ m', fX9_isPlanned n m = some (z (if bestP A = none then 0 else 1), m') ∧ ifr m m' ∧ ∀ x, bestP A = some x → m'.1 113 14 = z (x.1 : Int) ∧ ∀ i, i < aC A → m'.1 122 i = z (x.2.getD i 0 : Int) := by
  have w1 := w.1
  have w7 := w.2.2.2.2.2.2.1
  have F := forI (fun q i (u : pmI) => lX9_isPlanned_l2 n q i u) (aC A)
    (fun k u => (∀ k' e, k' < k → e < aEn A → u.1 123 (6 * k' + e) = z (fo (dis A k' e))) ∧ (∀ i, ¬ i = 119 → ¬ i = 123 → u.1 i = m.1 i) ∧ u.2 = m.2)
    (fun r => ∃ m', r = some m' ∧ (∀ k' e, k' < aC A → e < aEn A → m'.1 123 (6 * k' + e) = z (fo (dis A k' e))) ∧ (∀ i, ¬ i = 119 → ¬ i = 123 → m'.1 i = m.1 i) ∧ m'.2 = m.2)
    (fun q k u hk hI => by
      obtain ⟨y1, y2, y3⟩ := hI
      have hu : repR (u.1 114) A := by rw [y2 114 (by decide) (by decide)]; exact hA
      have s64 := (w.2.2.1 k hk).2.1
      obtain ⟨m1, e1, r1, f1⟩ := m_reaches (n := n) (m := u) false s64 hu w hn
      have e1 : fX9_reaches n (z (aCe A k : Int)) (z 0) u = some m1 := e1
      have h1 : repR (m1.1 114) A := by rw [f1.1 114 (by decide)]; exact hu
      obtain ⟨m2, e2, g1, g2, g3, g4⟩ := m_planIn (n := n) h1 w (by omega) (show k < 8 by omega) r1
      show ∃ s', _ ∧ bX9_isPlanned_l2 n (lX9_isPlanned_l2 n q) (z (k : Int)) u = _
      unfold bX9_isPlanned_l2
      rw [hu.2.1.1, if_pos (zlt (by omega)), show fX9_of (z (k : Int)) (z 1) u = _ from mr_of (j := 1) hu hk w1 (by decide), obind, (hu.2.1.2.2 k hk).2.1, e1, obind, e2, obind, z_add]
      refine ⟨m2, ⟨fun k' e hk' he => ?_, fun i a b => by rw [g3 i b, f1.1 i a, y2 i a b], by rw [g4, f1.2, y3]⟩, rfl⟩
      by_cases e0 : k' = k
      · rw [e0]; exact g1 e he
      · rw [g2 _ (by omega), f1.1 123 (by decide)]
        exact y1 k' e (by omega) he)
    (fun q u hI => by
      refine ⟨u, ?_, hI⟩
      have hu : repR (u.1 114) A := by rw [hI.2.1 114 (by decide) (by decide)]; exact hA
      show bX9_isPlanned_l2 n (lX9_isPlanned_l2 n q) (z (aC A : Int)) u = _
      unfold bX9_isPlanned_l2
      rw [hu.2.1.1, if_neg (zge (by omega))]) (aC A) 0 n m (by omega) (by omega) ⟨fun k' e hk' => absurd hk' (Nat.not_lt_zero _), fun _ _ _ => rfl, rfl⟩
  obtain ⟨m1, e1, g1, g2, g3⟩ := F
  have e1 : lX9_isPlanned_l2 n n (z 0) m = some m1 := e1
  obtain ⟨m2, e2, j2, o2, r2⟩ := w_1 m1 113 14 (z 9999)
  have h2 : repR (m2.1 114) A := by rw [o2 114 (by decide), g2 114 (by decide) (by decide)]; exact hA
  have p2 := p2_64 (aEn A) (by omega)
  obtain ⟨m3, e3, q1, q2, q3⟩ := m_plans (c := dis A) (M := aEn A) (N := aC A) (n := n) dis_le w7 w1 (by omega) (aC A) 0 0 0 12 m2 (9999, fun i => m2.1 122 i) (fun _ => z 0) (by omega) (by omega) (by omega) (by omega) (Nat.le_refl _) ⟨by rw [r2, if_pos rfl]; rfl, fun _ _ => rfl⟩ (fun i hi => absurd hi (Nat.not_lt_zero _)) ⟨h2.2.1.1, h2.2.2.2.1.1, fun k e hk he => by rw [o2 123 (by decide)]; exact g1 k e hk he⟩
  have e3 : fX9_plans n (z 0) (z 0) (z 0) m2 = some m3 := e3
  unfold fX9_isPlanned
  rw [e1, obind, pmLet_eq, e2, e3, obind]
  have fr : ifr m m3 := ⟨fun i a b c d e => by rw [q3.1 i a c d, o2 i a, g2 i b e], fun x hx => by rw [q3.2.1 x hx, r2, if_neg hx, g2 113 (by decide) (by decide)], by rw [q3.2.2, j2, g3]⟩
  have q1 : LB m3 (aC A) (upL (fun _ => z 0) 0 0 (9999, fun i => m2.1 122 i) (bestP A)) := q1
  cases hb : bestP A with
  | none =>
    rw [hb] at q1
    have q0 : m3.1 113 14 = z 9999 := q1.1
    rw [if_pos rfl, q0, if_neg (by decide)]
    exact ⟨m3, rfl, fr, fun x g => (nomatch g)⟩
  | some x =>
    have hx := bst_bd (dis_le) (show bst (dis A) (aEn A) (aC A) 0 0 = some x from hb)
    rw [hb] at q1
    have q1 : LB m3 (aC A) (if 0 + x.1 < 9999 then (0 + x.1, fun i => if i < 0 then z 0 else z (x.2.getD (i - 0) 0 : Int)) else (9999, fun i => m2.1 122 i)) := q1
    rw [if_pos (by omega)] at q1
    obtain ⟨q4, q5⟩ := q1
    have q4 : m3.1 113 14 = z ((0 + x.1 : Nat) : Int) := q4
    rw [Nat.zero_add] at q4
    rw [q4, if_pos (zlt (by omega)), if_neg (fun g => (nomatch g))]
    refine ⟨m3, rfl, fr, fun x' g => ?_⟩
    cases g
    exact ⟨q4, fun i hi => q5 i hi⟩
theorem cInv_l {m' : pmI} (h : cInv m W) (f : lfr m m') : cInv m' W := cInv_fr h (fun i hi => ⟨f.1 i (by omega), by rw [f.2]⟩)
theorem cOut_l {m' : pmI} (f : lfr m m') : cOut m m' := fun i hi => ⟨f.1 i (by omega), by rw [f.2]⟩
theorem fr_l {m' : pmI} (f : lfr m m') : fr cS m m' := fun i hi => by
  have : ¬ ((1 ≤ i ∧ i ≤ 8) ∨ (91 ≤ i ∧ i ≤ 106)) := of_decide_eq_false hi
  exact ⟨f.1 i (by omega), by rw [f.2]⟩
/-- the cost of the best plan -/
def qCost (A : Ab) : Int × Int := match bestP A with
  | none => (1, 0)
  | some x => (0, (x.1 : Int))
theorem qCost_c (A : Ab) : (qCost A).1 = 0 ∨ (qCost A).1 = 1 := by
  unfold qCost
  split
  · exact Or.inr rfl
  · exact Or.inl rfl
theorem best_bd {A : Ab} (w : wfA A) {x : Pl} (h : bestP A = some x) : x.1 ≤ 512 := by
  have := bst_bd dis_le (show bst (dis A) (aEn A) (aC A) 0 0 = some x from h)
  have := w.1
  omega
theorem c_exitCost (h : cInv m W) (hn : 100 ≤ n) : cQ m W (fX8_exitCost n m) (qCost (wA W)).1 (z (qCost (wA W)).2) 3 := by
  obtain ⟨m1, e1, f1, -, -⟩ := c_planCost h.1 h.2.1 hn
  unfold fX8_exitCost qCost
  rw [e1, obind]
  dsimp only
  unfold cost
  cases hb : bestP (wA W) with
  | none =>
    rw [if_pos rfl]
    exact ⟨m1, rfl, cOut_l f1, cInv_l h f1⟩
  | some x =>
    have := best_bd h.2.1 hb
    dsimp only
    rw [if_neg (zne (by omega))]
    exact ⟨m1, rfl, cOut_l f1, cInv_l h f1⟩
theorem mm_exitCost (w : wfA (wA W)) (hn : 700000 ≤ n) : mQ W W (fX9_exitCost n) (qCost (wA W)).1 (z (qCost (wA W)).2) := fun m1 h1 => by
  obtain ⟨m2, e2, f2, g2⟩ := m_isPlanned (n := n) h1.1 w hn
  have i2 : mInv m2 W := mInv_mfr h1 (mfr_i f2) (f2.1 114 (by decide) (by decide) (by decide) (by decide) (by decide))
  have o2 : mOut m1 m2 := mOut_mfr (mfr_i f2)
  unfold fX9_exitCost qCost jX9_exitCost_13
  rw [e2, obind]
  dsimp only
  cases hb : bestP (wA W) with
  | none =>
    obtain ⟨m3, e3, t3, o3, i3⟩ := mQ_thr (c := 1) i2
    rw [if_pos rfl, if_pos rfl, e3, obind]
    dsimp only
    rw [if_neg z10]
    exact ⟨m3, rfl, t3, ⟨fun i hi => (o3.1 i hi).trans (o2.1 i hi), o3.2.trans o2.2⟩, i3⟩
  | some x =>
    obtain ⟨m3, e3, j3, p3, r3⟩ := w_1 m2 113 10 (z 0)
    have e3 : fX9_isThrown (z 0) (z 1) m2 = some (z 0, m3) := by rw [m_thr0, e3]
    have f3 : mfr m2 m3 := ⟨fun i hi => p3 i (by omega), j3, fun k hk => by rw [r3, if_neg (by omega)]⟩
    rw [if_neg (show ¬ (some x = none) from fun g => (nomatch g)), if_neg z10, e3, obind]
    dsimp only
    rw [if_pos rfl, r3, if_neg (by decide), (g2 x hb).1]
    exact ⟨m3, rfl, by rw [r3, if_pos rfl], ⟨fun i hi => ((mOut_mfr f3).1 i hi).trans (o2.1 i hi), f3.2.1.trans o2.2⟩, mInv_mfr i2 f3 (p3 114 (by decide))⟩
/-- the exit that the best plan gives -/
def qOf (A : Ab) (d : Int) : Int × Int := match slot A d with
  | none => (1, 0)
  | some k => match bestP A with
    | none => (1, 0)
    | some x => (0, (x.2.getD k 0 : Int))
theorem qOf_c (A : Ab) (d : Int) : (qOf A d).1 = 0 ∨ (qOf A d).1 = 1 := by
  unfold qOf
  split
  · exact Or.inr rfl
  · split
    · exact Or.inr rfl
    · exact Or.inl rfl
theorem c_exitOf (h : cInv m W) (hn : 100 ≤ n) {d : Int} (hd : -2147483648 ≤ d ∧ d < 2147483648) : cQ m W (fX8_exitOf n (z d) m) (qOf (wA W) d).1 (z (qOf (wA W) d).2) 3 := by
  have w := h.2.1
  unfold fX8_exitOf qOf
  rw [c_presence (n := n) h.1 w (by omega) hd, obind]
  cases hs : slot (wA W) d with
  | none =>
    rw [if_pos rfl, tf4]
    exact ⟨m, rfl, cOut_rf, h⟩
  | some k =>
    have hk := (slot_lt hs).1
    obtain ⟨m1, e1, f1, t1, g1⟩ := c_planCost h.1 w hn
    rw [if_neg (Option.some_ne_none k), tf0, obind, oT_l, e1, obind]
    dsimp only
    unfold cost
    cases hb : bestP (wA W) with
    | none =>
      rw [if_pos rfl]
      exact ⟨m1, rfl, cOut_l f1, cInv_l h f1⟩
    | some x =>
      have hx := best_bd w hb
      have hN : aC (wA W) ≤ aEn (wA W) := Nat.le_of_not_lt fun hlt => by
        have p2 := p2_64 (aEn (wA W)) (by have := w.2.2.2.2.2.2.1; omega)
        have := bst_over (c := dis (wA W)) w.2.2.2.2.2.2.1 (d := aC (wA W)) (k := 0) (u := 0) (by omega) (by show _ < 0 + _; omega)
        rw [show bst (dis (wA W)) (aEn (wA W)) (aC (wA W)) 0 0 = bestP (wA W) from rfl, hb] at this
        cases this
      dsimp only
      rw [if_neg (zne (by omega)), c_slotOf (n := n) (repC_l h.1 f1) w (by omega) hd, obind, hs, oz_s, c_exitFor dis_le w.2.2.2.2.2.2.1 hN t1 (g1 hN) hn (show bst (dis (wA W)) (aEn (wA W)) (aC (wA W)) 0 0 = some x from hb) hk, obind]
      exact ⟨m1, rfl, cOut_l f1, cInv_l h f1⟩
theorem mm_exitOf (w : wfA (wA W)) (hn : 700000 ≤ n) {d : Int} (hd : -2147483648 ≤ d ∧ d < 2147483648) : mQ W W (fX9_exitOf n (z d)) (qOf (wA W) d).1 (z (qOf (wA W) d).2) := fun m1 h1 => by
  have w1 := w.1
  have thr : ∀ m2, mInv m2 W → mOut m1 m2 → ∃ m3, jX9_exitOf_16 n (z d) m2 = some (z 0, m3) ∧ m3.1 113 10 = z 1 ∧ mOut m1 m3 ∧ mInv m3 W := fun m2 i2 o2 => by
    obtain ⟨m3, e3, t3, o3, i3⟩ := mQ_thr (c := 1) i2
    unfold jX9_exitOf_16 jX9_exitOf_21
    rw [e3, obind]
    dsimp only
    rw [if_neg z10]
    exact ⟨m3, rfl, t3, ⟨fun i hi => (o3.1 i hi).trans (o2.1 i hi), o3.2.trans o2.2⟩, i3⟩
  unfold fX9_exitOf qOf
  rw [m_at (n := n) h1.1 w (by omega) hd, obind]
  cases hs : slot (wA W) d with
  | none =>
    rw [oz_n, if_pos (by decide)]
    exact thr m1 h1 ⟨fun _ _ => rfl, rfl⟩
  | some k =>
    have hk := (slot_lt hs).1
    obtain ⟨m2, e2, f2, g2⟩ := m_isPlanned (n := n) h1.1 w hn
    have i2 : mInv m2 W := mInv_mfr h1 (mfr_i f2) (f2.1 114 (by decide) (by decide) (by decide) (by decide) (by decide))
    have o2 : mOut m1 m2 := mOut_mfr (mfr_i f2)
    rw [oz_s, if_neg (zge (by omega)), e2, obind]
    dsimp only
    cases hb : bestP (wA W) with
    | none =>
      rw [if_pos rfl, if_pos rfl]
      exact thr m2 i2 o2
    | some x =>
      obtain ⟨m3, e3, j3, p3, r3⟩ := w_1 m2 113 10 (z 0)
      have e3 : fX9_isThrown (z 0) (z 1) m2 = some (z 0, m3) := by rw [m_thr0, e3]
      have f3 : mfr m2 m3 := ⟨fun i hi => p3 i (by omega), j3, fun k hk => by rw [r3, if_neg (by omega)]⟩
      have i3 : mInv m3 W := mInv_mfr i2 f3 (p3 114 (by decide))
      rw [if_neg (show ¬ (some x = none) from fun g => (nomatch g)), if_neg z10]
      unfold jX9_exitOf_21
      rw [e3, obind]
      dsimp only
      rw [if_pos rfl, m_at (n := n) i3.1 w (by omega) hd, obind, hs, oz_s, if_pos (okI_z (by omega)), z_nat (by omega), p3 122 (by decide), (g2 x hb).2 k hk]
      exact ⟨m3, rfl, by rw [r3, if_pos rfl], ⟨fun i hi => ((mOut_mfr f3).1 i hi).trans (o2.1 i hi), f3.2.1.trans o2.2⟩, i3⟩
/-- all leave -/
def aGone (A : Ab) : Ab := uMo (uD A 0 (aX A) (aNu A) (aCe A) (aNa A) (aPa A)) (aLo A) (aBr A) (aGi A) (aGo A + z ((nsum (aNa A) (aC A) : Nat) : Int))
def sLeave (A : Ab) : Int × Int × Ab := if aC A = 0 then (1, 0, A) else match bestP A with
  | none => (2, 0, A)
  | some x => (0, (x.1 : Int), aGone A)
theorem sLeave_ok (A : Ab) : sOk A (sLeave A) 2 := by
  unfold sLeave
  split
  · exact sOk1 (by omega)
  · split
    · exact sOk1 (by omega)
    · exact sOk0 (Nat.le_succ _)
theorem wf_none {A : Ab} (w : wfA A) : wfA (aGone A) := by
  obtain ⟨w1, w2, w3, w4, w5, w6, w7, w8, w9, w10, w11⟩ := w
  refine ⟨Nat.zero_le _, w2, fun k hk => absurd hk (Nat.not_lt_zero _), fun i j _ hj => absurd hj (Nat.not_lt_zero _), fun i hi => absurd hi (Nat.not_lt_zero _), w6, w7, w8, w9, w10, ?_⟩
  show aLo A = aBr A + aGi A - z ((0 : Nat) : Int) - (aGo A + z ((nsum (aNa A) (aC A) : Nat) : Int))
  rw [w11]
  have : z ((0 : Nat) : Int) = 0 := rfl
  rw [this]
  grind
def fcL (c : Int) : Int := if c = 0 then 0 else if c = 1 then 3 else 5
def exL (c : Int) : Nat := if c = 1 then 2 else 4
theorem c_leaveF (h : repC 1 m A) (w : wfA A) (hn : 100 ≤ n) : ∃ m', fX8_leaveFault n m = some (z (fcL (sLeave A).1), m') ∧ lfr m m' := by
  have w1 := w.1
  unfold fX8_leaveFault sLeave
  rw [h.2.1]
  by_cases h0 : aC A = 0
  · rw [if_pos (by rw [h0]; rfl), if_pos h0]
    exact ⟨m, rfl, lfr_rf⟩
  · obtain ⟨m1, e1, f1, -, -⟩ := c_planCost h w hn
    have hz : ¬ z (aC A : Int) = z 0 := zne (by omega)
    rw [if_neg hz, if_neg h0, e1, obind]
    dsimp only
    unfold cost
    cases hb : bestP A with
    | none =>
      rw [if_pos rfl]
      exact ⟨m1, rfl, f1⟩
    | some x =>
      have := best_bd w hb
      dsimp only
      rw [if_neg (zne (by omega))]
      exact ⟨m1, rfl, f1⟩
theorem c_leaveAll (h : cInv m W) (hn : 100 ≤ n) : cRes m W (fX8_leaveAll n m) (sLeave (wA W)) exL := by
  have w := h.2.1
  obtain ⟨m0, e0, f0⟩ := c_leaveF (n := n) h.1 w hn
  have h0 := cInv_l h f0
  unfold fX8_leaveAll
  rw [e0, obind]
  dsimp only
  unfold sLeave
  by_cases hz : aC (wA W) = 0
  · rw [if_pos hz]
    refine cRes_ex (by decide) ?_ (cOut_l f0) h0
    show (fX8_throwFor (z 3) m0).bind _ = _
    rw [tf3]
    rfl
  · rw [if_neg hz]
    cases hb : bestP (wA W) with
    | none =>
      refine cRes_ex (by decide) ?_ (cOut_l f0) h0
      show (fX8_throwFor (z 5) m0).bind _ = _
      rw [tf5]
      rfl
    | some x =>
      obtain ⟨m1, e1, i1, o1⟩ := c_remember h0
      obtain ⟨m2, e2, f2, -, -⟩ := c_planCost (n := n) i1.1 w hn
      obtain ⟨m3, e3, f3, r3⟩ := c_dismissAll (n := n) (repC_l i1.1 f2) w (by omega)
      have r3 : repC 1 m3 (aGone (wA W)) := r3
      refine cRes_ok (m' := m3) ?_ (cOut_tr (cOut_l f0) (cOut_tr (cOut_hi o1) (cOut_tr (cOut_l f2) (cOut_fr f3)))) (cInv_st i1 (fr_tr (fr_l f2) f3) r3 (wf_none w))
      show (fX8_throwFor (z 0) m0).bind _ = _
      rw [tf0, obind, oT_l, e1, obind, e2, obind]
      dsimp only
      rw [e3, obind]
      show some (Sum.inl (z (cost (wA W))), m3) = _
      unfold cost
      rw [hb]
theorem m_goAll (hn : 60 ≤ n) : ∀ (d q : Nat) (m : pmI) (B : Ab), aC B = d → d < q → repR (m.1 114) B → wfA B → ∃ m', lX9_allLeave_l44 n q m = some m' ∧ mfr m m' ∧ m'.1 113 = m.1 113 ∧ repR (m'.1 114) (aGone B) := by
  intro d
  induction d with
  | zero =>
    intro q m B h1 h2 hB w
    obtain ⟨q, rfl⟩ : ∃ j, q = j + 1 := ⟨q - 1, by omega⟩
    show ∃ m', bX9_allLeave_l44 n (lX9_allLeave_l44 n q) m = _ ∧ _
    unfold bX9_allLeave_l44
    rw [hB.2.1.1, h1, if_neg (by decide)]
    refine ⟨m, rfl, mfr_rf, rfl, hB.1, ⟨by rw [hB.2.1.1, h1]; rfl, hB.2.1.2.1, fun k hk => absurd hk (Nat.not_lt_zero _)⟩, hB.2.2.1, hB.2.2.2.1, hB.2.2.2.2.1, hB.2.2.2.2.2.1, hB.2.2.2.2.2.2.1, ?_⟩
    rw [hB.2.2.2.2.2.2.2]
    show aGo B = aGo B + z ((nsum (aNa B) (aC B) : Nat) : Int)
    rw [h1]
    show aGo B = aGo B + 0
    rw [Int32.add_zero]
  | succ d ih =>
    intro q m B h1 h2 hB w
    obtain ⟨q, rfl⟩ : ∃ j, q = j + 1 := ⟨q - 1, by omega⟩
    show ∃ m', bX9_allLeave_l44 n (lX9_allLeave_l44 n q) m = _ ∧ _
    have w1 := w.1
    obtain ⟨m1, e1, f1, t1, r1⟩ := m_parts (n := n) hB w (by omega) (show 0 < aC B by omega)
    have ws := wf_sep w (show 0 < aC B by omega)
    obtain ⟨m2, e2, f2, t2, r2⟩ := m_goes (n := n) r1 ws hn (show 0 < aC (uPa B (pSep B 0)) from (by show 0 < aC B; omega))
    have w2 := wf_remove w (show 0 < aC B by omega)
    obtain ⟨m3, e3, f3, t3, r3⟩ := ih q m2 (uGone (uPa B (pSep B 0)) 0) (by show aC B - 1 = d; omega) (by omega) r2 w2
    unfold bX9_allLeave_l44
    have e1 : fX9_parts n (z 0) m = some m1 := e1
    have e2 : fX9_goes n (z 0) m1 = some m2 := e2
    rw [hB.2.1.1, if_pos (zlt (by omega)), e1, obind, e2, obind]
    refine ⟨m3, e3, mfr_tr f1 (mfr_tr f2 f3), by rw [t3, t2, t1], ?_⟩
    refine ⟨r3.1, ⟨r3.2.1.1, r3.2.1.2.1, fun k hk => absurd hk (Nat.not_lt_zero _)⟩, r3.2.2.1, r3.2.2.2.1, r3.2.2.2.2.1, r3.2.2.2.2.2.1, r3.2.2.2.2.2.2.1, ?_⟩
    rw [r3.2.2.2.2.2.2.2]
    show aGo B + z (aNa B 0 : Int) + z ((nsum (sh 0 (aNa B)) (aC B - 1) : Nat) : Int) = aGo B + z ((nsum (aNa B) (aC B) : Nat) : Int)
    have e := nsum_sh (f := aNa B) (k := 0) (n := aC B - 1) (by omega)
    rw [show aC B - 1 + 1 = aC B by omega] at e
    rw [Int32.add_assoc, z_add]
    congr 2
    omega
theorem m_allLeave (h : repR (m.1 114) A) (w : wfA A) (hn : 700000 ≤ n) : mRes m (fX9_allLeave n m) (sLeave A) := by
  have w1 := w.1
  unfold fX9_allLeave sLeave
  rw [h.2.1.1]
  unfold jX9_allLeave_15
  by_cases hz : aC A = 0
  · obtain ⟨m1, e1, t1, f1, r1⟩ := m_t1 (m := m) (z 1)
    rw [if_pos (by rw [hz]; rfl), if_pos hz, e1, obind]
    dsimp only
    rw [if_neg z10]
    exact ⟨m1, rfl, t1, f1, (r1 ▸ h)⟩
  · obtain ⟨m1, e1, t1, f1, r1⟩ := m_t0 (m := m) (z 1)
    have h1 : repR (m1.1 114) A := (r1 ▸ h)
    have hzz : ¬ z (aC A : Int) = z 0 := zne (by omega)
    obtain ⟨m2, e2, f2, g2⟩ := m_isPlanned (n := n) h1 w hn
    have h2 : repR (m2.1 114) A := by rw [f2.1 114 (by decide) (by decide) (by decide) (by decide) (by decide)]; exact h1
    have ff : mfr m m2 := mfr_tr f1 (mfr_i f2)
    rw [if_neg hzz, if_neg hz, e1, obind]
    dsimp only
    rw [if_pos rfl, e2, obind]
    dsimp only
    unfold jX9_allLeave_35
    cases hb : bestP A with
    | none =>
      obtain ⟨m3, e3, t3, f3, r3⟩ := m_t1 (m := m2) (z 2)
      rw [if_pos rfl, if_pos rfl, e3, obind]
      dsimp only
      rw [if_neg z10]
      exact ⟨m3, rfl, t3, mfr_tr ff f3, (r3 ▸ h2)⟩
    | some x =>
      obtain ⟨m3, e3, j3, p3, r3⟩ := w_1 m2 113 10 (z 0)
      have e3 : fX9_isThrown (z 0) (z 2) m2 = some (z 0, m3) := by rw [m_thr0, e3]
      have f3 : mfr m2 m3 := ⟨fun i hi => p3 i (by omega), j3, fun k hk => by rw [r3, if_neg (by omega)]⟩
      have h3 : repR (m3.1 114) A := by rw [p3 114 (by decide)]; exact h2
      obtain ⟨m4, e4, f4, t4, r4⟩ := m_goAll (n := n) (by omega) (aC A) n m3 A rfl (by omega) h3 w
      rw [if_neg (show ¬ (some x = none) from fun g => (nomatch g)), if_neg z10, e3, obind]
      dsimp only
      rw [if_pos rfl, e4, obind]
      refine ⟨m4, ?_, by rw [t4, r3, if_pos rfl], mfr_tr ff (mfr_tr f3 f4), r4⟩
      rw [t4, r3, if_neg (by decide), (g2 x hb).1]
end ISPL
section LAW19
variable {E : pmEv0} {n : Nat} {self : lSelf} {i5 : Int32} {m : pmI} {D : Nat → Nat → UInt64} {w k : Nat} {W : Wd}
theorem law_exitCost (hn : 700000 ≤ n) (h : cInv m W) (hM : mInv m W) (hB : wB W k) : Sgo (jL_law_99998_1974 E n self i5 m D w) self i5 w k := by
  unfold jL_law_99998_1974 fL_exitCost_0_127
  have qc := qCost_c (wA W)
  exact law_caseQ (fm := fX9_exitCost n) (W' := W) (l_helpQ (W' := W) (c_exitCost (n := n) h (by omega)) hM (fun m2 h0 => by
    rcases qc with e | e
    · exact absurd e h0
    · rw [e]; rfl)) (mm_exitCost h.2.1 hn) (fun _ => rfl) (wB_up hB (by omega)) (by omega)
theorem law_exitOf (hn : 700000 ≤ n) (h : cInv m W) (hM : mInv m W) (hB : wB W k) (q1 : okI (i5 + (z 1)) E.1 = true) : Sgo (jL_law_99998_2062 E n self i5 m D w) self i5 w k := by
  unfold jL_law_99998_2062
  obtain ⟨d, hd, ed⟩ := z_of (E.2.1 (Int32.toNatClampNeg (i5 + (z 1))))
  simp only [q1, if_true, ed]
  unfold fL_exitOf_0_127
  have qc := qOf_c (wA W) d
  exact law_caseQ (fm := fX9_exitOf n (z d)) (W' := W) (l_helpQ (W' := W) (c_exitOf (n := n) h (by omega) hd) hM (fun m2 h0 => by
    rcases qc with e | e
    · exact absurd e h0
    · rw [e]; rfl)) (mm_exitOf h.2.1 hn hd) (fun _ => rfl) (wB_up hB (by omega)) (by omega)
theorem law_leaveAll (hn : 700000 ≤ n) (h : cInv m W) (hM : mInv m W) (hB : wB W k) (hk : k < 900000) : Sgo (jL_law_99998_2118 E n self i5 m D w) self i5 w k := by
  unfold jL_law_99998_2118 fL_leaveAll_0_127 fX9_leaveAll
  have ok := sLeave_ok (wA W)
  exact law_mut (f := fX9_allLeave n) (s := sLeave (wA W)) (by omega) hM h.2.1 hB (c_leaveAll (n := n) h (by omega)) (fun m2 h0 => by rcases cd2 ok h0 with e | e <;> (rw [e]; rfl)) (fun m1 h1 => m_allLeave (n := n) h1 h.2.1 hn) ok (by omega)
end LAW19
