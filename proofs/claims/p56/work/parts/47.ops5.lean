/-! the class: dancers, figures, exits -/
theorem c_w (m : pmI) {q : Nat} (hq : 1 ≤ q ∧ q ≤ 8) (k : Nat) (x : Int32) : ∃ m', (pmU m.1 q k x, m.2) = m' ∧ fr cS m m' ∧ m'.2 = m.2 ∧ (∀ a, a ≠ q → m'.1 a = m.1 a) ∧ ∀ b, m'.1 q b = if b = k then x else m.1 q b :=
  ⟨_, rfl, fr_pm fr_rf (decide_eq_true (Or.inl hq)) k x, rfl, fun a ha => rowne ha, fun b => pU_row m.1 q k x b⟩
section OPS5
variable {m : pmI} {A : Ab} {n : Nat}
theorem c_partnerOf (h : repC 1 m A) (w : wfA A) (hn : 20 ≤ n) {d : Int} (hd : -2147483648 ≤ d ∧ d < 2147483648) : fX6_partnerOf_1 n (z d) m = some (z (match slot A d with | some k => aPa A k | none => -1)) := by
  have w1 := w.1
  unfold fX6_partnerOf_1
  rw [c_slotOf h w hn hd, obind]
  cases hs : slot A d with
  | none => rw [oz_n, an_5 (by omega) (by omega), obind]
  | some k =>
    have hk := (slot_lt hs).1
    rw [oz_s, a_5 (by omega), obind, (h.2.2.2.1 k hk).2.2.2]
theorem c_presence (h : repC 1 m A) (w : wfA A) (hn : 20 ≤ n) {d : Int} (hd : -2147483648 ≤ d ∧ d < 2147483648) : fX8_presenceFault n (z d) m = some (if slot A d = none then z 4 else z 0) := by
  have w1 := w.1
  unfold fX8_presenceFault
  rw [c_slotOf h w hn hd, obind]
  cases hs : slot A d with
  | none => rw [oz_n, if_pos rfl, if_pos rfl]
  | some k =>
    have hk := (slot_lt hs).1
    rw [oz_s, if_neg (zne (by omega)), if_neg (fun h => nomatch h)]
theorem c_bring (h : repC 1 m A) (w : wfA A) (h8 : aC A < 8) {c v : Nat} : ∃ m', fX6_bringDancer_1 (z (c : Int)) (z (v : Int)) m = some (z (aX A : Int), m') ∧ fr cS m m' ∧ repC 1 m' (uMo (uD A (aC A + 1) (aX A + 1) (fun k => if k = aC A then aX A else aNu A k) (fun k => if k = aC A then c else aCe A k) (fun k => if k = aC A then v else aNa A k) (fun k => if k = aC A then -1 else aPa A k)) (aLo A) (aBr A + z v) (aGi A) (aGo A)) := by
  obtain ⟨p1, p2, p3, p4, p5, p6, p7, p8, p9, p10, p11⟩ := h
  unfold fX6_bringDancer_1
  rw [p2, p3, s_2 h8, obind]
  obtain ⟨m1, e1, f1, j1, o1, r1⟩ := c_w m (q := 2) (by omega) (aC A) (z (aX A : Int))
  rw [e1, s_3 h8, obind]
  obtain ⟨m2, e2, f2, j2, o2, r2⟩ := c_w m1 (q := 3) (by omega) (aC A) (z (c : Int))
  rw [e2, s_4 h8, obind]
  obtain ⟨m3, e3, f3, j3, o3, r3⟩ := c_w m2 (q := 4) (by omega) (aC A) (z (v : Int))
  rw [e3, s_5 h8, obind]
  obtain ⟨m4, e4, f4, j4, o4, r4⟩ := c_w m3 (q := 5) (by omega) (aC A) (z (-1))
  rw [e4, pmLet_eq, pmLet_eq, pmLet_eq]
  obtain ⟨m5, e5, f5, j5, o5, r5⟩ := c_w m4 (q := 1) (by omega) 1 (z (aC A : Int) + z 1)
  rw [e5]
  obtain ⟨m6, e6, f6, j6, o6, r6⟩ := c_w m5 (q := 1) (by omega) 2 (z (aX A : Int) + z 1)
  rw [e6]
  obtain ⟨m7, e7, f7, j7, o7, r7⟩ := c_w m6 (q := 1) (by omega) 12 (m6.1 1 12 + z (v : Int))
  rw [e7]
  have b1 : ∀ b, m4.1 1 b = m.1 1 b := fun b => by rw [o4 1 (by decide), o3 1 (by decide), o2 1 (by decide), o1 1 (by decide)]
  have k1 : ∀ b, ¬ b = 1 → ¬ b = 2 → ¬ b = 12 → m7.1 1 b = m.1 1 b := fun b h1 h2 h3 => by rw [r7, if_neg h3, r6, if_neg h2, r5, if_neg h1, b1]
  have g2 : ∀ b, m7.1 2 b = if b = aC A then z (aX A : Int) else m.1 2 b := fun b => by rw [o7 2 (by decide), o6 2 (by decide), o5 2 (by decide), o4 2 (by decide), o3 2 (by decide), o2 2 (by decide), r1]
  have g3 : ∀ b, m7.1 3 b = if b = aC A then z (c : Int) else m.1 3 b := fun b => by rw [o7 3 (by decide), o6 3 (by decide), o5 3 (by decide), o4 3 (by decide), o3 3 (by decide), r2, o1 3 (by decide)]
  have g4 : ∀ b, m7.1 4 b = if b = aC A then z (v : Int) else m.1 4 b := fun b => by rw [o7 4 (by decide), o6 4 (by decide), o5 4 (by decide), o4 4 (by decide), r3, o2 4 (by decide), o1 4 (by decide)]
  have g5 : ∀ b, m7.1 5 b = if b = aC A then z (-1) else m.1 5 b := fun b => by rw [o7 5 (by decide), o6 5 (by decide), o5 5 (by decide), r4, o3 5 (by decide), o2 5 (by decide), o1 5 (by decide)]
  have g : ∀ q, 6 ≤ q → m7.1 q = m.1 q := fun q hq => by rw [o7 q (by omega), o6 q (by omega), o5 q (by omega), o4 q (by omega), o3 q (by omega), o2 q (by omega), o1 q (by omega)]
  refine ⟨m7, rfl, fr_tr (fr_tr f1 (fr_tr f2 f3)) (fr_tr f4 (fr_tr f5 (fr_tr f6 f7))), ?_⟩
  refine ⟨fun k hk => ?_, ?_, ?_, fun k hk => ?_, fun f hf => ?_, ?_, fun k hk => ?_, ?_, ?_, ?_, ?_⟩
  · rw [j7, j6, j5, j4, j3, j2, j1]
    exact p1 k hk
  · show _ = z ((aC A + 1 : Nat) : Int)
    rw [r7, if_neg (by decide), r6, if_neg (by decide), r5, if_pos rfl, z_add]
    rfl
  · show _ = z ((aX A + 1 : Nat) : Int)
    rw [r7, if_neg (by decide), r6, if_pos rfl, z_add]
    rfl
  · have hk' : k < aC A + 1 := hk
    show m7.1 2 k = z ((if k = aC A then aX A else aNu A k : Nat) : Int) ∧ m7.1 3 k = z ((if k = aC A then c else aCe A k : Nat) : Int) ∧ m7.1 4 k = z ((if k = aC A then v else aNa A k : Nat) : Int) ∧ m7.1 5 k = z (if k = aC A then -1 else aPa A k)
    rw [g2, g3, g4, g5]
    by_cases e : k = aC A
    · rw [if_pos e, if_pos e, if_pos e, if_pos e, if_pos e, if_pos e, if_pos e, if_pos e]
      exact ⟨rfl, rfl, rfl, rfl⟩
    · rw [if_neg e, if_neg e, if_neg e, if_neg e, if_neg e, if_neg e, if_neg e, if_neg e]
      exact p4 k (by omega)
  · show m7.1 7 f = _ ∧ ∀ b, _ → m7.1 6 (12 * f + b) = _
    rw [g 7 (by omega), g 6 (by omega)]
    exact p5 f hf
  · rw [k1 _ (by decide) (by decide) (by decide)]
    exact p6
  · show m7.1 8 k = _
    rw [g 8 (by omega)]
    exact p7 k hk
  · rw [k1 _ (by decide) (by decide) (by decide)]
    exact p8
  · show _ = aBr A + z (v : Int)
    rw [r7, if_pos rfl, r6, if_neg (by decide), r5, if_neg (by decide), b1, p9]
  · rw [k1 _ (by decide) (by decide) (by decide)]
    exact p10
  · rw [k1 _ (by decide) (by decide) (by decide)]
    exact p11
/-- only who is whose partner changes -/
theorem repC_pa (h : repC 1 m A) {m' : pmI} {pa : Nat → Int} (e : ∀ q, ¬ q = 5 → m'.1 q = m.1 q) (ej : m'.2 = m.2) (e5 : ∀ k, k < aC A → m'.1 5 k = z (pa k)) : repC 1 m' (uPa A pa) := by
  obtain ⟨p1, p2, p3, p4, p5, p6, p7, p8⟩ := h
  unfold repC
  rw [ej, e 1 (by decide), e 2 (by decide), e 3 (by decide), e 4 (by decide), e 6 (by decide), e 7 (by decide), e 8 (by decide)]
  exact ⟨p1, p2, p3, fun k hk => ⟨(p4 k hk).1, (p4 k hk).2.1, (p4 k hk).2.2.1, e5 k hk⟩, p5, p6, p7, p8⟩
theorem c_separate (h : repC 1 m A) (w : wfA A) (hn : 20 ≤ n) {k : Nat} (hk : k < aC A) : ∃ m', fX6_separate_1 n (z (k : Int)) m = some m' ∧ fr cS m m' ∧ repC 1 m' (uPa A (pSep A k)) := by
  have w1 := w.1
  have w3 := w.2.2.1
  have hx := w.2.1
  have hp := (h.2.2.2.1 k hk).2.2.2
  unfold fX6_separate_1
  rw [a_5 (by omega), obind, hp]
  have hr := pa_rg w hk
  by_cases e : aPa A k = -1
  · rw [e, if_pos rfl]
    refine ⟨m, rfl, fr_rf, ?_⟩
    unfold pSep
    rw [if_pos e]
    exact h
  · obtain ⟨j, j1, j2, j3, j4⟩ := slot_pa w hk e
    rw [if_neg (zne (by omega)), c_slotOf h w hn (by omega), obind, j3, oz_s, s_5 (by omega), obind]
    obtain ⟨m1, e1, f1, y1, o1, r1⟩ := c_w m (q := 5) (by omega) j (z (-1))
    rw [e1, s_5 (by omega), obind]
    obtain ⟨m2, e2, f2, y2, o2, r2⟩ := c_w m1 (q := 5) (by omega) k (z (-1))
    rw [e2]
    refine ⟨m2, rfl, fr_tr f1 f2, repC_pa h (fun q hq => (o2 q hq).trans (o1 q hq)) (y2.trans y1) (fun i hi => ?_)⟩
    unfold pSep
    rw [if_neg e, r2, r1, j3]
    by_cases e1 : i = k
    · rw [if_pos e1, if_pos e1]
    · rw [if_neg e1, if_neg e1]
      by_cases e2 : i = j
      · rw [if_pos e2, if_pos (by rw [e2])]
      · rw [if_neg e2, if_neg (fun h => e2 (Option.some.inj h))]
        exact (h.2.2.2.1 i hi).2.2.2
theorem c_bind (h : repC 1 m A) (w : wfA A) (hn : 20 ≤ n) {a b : Int} {i j : Nat} (ha : slot A a = some i) (hb : slot A b = some j) : ∃ m', fX6_bind_1 n (z a) (z b) m = some m' ∧ fr cS m m' ∧ repC 1 m' (uPa A (pPair A i j a b)) := by
  have w1 := w.1
  have hx := w.2.1
  have hi := slot_lt ha
  have hj := slot_lt hb
  have ri := w.2.2.1 i hi.1
  have rj := w.2.2.1 j hj.1
  unfold fX6_bind_1
  rw [c_slotOf h w hn (by omega), obind, ha, oz_s, s_5 (by omega), obind]
  obtain ⟨m1, e1, f1, y1, o1, r1⟩ := c_w m (q := 5) (by omega) i (z b)
  have h1 : repC 1 m1 (uPa A (fun k => if k = i then b else aPa A k)) := repC_pa h o1 y1 (fun t ht => by
    rw [r1]
    by_cases e : t = i
    · rw [if_pos e, if_pos e]
    · rw [if_neg e, if_neg e]
      exact (h.2.2.2.1 t ht).2.2.2)
  have q2 : fX6_slotOf_1 n (z b) m1 = some (z (j : Int)) := by
    have s1 : fX6_slotOf_1 n (z b) m1 = fX6_slotOf_1 n (z b) m := by
      have l1 : ∀ k i, lX6_slotOf_1_l2 n (z b) m1 k i = lX6_slotOf_1_l2 n (z b) m k i := by
        intro k
        induction k with
        | zero => intro i; rfl
        | succ k ih =>
          intro i
          show bX6_slotOf_1_l2 n (z b) m1 (lX6_slotOf_1_l2 n (z b) m1 k) i = bX6_slotOf_1_l2 n (z b) m (lX6_slotOf_1_l2 n (z b) m k) i
          unfold bX6_slotOf_1_l2 fX8_at_2
          rw [o1 1 (by decide), o1 2 (by decide), show lX6_slotOf_1_l2 n (z b) m1 k = lX6_slotOf_1_l2 n (z b) m k from funext ih]
      unfold fX6_slotOf_1
      rw [l1]
    rw [s1, c_slotOf h w hn (by omega), hb, oz_s]
  rw [e1, q2, obind, s_5 (by omega), obind]
  obtain ⟨m2, e2, f2, y2, o2, r2⟩ := c_w m1 (q := 5) (by omega) j (z a)
  rw [e2]
  refine ⟨m2, rfl, fr_tr f1 f2, repC_pa h (fun q hq => (o2 q hq).trans (o1 q hq)) (y2.trans y1) (fun t ht => ?_)⟩
  unfold pPair
  rw [r2, r1]
  by_cases e1 : t = j
  · rw [if_pos e1, if_pos e1]
  · rw [if_neg e1, if_neg e1]
    by_cases e2 : t = i
    · rw [if_pos e2, if_pos e2]
    · rw [if_neg e2, if_neg e2]
      exact (h.2.2.2.1 t ht).2.2.2
theorem c_countPaired (h : repC 1 m A) (w : wfA A) (hn : 20 ≤ n) : fX6_countPaired_1 n m = some (z ((cnt (fun k => decide (¬ aPa A k = -1)) (aC A) : Nat) : Int)) := by
  have w1 := w.1
  have L := cntl (lX6_countPaired_1_l4 n m) (aC A) (fun k => decide (¬ aPa A k = -1)) (fun k i c hi => by
    show bX6_countPaired_1_l4 n m (lX6_countPaired_1_l4 n m k) _ _ = _
    unfold bX6_countPaired_1_l4
    have hp := pa_rg w hi
    rw [h.2.1, if_pos (zlt (by omega)), a_5 (by omega), obind, (h.2.2.2.1 i hi).2.2.2, z_add, z_add]
    by_cases e : aPa A i = -1
    · rw [e, if_pos rfl, if_neg (by simp)]
      rfl
    · rw [if_neg (zne (by omega)), if_pos (decide_eq_true e)]
      rfl) (fun k c => by
    show bX6_countPaired_1_l4 n m (lX6_countPaired_1_l4 n m k) _ _ = _
    unfold bX6_countPaired_1_l4
    rw [h.2.1, if_neg (zge (by omega))]) (aC A) 0 n (by omega) (by omega)
  unfold fX6_countPaired_1
  rw [show z 0 = z ((0 : Nat) : Int) from rfl]
  exact (congrArg (fun o => Option.bind o (fun w4 => some w4)) L)
theorem c_sumOfNails (h : repC 1 m A) (w : wfA A) (hn : 20 ≤ n) : fX6_sumOfNails_1 n m = some (z ((nsum (aNa A) (aC A) : Nat) : Int)) := by
  have w1 := w.1
  have L := suml (lX6_sumOfNails_1_l4 n m) (aC A) (aNa A) (fun k i c hi => by
    show bX6_sumOfNails_1_l4 n m (lX6_sumOfNails_1_l4 n m k) _ _ = _
    unfold bX6_sumOfNails_1_l4
    rw [h.2.1, if_pos (zlt (by omega)), a_4 (by omega), obind, (h.2.2.2.1 i hi).2.2.1, z_add, z_add]
    rfl) (fun k c => by
    show bX6_sumOfNails_1_l4 n m (lX6_sumOfNails_1_l4 n m k) _ _ = _
    unfold bX6_sumOfNails_1_l4
    rw [h.2.1, if_neg (zge (by omega))]) (aC A) 0 n (by omega) (by omega)
  unfold fX6_sumOfNails_1
  exact (congrArg (fun o => Option.bind o (fun w4 => some w4)) L)
theorem c_fillNails (h : repC 1 m A) (w : wfA A) {k : Nat} (hk : k < aC A) : ∃ m', fX6_fillNails_1 (z (k : Int)) m = some (z (aNa A k : Int), m') ∧ fr cS m m' ∧ repC 1 m' (uMo (uD A (aC A) (aX A) (aNu A) (aCe A) (fun i => if i = k then 20 else aNa A i) (aPa A)) (aLo A) (aBr A) (aGi A + (z 20 - z (aNa A k))) (aGo A)) := by
  have w1 := w.1
  obtain ⟨p1, p2, p3, p4, p5, p6, p7, p8, p9, p10, p11⟩ := h
  unfold fX6_fillNails_1
  rw [a_4 (by omega), obind, (p4 k hk).2.2.1, s_4 (by omega), obind]
  obtain ⟨m1, e1, f1, j1, o1, r1⟩ := c_w m (q := 4) (by omega) k (z 20)
  rw [e1, pmLet_eq]
  obtain ⟨m2, e2, f2, j2, o2, r2⟩ := c_w m1 (q := 1) (by omega) 13 (m1.1 1 13 + (z 20 - z (aNa A k)))
  rw [e2]
  have k1 : ∀ b, ¬ b = 13 → m2.1 1 b = m.1 1 b := fun b hb => by rw [r2, if_neg hb, o1 1 (by decide)]
  have g : ∀ q, ¬ q = 1 → ¬ q = 4 → m2.1 q = m.1 q := fun q h1 h2 => by rw [o2 q h1, o1 q h2]
  refine ⟨m2, rfl, fr_tr f1 f2, ?_⟩
  refine ⟨fun k hk => ?_, ?_, ?_, fun i hi => ?_, fun f hf => ?_, ?_, fun i hi => ?_, ?_, ?_, ?_, ?_⟩
  · rw [j2, j1]
    exact p1 k hk
  · rw [k1 _ (by decide)]; exact p2
  · rw [k1 _ (by decide)]; exact p3
  · have hi' : i < aC A := hi
    show m2.1 2 i = _ ∧ m2.1 3 i = _ ∧ m2.1 4 i = z ((if i = k then 20 else aNa A i : Nat) : Int) ∧ m2.1 5 i = _
    rw [g 2 (by decide) (by decide), g 3 (by decide) (by decide), g 5 (by decide) (by decide), o2 4 (by decide), r1]
    refine ⟨(p4 i hi').1, (p4 i hi').2.1, ?_, (p4 i hi').2.2.2⟩
    by_cases e : i = k
    · rw [if_pos e, if_pos e]
      rfl
    · rw [if_neg e, if_neg e]
      exact (p4 i hi').2.2.1
  · show m2.1 7 f = _ ∧ ∀ b, _ → m2.1 6 (12 * f + b) = _
    rw [g 7 (by decide) (by decide), g 6 (by decide) (by decide)]
    exact p5 f hf
  · rw [k1 _ (by decide)]; exact p6
  · show m2.1 8 i = _
    rw [g 8 (by decide) (by decide)]
    exact p7 i hi
  · rw [k1 _ (by decide)]; exact p8
  · rw [k1 _ (by decide)]; exact p9
  · show m2.1 1 13 = aGi A + (z 20 - z (aNa A k))
    rw [r2, if_pos rfl, o1 1 (by decide), p10]
  · rw [k1 _ (by decide)]; exact p11
end OPS5

