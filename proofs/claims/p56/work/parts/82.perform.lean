/-! figures: the law's calls -/
def sPerf (A : Ab) (f d : Int) : Int × Int × Ab := if figB f = true then (match slot A d with
  | none => (2, 0, A)
  | some k => if (dRun A f.toNat k).1 < aFl A f.toNat then (3, 0, A) else (0, ((dRun A f.toNat k).2.2 : Int), (dRun A f.toNat k).2.1)) else (1, 0, A)
def qBeat (A : Ab) (f d : Int) : Int × Int := if figB f = true then (match slot A d with
  | none => (2, 0)
  | some k => if (dRun A f.toNat k).1 < aFl A f.toNat then (0, ((dRun A f.toNat k).1 : Int)) else (2, 0)) else (1, 0)
def fcP (c : Int) : Int := if c = 0 then 0 else if c = 1 then 1 else if c = 2 then 4 else 5
def exP (c : Int) : Nat := if c = 1 then 0 else if c = 2 then 3 else 4
def exBt (c : Int) : Nat := if c = 1 then 0 else 3
theorem run_ok {A : Ab} (w : wfA A) {f k : Nat} (hk : k < aC A) (hf : f < 6) : DR A k (par A k) (dRun A f k).2.1 (dRun A f k).2.2 ∧ wfA (dRun A f k).2.1 ∧ (dRun A f k).1 ≤ 12 ∧ (dRun A f k).2.2 ≤ 24 := by
  have h12 := (w.2.2.2.2.2.1 f hf).1
  obtain ⟨h1, h2, h3, h4⟩ := dan_ok (fm := aFm A f) (par_two w hk) (d := aFl A f) (b := 0) (c := 0) DR_0 w
  exact ⟨h1, h2, by show (dDan k (par A k) (aFm A f) (aFl A f) 0 A 0).1 ≤ 12; omega, by show (dDan k (par A k) (aFm A f) (aFl A f) 0 A 0).2.2 ≤ 24; omega⟩
theorem DR_x {A0 A : Ab} {k c : Nat} {o : Option Nat} (h : DR A0 k o A c) : aX A = aX A0 ∧ aC A = aC A0 := by
  obtain ⟨ce, na, rfl, -⟩ := h
  exact ⟨rfl, rfl⟩
theorem sPerf_ok {A : Ab} (w : wfA A) (f d : Int) : sOk A (sPerf A f d) 3 := by
  unfold sPerf
  by_cases hf : 0 ≤ f ∧ f < 6
  · rw [if_pos (figB_t hf)]
    cases hs : slot A d with
    | none => exact sOk1 (by omega)
    | some k =>
      dsimp only
      split
      · exact sOk1 (by omega)
      · refine sOk0 ?_
        have := (DR_x (run_ok w (slot_lt hs).1 (show f.toNat < 6 by omega)).1).1
        omega
  · rw [if_neg (by rw [figB_f hf]; decide)]
    exact sOk1 (by omega)
theorem qBeat_c (A : Ab) (f d : Int) : (qBeat A f d).1 = 0 ∨ (qBeat A f d).1 = 1 ∨ (qBeat A f d).1 = 2 := by
  unfold qBeat
  split
  · split
    · exact Or.inr (Or.inr rfl)
    · split
      · exact Or.inl rfl
      · exact Or.inr (Or.inr rfl)
  · exact Or.inr (Or.inl rfl)
section PERF
variable {m : pmI} {A : Ab} {n : Nat} {W : Wd}
theorem cInv_p {m' : pmI} (h : cInv m W) (f : pfr m m') : cInv m' W := cInv_fr h (fun i hi => f i (by omega))
theorem cOut_p {m' : pmI} (f : pfr m m') : cOut m m' := fun i hi => f i (by omega)
theorem fr_p {m' : pmI} (f : pfr m m') : fr cS m m' := fun i hi => by
  have : ¬ ((1 ≤ i ∧ i ≤ 8) ∨ (91 ≤ i ∧ i ≤ 106)) := of_decide_eq_false hi
  exact f i (by omega)
theorem c_show {A0 : Ab} {k c : Nat} {o : Option Nat} (h : repC 1 m A0) (w0 : wfA A0) (t : Two A0 k o) (hD : DR A0 k o A c) (hg : gR m A k o c) : ∃ m', fX5_showOn_97_1 m = some m' ∧ fr cS m m' ∧ repC 1 m' A ∧ m'.1 97 7 = z (c : Int) := by
  have w1 := w0.1
  have hk8 : k < 8 := by have := t.1; omega
  obtain ⟨ce, na, rfl, hD2⟩ := hD
  obtain ⟨⟨g0, g1⟩, ⟨g2, g3⟩, g4, g5, -⟩ := hg
  have g2 : m.1 97 2 = z (ce k : Int) := g2
  have g3 : m.1 97 3 = z (na k : Int) := g3
  unfold fX5_showOn_97_1
  obtain ⟨m1, e1, f1, j1, o1, r1⟩ := c_w m (q := 3) (by omega) k (z (ce k : Int))
  obtain ⟨m2, e2, f2, j2, o2, r2⟩ := c_w m1 (q := 4) (by omega) k (z (na k : Int))
  have k97 : m2.1 97 = m.1 97 := by rw [o2 97 (by decide), o1 97 (by decide)]
  rw [g0, g2, s_3 hk8, obind, e1, o1 97 (by decide), g0, g3, s_4 hk8, obind, e2, k97, g1]
  cases o with
  | none =>
    obtain ⟨m3, e3, f3, j3, o3, r3⟩ := c_w m2 (q := 1) (by omega) 11 (m2.1 1 11 + z (c : Int))
    rw [oz_n, if_pos rfl, g5, e3]
    refine ⟨m3, rfl, fr_tr f1 (fr_tr f2 f3), repC_mv h (fun q q1 q3 q4 _ => by rw [o3 q q1, o2 q q4, o1 q q3]) (fun b hb => by rw [r3, if_neg hb, o2 1 (by decide), o1 1 (by decide)]) (by rw [j3, j2, j1]) (fun i hi => ?_) (fun i hi => ?_) ?_, by rw [o3 97 (by decide), k97, g5]⟩
    · rw [o3 3 (by decide), o2 3 (by decide), r1]
      by_cases e : i = k
      · rw [if_pos e, e]
      · rw [if_neg e, (hD2 i hi e (fun g => (nomatch g))).1]
        exact (h.2.2.2.1 i hi).2.1
    · rw [o3 4 (by decide), r2]
      by_cases e : i = k
      · rw [if_pos e, e]
      · rw [if_neg e, o1 4 (by decide), (hD2 i hi e (fun g => (nomatch g))).2]
        exact (h.2.2.2.1 i hi).2.2.1
    · rw [r3, if_pos rfl, o2 1 (by decide), o1 1 (by decide), h.2.2.2.2.2.2.2.1]
  | some j =>
    obtain ⟨hj, hjk⟩ := t.2 j rfl
    have hj8 : j < 8 := by omega
    obtain ⟨g6, g7⟩ := g4 j rfl
    have g6 : m.1 97 4 = z (ce j : Int) := g6
    have g7 : m.1 97 5 = z (na j : Int) := g7
    obtain ⟨m3, e3, f3, j3, o3, r3⟩ := c_w m2 (q := 3) (by omega) j (z (ce j : Int))
    obtain ⟨m4, e4, f4, j4, o4, r4⟩ := c_w m3 (q := 4) (by omega) j (z (na j : Int))
    obtain ⟨m5, e5, f5, j5, o5, r5⟩ := c_w m4 (q := 1) (by omega) 11 (m4.1 1 11 + z (c : Int))
    rw [oz_s, if_neg (zne (by omega)), g6, s_3 hj8, obind, e3, o3 97 (by decide), k97, g1, oz_s, g7, s_4 hj8, obind, e4, o4 97 (by decide), o3 97 (by decide), k97, g5, e5]
    refine ⟨m5, rfl, fr_tr f1 (fr_tr f2 (fr_tr f3 (fr_tr f4 f5))), repC_mv h (fun q q1 q3 q4 _ => by rw [o5 q q1, o4 q q4, o3 q q3, o2 q q4, o1 q q3]) (fun b hb => by rw [r5, if_neg hb, o4 1 (by decide), o3 1 (by decide), o2 1 (by decide), o1 1 (by decide)]) (by rw [j5, j4, j3, j2, j1]) (fun i hi => ?_) (fun i hi => ?_) ?_, by rw [o5 97 (by decide), o4 97 (by decide), o3 97 (by decide), k97, g5]⟩
    · rw [o5 3 (by decide), o4 3 (by decide), r3]
      by_cases e' : i = j
      · rw [if_pos e', e']
      · rw [if_neg e', o2 3 (by decide), r1]
        by_cases e : i = k
        · rw [if_pos e, e]
        · rw [if_neg e, (hD2 i hi e (fun g => e' (Option.some.inj g))).1]
          exact (h.2.2.2.1 i hi).2.1
    · rw [o5 4 (by decide), r4]
      by_cases e' : i = j
      · rw [if_pos e', e']
      · rw [if_neg e', o3 4 (by decide), r2]
        by_cases e : i = k
        · rw [if_pos e, e]
        · rw [if_neg e, o1 4 (by decide), (hD2 i hi e (fun g => e' (Option.some.inj g))).2]
          exact (h.2.2.2.1 i hi).2.2.1
    · rw [r5, if_pos rfl, o4 1 (by decide), o3 1 (by decide), o2 1 (by decide), o1 1 (by decide), h.2.2.2.2.2.2.2.1]
theorem c_performF (h : repC 1 m A) (w : wfA A) (hn : 100 ≤ n) {f d : Int} (hf : -2147483648 ≤ f ∧ f < 2147483648) (hd : -2147483648 ≤ d ∧ d < 2147483648) : ∃ m', fX8_performFault n (z f) (z d) m = some (z (fcP (sPerf A f d).1), m') ∧ pfr m m' := by
  unfold fX8_performFault sPerf
  rw [c_figF hf, obind]
  by_cases hg : 0 ≤ f ∧ f < 6
  · obtain ⟨g, rfl⟩ : ∃ g : Nat, f = (g : Int) := ⟨f.toNat, by omega⟩
    have hg6 : g < 6 := by omega
    rw [if_pos (figB_t hg), if_pos (figB_t hg), if_pos rfl, c_presence (n := n) h w (by omega) hd, obind, Int.toNat_natCast]
    cases hs : slot A d with
    | none =>
      rw [if_pos rfl, if_neg (by decide)]
      exact ⟨m, rfl, pfr_rf⟩
    | some k =>
      obtain ⟨m1, e1, g1, f1⟩ := c_first h w hn hg6 hd hs
      have ok := run_ok w (slot_lt hs).1 hg6
      rw [if_neg (Option.some_ne_none k), if_pos rfl, e1, obind]
      dsimp only
      by_cases hl : (dRun A g k).1 < aFl A g
      · rw [if_pos hl, if_pos hl, if_neg (zne (by omega))]
        exact ⟨m1, rfl, f1⟩
      · rw [if_neg hl, if_neg hl, if_pos rfl]
        exact ⟨m1, rfl, f1⟩
  · rw [if_neg (show ¬ figB f = true by rw [figB_f hg]; decide), if_neg (show ¬ figB f = true by rw [figB_f hg]; decide), if_neg z10]
    exact ⟨m, rfl, pfr_rf⟩
theorem c_performNow (h : repC 1 m A) (w : wfA A) (hn : 100 ≤ n) {f k : Nat} {d : Int} (hf : f < 6) (hd : -2147483648 ≤ d ∧ d < 2147483648) (hs : slot A d = some k) (hl : ¬ (dRun A f k).1 < aFl A f) : ∃ m', fX8_performNow n (z (f : Int)) (z d) m = some (z ((dRun A f k).2.2 : Int), m') ∧ fr cS m m' ∧ repC 1 m' (dRun A f k).2.1 := by
  obtain ⟨m1, e1, g1, f1⟩ := c_first h w hn hf hd hs
  have ok := run_ok w (slot_lt hs).1 hf
  obtain ⟨m2, e2, f2, r2, v2⟩ := c_show (repC_p h f1) w (par_two w (slot_lt hs).1) ok.1 g1
  unfold fX8_performNow
  rw [e1, obind]
  dsimp only
  rw [if_neg hl, if_pos rfl, e2, obind, v2]
  exact ⟨m2, rfl, fr_tr (fr_p f1) f2, r2⟩
theorem c_perform (h : cInv m W) (hn : 100 ≤ n) {f d : Int} (hf : -2147483648 ≤ f ∧ f < 2147483648) (hd : -2147483648 ≤ d ∧ d < 2147483648) : cRes m W (fX8_perform n (z f) (z d) m) (sPerf (wA W) f d) exP := by
  have w := h.2.1
  obtain ⟨m0, e0, f0⟩ := c_performF (n := n) h.1 w hn hf hd
  have h0 := cInv_p h f0
  unfold fX8_perform
  rw [e0, obind]
  dsimp only
  unfold sPerf
  by_cases hg : 0 ≤ f ∧ f < 6
  · obtain ⟨g, rfl⟩ : ∃ g : Nat, f = (g : Int) := ⟨f.toNat, by omega⟩
    have hg6 : g < 6 := by omega
    rw [if_pos (figB_t hg), Int.toNat_natCast]
    cases hs : slot (wA W) d with
    | none =>
      refine cRes_ex (by decide) ?_ (cOut_p f0) h0
      show (fX8_throwFor (z 4) m0).bind _ = _
      rw [tf4]
      rfl
    | some k =>
      dsimp only
      by_cases hl : (dRun (wA W) g k).1 < aFl (wA W) g
      · rw [if_pos hl]
        refine cRes_ex (by decide) ?_ (cOut_p f0) h0
        show (fX8_throwFor (z 5) m0).bind _ = _
        rw [tf5]
        rfl
      · rw [if_neg hl]
        obtain ⟨m1, e1, i1, o1⟩ := c_remember h0
        obtain ⟨m2, e2, f2, r2⟩ := c_performNow (n := n) i1.1 w hn hg6 hd hs hl
        have r2 : repC 1 m2 (dRun (wA W) g k).2.1 := r2
        refine cRes_ok (m' := m2) ?_ (cOut_tr (cOut_p f0) (cOut_tr (cOut_hi o1) (cOut_fr f2))) (cInv_st i1 f2 r2 (run_ok w (slot_lt hs).1 hg6).2.1)
        show (fX8_throwFor (z 0) m0).bind _ = _
        rw [tf0, obind, oT_l, e1, obind, e2, obind]
        rfl
  · rw [if_neg (show ¬ figB f = true by rw [figB_f hg]; decide)]
    refine cRes_ex (by decide) ?_ (cOut_p f0) h0
    show (fX8_throwFor (z 1) m0).bind _ = _
    rw [tf1]
    rfl
theorem c_blocked (h : cInv m W) (hn : 100 ≤ n) {f d : Int} (hf : -2147483648 ≤ f ∧ f < 2147483648) (hd : -2147483648 ≤ d ∧ d < 2147483648) : cQ m W (fX8_blockedBeat n (z f) (z d) m) (qBeat (wA W) f d).1 (z (qBeat (wA W) f d).2) (exBt (qBeat (wA W) f d).1) := by
  have w := h.2.1
  unfold fX8_blockedBeat qBeat
  rw [c_figF hf, obind]
  by_cases hg : 0 ≤ f ∧ f < 6
  · obtain ⟨g, rfl⟩ : ∃ g : Nat, f = (g : Int) := ⟨f.toNat, by omega⟩
    have hg6 : g < 6 := by omega
    rw [if_pos (figB_t hg), if_pos (figB_t hg), tf0, obind, oT_l, c_presence (n := n) h.1 w (by omega) hd, obind, Int.toNat_natCast]
    cases hs : slot (wA W) d with
    | none =>
      rw [if_pos rfl, tf4]
      exact ⟨m, rfl, cOut_rf, h⟩
    | some k =>
      obtain ⟨m1, e1, g1, f1⟩ := c_first (n := n) h.1 w hn hg6 hd hs
      have ok := run_ok w (slot_lt hs).1 hg6
      rw [if_neg (Option.some_ne_none k), tf0, obind, oT_l, e1, obind]
      dsimp only
      by_cases hl : (dRun (wA W) g k).1 < aFl (wA W) g
      · rw [if_pos hl, if_pos hl, if_neg (zne (by omega))]
        exact ⟨m1, rfl, cOut_p f1, cInv_p h f1⟩
      · rw [if_neg hl, if_neg hl, if_pos rfl]
        exact ⟨m1, rfl, cOut_p f1, cInv_p h f1⟩
  · rw [if_neg (show ¬ figB f = true by rw [figB_f hg]; decide), if_neg (show ¬ figB f = true by rw [figB_f hg]; decide), tf1]
    exact ⟨m, rfl, cOut_rf, h⟩
end PERF

