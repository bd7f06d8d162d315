/-! the class: figures and exits -/
section OPS7
variable {m : pmI} {A : Ab} {n : Nat}
theorem c_figF {f : Int} (hf : -2147483648 ≤ f ∧ f < 2147483648) (m : pmI) : fX8_figureFault (z f) m = some (if figB f = true then z 0 else z 1) := by
  unfold fX8_figureFault
  simp (disch := omega) only [z_lt]
  by_cases hg : 0 ≤ f ∧ f < 6
  · rw [if_neg (by omega), if_pos (by omega), if_pos (figB_t hg)]
  · rw [if_neg (show ¬ figB f = true by rw [figB_f hg]; decide)]
    by_cases h0 : f < 0
    · rw [if_pos h0]
    · rw [if_neg h0, if_neg (by omega)]
theorem c_movesIn (h : repC 1 m A) {f : Nat} (hf : f < 6) : fX6_movesIn_1 (z (f : Int)) m = some (z (aFl A f)) := by
  unfold fX6_movesIn_1
  rw [a_7 hf, obind, (h.2.2.2.2.1 f hf).1]
theorem c_moveAt (h : repC 1 m A) (w : wfA A) {f b : Nat} (hf : f < 6) (hb : b < aFl A f) : fX6_moveAt_1 (z (f : Int)) (z (b : Int)) m = some (z (aFm A f b)) := by
  have w12 := (w.2.2.2.2.2.1 f hf).1
  unfold fX6_moveAt_1
  rw [z_mul, z_add, show (f : Int) * 12 + (b : Int) = ((12 * f + b : Nat) : Int) by omega, a_6 (by omega), obind, (h.2.2.2.2.1 f hf).2 b hb]
theorem pmLt_z : ∀ v : Nat, v < 5 → pmLt v = z (letr v) := by decide
theorem c_moveIndex (hn : 20 ≤ n) {c : Int} (hc : -2147483648 ≤ c ∧ c < 2147483648) (m : pmI) : fX8_moveIndex n (z c) m = some (z (oz (mvIx c))) := by
  unfold fX8_moveIndex
  have e := srch (lX8_moveIndex_l2 n (z c) m) 5 (fun k => decide (letr k = c)) (fun k => z (k : Int)) (fun k i hi => by
    show bX8_moveIndex_l2 n (z c) m (lX8_moveIndex_l2 n (z c) m k) (z (i : Int)) = _
    unfold bX8_moveIndex_l2
    have hl : -2147483648 ≤ letr i ∧ letr i < 2147483648 := by
      unfold letr
      split
      · omega
      · split
        · omega
        · split
          · omega
          · split <;> omega
    rw [if_pos (zlt (by omega)), if_pos (okI_z (by omega)), z_natI (by omega), Int.toNat_natCast, pmLt_z i hi, z_add]
    simp (disch := omega) only [z_eq, decide_eq_true_eq]) (fun k => by
    show bX8_moveIndex_l2 n (z c) m (lX8_moveIndex_l2 n (z c) m k) (z ((5 : Nat) : Int)) = _
    unfold bX8_moveIndex_l2
    rw [if_neg (zge (by omega))]) 5 0 n (by omega) (by omega)
  rw [show z 0 = z ((0 : Nat) : Int) from rfl, e]
  have e2 : ff (fun k => decide (letr k = c)) 5 0 = mvIx c := by
    show (if decide ((85 : Int) = c) = true then some 0 else if decide ((68 : Int) = c) = true then some 1 else if decide ((76 : Int) = c) = true then some 2 else if decide ((82 : Int) = c) = true then some 3 else if decide ((83 : Int) = c) = true then some 4 else none) = _
    unfold mvIx
    simp only [decide_eq_true_eq, eq_comm (a := (85 : Int)), eq_comm (a := (68 : Int)), eq_comm (a := (76 : Int)), eq_comm (a := (82 : Int)), eq_comm (a := (83 : Int))]
  rw [e2]
  cases mvIx c <;> rfl
/-- only figures change -/
theorem repC_fg (h : repC 1 m A) {m' : pmI} {fl : Nat → Nat} {fm : Nat → Nat → Nat} (e : ∀ q, ¬ q = 6 → ¬ q = 7 → m'.1 q = m.1 q) (ej : m'.2 = m.2) (e5 : ∀ f, f < 6 → m'.1 7 f = z (fl f) ∧ ∀ b, b < fl f → m'.1 6 (12 * f + b) = z (fm f b)) : repC 1 m' (uFg A fl fm) := by
  obtain ⟨p1, p2, p3, p4, p5, p6, p7, p8⟩ := h
  unfold repC
  rw [ej, e 1 (by decide) (by decide), e 2 (by decide) (by decide), e 3 (by decide) (by decide), e 4 (by decide) (by decide), e 5 (by decide) (by decide), e 8 (by decide) (by decide)]
  exact ⟨p1, p2, p3, p4, e5, p6, p7, p8⟩
theorem c_append (h : repC 1 m A) (w : wfA A) {f v : Nat} (hf : f < 6) (hl : aFl A f < 12) : ∃ m', fX6_appendMove_1 (z (f : Int)) (z (v : Int)) m = some m' ∧ fr cS m m' ∧ repC 1 m' (uFg A (fun g => if g = f then aFl A f + 1 else aFl A g) (fun g b => if g = f ∧ b = aFl A f then v else aFm A g b)) := by
  unfold fX6_appendMove_1
  rw [c_movesIn h hf, obind, z_mul, z_add, show (f : Int) * 12 + (aFl A f : Int) = ((12 * f + aFl A f : Nat) : Int) by omega, s_6 (by omega), obind]
  obtain ⟨m1, e1, f1, j1, o1, r1⟩ := c_w m (q := 6) (by omega) (12 * f + aFl A f) (z (v : Int))
  rw [e1, s_7 hf, obind]
  obtain ⟨m2, e2, f2, j2, o2, r2⟩ := c_w m1 (q := 7) (by omega) f (z (aFl A f) + z 1)
  rw [e2]
  refine ⟨m2, rfl, fr_tr f1 f2, repC_fg h (fun q h1 h2 => (o2 q h2).trans (o1 q h1)) (j2.trans j1) (fun g hg => ?_)⟩
  have w12 := (w.2.2.2.2.2.1 g hg).1
  rw [r2, o1 7 (by decide), o2 6 (by decide)]
  by_cases e : g = f
  · rw [if_pos e, if_pos e]
    refine ⟨by rw [z_add]; rfl, fun b hb => ?_⟩
    rw [r1]
    by_cases e2 : b = aFl A f
    · rw [if_pos (by omega), if_pos ⟨e, e2⟩]
    · rw [if_neg (by omega), if_neg (fun h => e2 h.2), e]
      exact (h.2.2.2.2.1 f hf).2 b (by omega)
  · rw [if_neg e, if_neg e]
    refine ⟨(h.2.2.2.2.1 g hg).1, fun b hb => ?_⟩
    rw [r1, if_neg (by omega), if_neg (fun h => e h.1)]
    exact (h.2.2.2.2.1 g hg).2 b hb
theorem c_empty (h : repC 1 m A) {f : Nat} (hf : f < 6) : ∃ m', fX6_emptyFigure_1 (z (f : Int)) m = some m' ∧ fr cS m m' ∧ repC 1 m' (uFg A (fun g => if g = f then 0 else aFl A g) (aFm A)) := by
  unfold fX6_emptyFigure_1
  rw [s_7 hf, obind]
  obtain ⟨m2, e2, f2, j2, o2, r2⟩ := c_w m (q := 7) (by omega) f (z 0)
  rw [e2]
  refine ⟨m2, rfl, f2, repC_fg h (fun q h1 h2 => o2 q h2) j2 (fun g hg => ?_)⟩
  rw [r2, o2 6 (by decide)]
  by_cases e : g = f
  · rw [if_pos e, if_pos e]
    exact ⟨rfl, fun b hb => absurd hb (Nat.not_lt_zero _)⟩
  · rw [if_neg e, if_neg e]
    exact h.2.2.2.2.1 g hg
theorem c_hasExit (h : repC 1 m A) (w : wfA A) (hn : 20 ≤ n) {d : Int} (hd : -2147483648 ≤ d ∧ d < 2147483648) : fX6_hasExitAt_1 n (z d) m = some (if xspot A d = none then z 0 else z 1) := by
  have w6 := w.2.2.2.2.2.2.1
  have w7 := w.2.2.2.2.2.2.2.1
  obtain ⟨p1, p2, p3, p4, p5, p6, p7, p8⟩ := h
  unfold fX6_hasExitAt_1
  have e := srch (lX6_hasExitAt_1_l2 n (z d) m) (aEn A) (fun k => decide ((aEx A k : Int) = d)) (fun _ => z 1) (fun k i hi => by
    show bX6_hasExitAt_1_l2 n (z d) m (lX6_hasExitAt_1_l2 n (z d) m k) (z (i : Int)) = _
    unfold bX6_hasExitAt_1_l2
    have hw := w7 i hi
    rw [p6, if_pos (zlt (by omega)), a_8 (by omega), obind, show m.1 8 i = z (aEx A i) from p7 i hi, z_add]
    simp (disch := omega) only [z_eq, decide_eq_true_eq]) (fun k => by
    show bX6_hasExitAt_1_l2 n (z d) m (lX6_hasExitAt_1_l2 n (z d) m k) (z (aEn A : Int)) = _
    unfold bX6_hasExitAt_1_l2
    rw [p6, if_neg (zge (by omega))]) (aEn A) 0 n (by omega) (by omega)
  rw [show z 0 = z ((0 : Nat) : Int) from rfl, e]
  unfold xspot
  cases ff (fun k => decide ((aEx A k : Int) = d)) (aEn A) 0 <;> rfl
/-- only exits change -/
theorem repC_ex (h : repC 1 m A) {m' : pmI} {en : Nat} {ex : Nat → Nat} (e : ∀ q, ¬ q = 1 → ¬ q = 8 → m'.1 q = m.1 q) (e1 : ∀ b, ¬ b = 9 → m'.1 1 b = m.1 1 b) (ej : m'.2 = m.2) (e9 : m'.1 1 9 = z (en : Int)) (e5 : ∀ k, k < en → m'.1 8 k = z (ex k)) : repC 1 m' (uEx A en ex) := by
  obtain ⟨p1, p2, p3, p4, p5, p6, p7, p8⟩ := h
  unfold repC
  rw [ej, e1 1 (by decide), e1 2 (by decide), e1 11 (by decide), e1 12 (by decide), e1 13 (by decide), e1 14 (by decide), e 2 (by decide) (by decide), e 3 (by decide) (by decide), e 4 (by decide) (by decide), e 5 (by decide) (by decide), e 6 (by decide) (by decide), e 7 (by decide) (by decide)]
  exact ⟨p1, p2, p3, p4, p5, e9, e5, p8⟩
theorem c_open (h : repC 1 m A) (h6 : aEn A < 6) {c : Nat} : ∃ m', fX6_openExit_1 (z (c : Int)) m = some m' ∧ fr cS m m' ∧ repC 1 m' (uEx A (aEn A + 1) (fun k => if k = aEn A then c else aEx A k)) := by
  have p6 := h.2.2.2.2.2.1
  have p7 := h.2.2.2.2.2.2.1
  unfold fX6_openExit_1
  rw [p6, s_8 h6, obind]
  obtain ⟨m1, e1, f1, j1, o1, r1⟩ := c_w m (q := 8) (by omega) (aEn A) (z (c : Int))
  rw [e1]
  obtain ⟨m2, e2, f2, j2, o2, r2⟩ := c_w m1 (q := 1) (by omega) 9 (m1.1 1 9 + z 1)
  rw [e2]
  refine ⟨m2, rfl, fr_tr f1 f2, repC_ex h (fun q h1 h2 => (o2 q h1).trans (o1 q h2)) (fun b hb => by rw [r2, if_neg hb, o1 1 (by decide)]) (j2.trans j1) ?_ (fun k hk => ?_)⟩
  · rw [r2, if_pos rfl, o1 1 (by decide), p6, z_add]
    rfl
  · rw [o2 8 (by decide), r1]
    by_cases e : k = aEn A
    · rw [if_pos e, if_pos e]
    · rw [if_neg e, if_neg e]
      exact p7 k (by omega)
theorem c_close (h : repC 1 m A) (w : wfA A) (hn : 20 ≤ n) {k : Nat} (hk : k < aEn A) : ∃ m', fX6_closeExit_1 n (z (k : Int)) m = some m' ∧ fr cS m m' ∧ repC 1 m' (uEx A (aEn A - 1) (sh k (aEx A))) := by
  have w6 := w.2.2.2.2.2.2.1
  have p6 := h.2.2.2.2.2.1
  have p7 : ∀ b, b < aEn A → m.1 8 b = z (aEx A b) := h.2.2.2.2.2.2.1
  unfold fX6_closeExit_1
  rw [z_add]
  have L := forI (lX6_closeExit_1_l4 n) (aEn A) (fun i s => k + 1 ≤ i ∧ fr cS m s ∧ s.2 = m.2 ∧ (∀ q, ¬ q = 8 → s.1 q = m.1 q) ∧ ∀ b, s.1 8 b = if k ≤ b ∧ b + 1 < i then m.1 8 (b + 1) else m.1 8 b) (fun r => ∃ s, r = some s ∧ fr cS m s ∧ s.2 = m.2 ∧ (∀ q, ¬ q = 8 → s.1 q = m.1 q) ∧ ∀ b, s.1 8 b = if k ≤ b ∧ b + 1 < aEn A then m.1 8 (b + 1) else m.1 8 b) (fun q i s hi hs => by
    obtain ⟨s0, s1, s2, s3, s4⟩ := hs
    obtain ⟨t1, y1, f1, j1, o1, r1⟩ := c_w s (q := 8) (by omega) (i - 1) (s.1 8 i)
    refine ⟨t1, ⟨by omega, fr_tr s1 f1, by rw [j1, s2], fun q hq => by rw [o1 q hq, s3 q hq], shl_step s0 s4 r1⟩, ?_⟩
    show bX6_closeExit_1_l4 n (lX6_closeExit_1_l4 n q) (z (i : Int)) s = _
    unfold bX6_closeExit_1_l4
    have i6 : i - 1 < 6 := by omega
    rw [show s.1 1 9 = z (aEn A) by rw [s3 1 (by decide), p6], if_pos (zlt (by omega)), z_sub, show (i : Int) - 1 = ((i - 1 : Nat) : Int) by omega, a_8 (by omega), obind, s_8 i6, obind, y1, z_add]) (fun q s hs => by
    obtain ⟨s0, s1, s2, s3, s4⟩ := hs
    refine ⟨s, ?_, s1, s2, s3, s4⟩
    show bX6_closeExit_1_l4 n (lX6_closeExit_1_l4 n q) (z (aEn A : Int)) s = _
    unfold bX6_closeExit_1_l4
    rw [show s.1 1 9 = z (aEn A) by rw [s3 1 (by decide), p6], if_neg (zge (by omega))]) (aEn A - (k + 1)) (k + 1) n m (by omega) (by omega) ⟨Nat.le_refl _, fr_rf, rfl, fun _ _ => rfl, fun b => by rw [if_neg (by omega)]⟩
  obtain ⟨m1, e1, f1, j1, o1, r1⟩ := L
  rw [show (k : Int) + 1 = ((k + 1 : Nat) : Int) from rfl, e1, obind]
  obtain ⟨m2, e2, f2, j2, o2, r2⟩ := c_w m1 (q := 1) (by omega) 9 (m1.1 1 9 - z 1)
  rw [e2]
  refine ⟨m2, rfl, fr_tr f1 f2, repC_ex h (fun q h1 h2 => (o2 q h1).trans (o1 q h2)) (fun b hb => by rw [r2, if_neg hb, o1 1 (by decide)]) (j2.trans j1) ?_ (fun i hi => ?_)⟩
  · rw [r2, if_pos rfl, o1 1 (by decide), p6, z_sub]
    congr 1
    omega
  · rw [o2 8 (by decide), sh_row (f := fun b => (aEx A b : Int)) r1 p7 hi]
    unfold sh
    by_cases e : i < k
    · rw [if_pos e, if_pos e]
    · rw [if_neg e, if_neg e]
end OPS7

