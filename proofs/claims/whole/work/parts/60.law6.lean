/-! the law, call by call: dancerByNails, writeRow -/
theorem z_div {a b : Nat} (h : a < 2147483648 ∧ 0 < b ∧ b < 2147483648) : z (a : Int) / z (b : Int) = z ((a / b : Nat) : Int) := by
  have hb : z (b : Int) ≠ -1 := fun e => by
    have : z (b : Int) = z (-1) := e
    rw [z_eq (by omega)] at this
    omega
  obtain ⟨q, hq, hq2⟩ : ∃ q, a / b = q ∧ q ≤ a := ⟨_, rfl, Nat.div_le_self a b⟩
  rw [hq, ← Int32.toInt_inj, Int32.toInt_div_of_ne_right _ _ hb, z_toInt (by omega), z_toInt (by omega), z_toInt (by omega), ← hq]
  exact (Int.ofNat_tdiv a b).symm
theorem z_mod10 {a : Nat} (h : a < 2147483648) : z (a : Int) - z (a : Int) / z 10 * z 10 = z ((a % 10 : Nat) : Int) := by
  rw [show z 10 = z ((10 : Nat) : Int) from rfl, z_div (by omega), z_mul, z_sub]
  congr 1
  omega
section LAW6
variable {E : pmEv0} {n : Nat} {self : lSelf} {i5 : Int32} {m : pmI} {D : Nat → Nat → UInt64} {w k : Nat} {W : Wd}
theorem m_rank {A : Ab} (h : repR (m.1 114) A) (w : wfA A) (hn : 20 ≤ n) (u : Int32) {i : Nat} (hi : i < aC A) : lX9_dancerByNails_l17 n u (z (i : Int)) m n (z 0) (z 0) = some (z (rnk A i : Int)) := by
  have w1 := w.1
  have hni := (w.2.2.1 i hi).2.2.1
  refine cntl (lX9_dancerByNails_l17 n u (z (i : Int)) m) (aC A) (fun j => decide (aNa A j < aNa A i) || (decide (aNa A j = aNa A i) && decide (j < i))) (fun q j c hj => ?_) (fun q c => ?_) (aC A) 0 n (by omega) (by omega)
  · show bX9_dancerByNails_l17 n u (z (i : Int)) m (lX9_dancerByNails_l17 n u (z (i : Int)) m q) _ _ = _
    unfold bX9_dancerByNails_l17
    have hnj := (w.2.2.1 j hj).2.2.1
    rw [h.2.1.1, if_pos (zlt (by omega)), show z 2 = z ((2 : Nat) : Int) from rfl, mr_of h hi w1 (by decide), obind, mr_of h hj w1 (by decide), obind, (h.2.1.2.2 i hi).2.2.1, (h.2.1.2.2 j hj).2.2.1, z_sub, z_add, z_add, z_add]
    by_cases e1 : aNa A j < aNa A i
    · rw [if_pos (zlt (by omega)), if_pos (by rw [decide_eq_true e1]; rfl)]
      rfl
    · rw [if_neg (zge (by omega)), decide_eq_false e1, Bool.false_or]
      by_cases e2 : aNa A j = aNa A i
      · rw [if_pos (show z ((aNa A i : Int) - (aNa A j : Int)) = z 0 by rw [e2, Int.sub_self]), decide_eq_true e2, Bool.true_and]
        by_cases e3 : j < i
        · rw [if_pos (zlt (by omega)), if_pos (decide_eq_true e3)]
          rfl
        · rw [if_neg (zge (by omega)), if_neg (by rw [decide_eq_true_eq]; exact e3)]
          rfl
      · rw [if_neg (zne (by omega)), decide_eq_false e2, Bool.false_and, if_neg (by decide)]
        rfl
  · show bX9_dancerByNails_l17 n u (z (i : Int)) m (lX9_dancerByNails_l17 n u (z (i : Int)) m q) _ _ = _
    unfold bX9_dancerByNails_l17
    rw [h.2.1.1, if_neg (zge (by omega))]
theorem law_dancerByNails (hn : 200 ≤ n) (h : cInv m W) (hM : mInv m W) (hB : wB W k) (q1 : okI (i5 + (z 1)) E.1 = true) : Sgo (jL_law_99998_1155 E n self i5 m D w) self i5 w k := by
  have w1 := h.2.1.1
  have wx := h.2.1.2.1
  unfold jL_law_99998_1155
  obtain ⟨x, hx, ex⟩ := z_of (E.2.1 (Int32.toNatClampNeg (i5 + (z 1))))
  simp only [q1, if_true, ex]
  unfold fL_dancerByNails_0_127 fX8_dancerByNails
  rw [c_numberAtRank (n := n) h.1 h.2.1 (by omega) hx, obind]
  have key : ∀ m1, mInv m1 W → fX9_dancerByNails n (z x) m1 = match byRank (wA W) x with | some i => some (z (aNu (wA W) i : Int), (pmU m1.1 113 10 (z 0), m1.2)) | none => some (z 0, (pmU m1.1 113 10 (z 1), m1.2)) := fun m1 h1 => by
    unfold fX9_dancerByNails
    have e := srch (lX9_dancerByNails_l2 n (z x) m1) (aC (wA W)) (fun i => decide ((rnk (wA W) i : Int) = x)) (fun i => (z (aNu (wA W) i : Int), ((pmU m1.1 113 10 (z 0), m1.2) : pmI))) (fun q i hi => by
      show bX9_dancerByNails_l2 n (z x) m1 (lX9_dancerByNails_l2 n (z x) m1 q) (z (i : Int)) = _
      unfold bX9_dancerByNails_l2
      have hle : rnk (wA W) i ≤ aC (wA W) := cnt_le _ _
      rw [h1.1.2.1.1, if_pos (zlt (by omega)), m_rank (n := n) h1.1 h.2.1 (by omega) (z x) hi, obind, z_add]
      by_cases er : (rnk (wA W) i : Int) = x
      · rw [if_pos (by rw [er]), if_pos (decide_eq_true er), pmLet_eq]
        obtain ⟨m2, e2, t2, o2, i2, r2⟩ := mQ_set h1 0
        rw [e2, show fX9_of (z (i : Int)) (z 0) m2 = some (m2.1 114 (72 + 4 * i + 0)) from mr_of (j := 0) i2.1 hi w1 (by decide), obind, (show m2.1 114 (72 + 4 * i + 0) = z (aNu (wA W) i) from (i2.1.2.1.2.2 i hi).1)]
      · rw [if_neg (zne (by omega)), if_neg (by rw [decide_eq_true_eq]; exact er)]) (fun q => by
      show bX9_dancerByNails_l2 n (z x) m1 (lX9_dancerByNails_l2 n (z x) m1 q) (z (aC (wA W) : Int)) = _
      unfold bX9_dancerByNails_l2
      rw [h1.1.2.1.1, if_neg (zge (by omega))]) (aC (wA W)) 0 n (by omega) (by omega)
    rw [show z 0 = z ((0 : Nat) : Int) from rfl, e]
    unfold byRank
    cases ff (fun i => decide ((rnk (wA W) i : Int) = x)) (aC (wA W)) 0 <;> rfl
  cases hs : byRank (wA W) x with
  | none =>
    rw [hs] at key
    dsimp only
    rw [if_pos rfl]
    refine law_caseQ (c := 1) (t := z 0) (t' := z 0) (fm := fX9_dancerByNails n (z x)) (W' := W) (l_helpQ (W' := W) (ex := 3) ⟨m, rfl, cOut_rf, h⟩ hM (fun m2 _ => rfl)) (fun m1 h1 => ?_) (fun h => absurd h (by decide)) (wB_up hB (by omega)) (by omega)
    obtain ⟨m2, e2, t2, o2, i2, r2⟩ := mQ_set h1 1
    rw [key m1 h1]
    dsimp only
    rw [e2]
    exact ⟨m2, rfl, t2, o2, i2⟩
  | some i =>
    rw [hs] at key
    have hi : i < aC (wA W) := by
      have := ff_some hs
      omega
    have hnu := (h.2.1.2.2.1 i hi).1
    dsimp only
    rw [if_neg (zne (by omega))]
    refine law_caseQ (c := 0) (t := z (aNu (wA W) i)) (t' := z (aNu (wA W) i)) (fm := fX9_dancerByNails n (z x)) (W' := W) (l_helpQ (W' := W) (ex := 3) ⟨m, rfl, cOut_rf, h⟩ hM (fun m2 h => absurd rfl h)) (fun m1 h1 => ?_) (fun _ => rfl) (wB_up hB (by omega)) (by omega)
    obtain ⟨m2, e2, t2, o2, i2, r2⟩ := mQ_set h1 0
    rw [key m1 h1]
    dsimp only
    rw [e2]
    exact ⟨m2, rfl, t2, o2, i2⟩
/-- the sign of a cell -/
def sgn (A : Ab) (c : Nat) : Nat := if aP A c = true then 35 else match spot A c with | none => 46 | some j => 48 + aNu A j % 10
theorem sgn_lt (A : Ab) (c : Nat) : sgn A c < 65536 := by
  unfold sgn
  split
  · omega
  · split <;> omega
theorem c_signAt {A : Ab} (h : repC 1 m A) (w : wfA A) (hn : 20 ≤ n) {c : Nat} (hc : c < 64) : fX6_signAt_1 n (z (c : Int)) m = some (z (sgn A c : Int)) := by
  have w1 := w.1
  have wx := w.2.1
  unfold fX6_signAt_1 sgn
  rw [f_holds _ hc, obind, h.1 c hc]
  by_cases hp : aP A c = true
  · rw [if_pos hp, if_pos hp, if_neg z10]
    rfl
  · rw [if_neg hp, if_neg hp, if_pos rfl, c_slotAt h w hn (by omega), obind]
    cases hs : spot A c with
    | none =>
      rw [oz_n, if_pos rfl]
      rfl
    | some j =>
      have hj := ff_some hs
      have hnu := (w.2.2.1 j (by omega)).1
      rw [oz_s, if_neg (zne (by omega)), a_2 (by omega), obind, (h.2.2.2.1 j (by omega)).1, z_mod10 (by omega), z_add, show (48 : Int) + ((aNu A j % 10 : Nat) : Int) = ((48 + aNu A j % 10 : Nat) : Int) by omega, ch_z (by omega), nar_c, ch_z (by omega), if_pos rfl]
def wLi (W : Wd) (l : Nat) (f : Nat → Nat) : Wd := (W.1, W.2.1, W.2.2.1, W.2.2.2.1, (l, f), W.2.2.2.2.2)
/-- the class's line gets a sign -/
theorem c_put {l c : Nat} {f : Nat → Nat} (h : cInv m (wLi W l f)) (hl : l < 12) (hc : c < 65536) : ∃ m', fX3_put_111 (z (c : Int)) m = some m' ∧ cInv m' (wLi W (l + 1) (fun q => if q = l then c else f q)) ∧ cOut m m' := by
  obtain ⟨p1, p2, p3⟩ := h.2.2.2.2.2.1
  have p2' : m.1 111 1 = z (l : Int) := p2
  unfold fX3_put_111
  rw [p2', if_neg (zge (by omega)), if_pos (zlt (by omega)), if_pos (okI_z (by omega)), z_nat (by omega), nar_c, ch_z hc, pmLet_eq]
  obtain ⟨m1, e1, j1, o1, r1⟩ := w_1 m 112 l (z (c : Int))
  rw [e1]
  obtain ⟨m2, e2, j2, o2, r2⟩ := w_1 m1 111 1 (m1.1 111 1 + z 1)
  rw [e2]
  have oo : ∀ i, i ≠ 111 → i ≠ 112 → m2.1 i = m.1 i ∧ m2.2 i = m.2 i := fun i h1 h2 => ⟨by rw [o2 i h1, o1 i h2], by rw [j2, j1]⟩
  refine ⟨m2, rfl, ?_, fun i hi => oo i (by omega) (by omega)⟩
  obtain ⟨h1, h2, h3, h4, h5, h6, h7, h8⟩ := h
  refine ⟨repC_fr h1 (fun i _ _ => oo i (by omega) (by omega)), h2, cHist_fr h3 (fun i _ _ => oo i (by omega) (by omega)), cSv_fr h4 (fun i hi => oo i (by omega) (by omega)), ?_, ⟨show l + 1 ≤ 12 by omega, ?_, fun q hq => ?_⟩, ?_, ?_⟩
  · rw [(oo 107 (by decide) (by decide)).1, (oo 108 (by decide) (by decide)).1]; exact h5
  · show m2.1 111 1 = z ((l + 1 : Nat) : Int)
    rw [r2, if_pos rfl, o1 111 (by decide), p2', z_add]
    rfl
  · have hq' : q < l + 1 := hq
    show m2.1 112 q = z ((if q = l then c else f q : Nat) : Int) ∧ (if q = l then c else f q) < 65536
    rw [o2 112 (by decide), r1]
    by_cases e : q = l
    · rw [if_pos e, if_pos e]
      exact ⟨rfl, hc⟩
    · rw [if_neg e, if_neg e]
      exact p3 q (show q < l by omega)
  · rw [(oo 0 (by decide) (by decide)).1]; exact h7
  · rw [(oo 0 (by decide) (by decide)).1]; exact h8
theorem c_lineEmpty {f : Nat → Nat} (h : cInv m W) : ∃ m', fX3_empty_111 m = some m' ∧ cInv m' (wLi W 0 f) ∧ cOut m m' := by
  obtain ⟨m2, e2, j2, o2, r2⟩ := w_1 m 111 1 (z 0)
  unfold fX3_empty_111
  rw [e2]
  have oo : ∀ i, i ≠ 111 → m2.1 i = m.1 i ∧ m2.2 i = m.2 i := fun i h1 => ⟨o2 i h1, by rw [j2]⟩
  refine ⟨m2, rfl, ?_, fun i hi => oo i (by omega)⟩
  obtain ⟨h1, h2, h3, h4, h5, h6, h7, h8⟩ := h
  refine ⟨repC_fr h1 (fun i _ _ => oo i (by omega)), h2, cHist_fr h3 (fun i _ _ => oo i (by omega)), cSv_fr h4 (fun i hi => oo i (by omega)), ?_, ⟨Nat.zero_le _, ?_, fun q hq => absurd hq (Nat.not_lt_zero _)⟩, ?_, ?_⟩
  · rw [(oo 107 (by decide)).1, (oo 108 (by decide)).1]; exact h5
  · show m2.1 111 1 = z 0
    rw [r2, if_pos rfl]
  · rw [(oo 0 (by decide)).1]; exact h7
  · rw [(oo 0 (by decide)).1]; exact h8
/-- the model's line gets a sign -/
theorem m_puts {l c : Nat} {f : Nat → Nat} (h : mInv m (wLi W l f)) (hl : l < 30) : ∃ m', fX9_puts (z (c : Int)) m = some m' ∧ mInv m' (wLi W (l + 1) (fun q => if q = l then c else f q)) ∧ mOut m m' ∧ m'.1 113 10 = m.1 113 10 ∧ m'.1 114 = m.1 114 := by
  have p := h.2.2.2.2.1
  have p2 : m.1 113 18 = z (l : Int) := p.1
  unfold fX9_puts
  rw [p2, if_pos (okI_z (by omega)), z_nat (by omega), pmLet_eq]
  obtain ⟨m1, e1, j1, o1, r1⟩ := w_1 m 124 l (z (c : Int))
  rw [e1]
  obtain ⟨m2, e2, j2, o2, r2⟩ := w_1 m1 113 18 (m1.1 113 18 + z 1)
  rw [e2]
  have f2 : ∀ q, ¬ q = 18 → m2.1 113 q = m.1 113 q := fun q hq => by rw [r2, if_neg hq, o1 113 (by decide)]
  have oo : ∀ i, i ≠ 113 → i ≠ 124 → m2.1 i = m.1 i := fun i h1 h2 => by rw [o2 i h1, o1 i h2]
  obtain ⟨g1, g2, g3, g4, g5, g6, g7⟩ := h
  refine ⟨m2, rfl, ⟨by rw [oo 114 (by decide) (by decide)]; exact g1, mHist_fr g2 (oo 118 (by decide) (by decide)) (f2 9 (by decide)), mSv_fr g3 (f2 15 (by decide)) (oo 117 (by decide) (by decide)), ?_, ⟨?_, fun q hq => ?_⟩, ?_, ?_⟩, ⟨fun i hi => oo i (by omega) (by omega), by rw [j2, j1]⟩, f2 10 (by decide), oo 114 (by decide) (by decide)⟩
  · rw [f2 21 (by decide), oo 125 (by decide) (by decide)]; exact g4
  · show m2.1 113 18 = z ((l + 1 : Nat) : Int)
    rw [r2, if_pos rfl, o1 113 (by decide), p2, z_add]
    rfl
  · have hq' : q < l + 1 := hq
    show m2.1 124 q = z ((if q = l then c else f q : Nat) : Int)
    rw [o2 124 (by decide), r1]
    by_cases e : q = l
    · rw [if_pos e, if_pos e]
    · rw [if_neg e, if_neg e]
      exact g5.2 q (show q < l by omega)
  · rw [f2 11 (by decide)]; exact g6
  · rw [f2 12 (by decide)]; exact g7
theorem m_lineEmpty {f : Nat → Nat} (h : mInv m W) : ∃ m', (pmU m.1 113 18 (z 0), m.2) = m' ∧ mInv m' (wLi W 0 f) ∧ mOut m m' ∧ m'.1 113 10 = m.1 113 10 ∧ m'.1 114 = m.1 114 := by
  obtain ⟨m2, e2, j2, o2, r2⟩ := w_1 m 113 18 (z 0)
  have f2 : ∀ q, ¬ q = 18 → m2.1 113 q = m.1 113 q := fun q hq => by rw [r2, if_neg hq]
  obtain ⟨g1, g2, g3, g4, g5, g6, g7⟩ := h
  refine ⟨m2, e2, ⟨by rw [o2 114 (by decide)]; exact g1, mHist_fr g2 (o2 118 (by decide)) (f2 9 (by decide)), mSv_fr g3 (f2 15 (by decide)) (o2 117 (by decide)), ?_, ⟨?_, fun q hq => absurd hq (Nat.not_lt_zero _)⟩, ?_, ?_⟩, ⟨fun i hi => o2 i (by omega), by rw [j2]⟩, f2 10 (by decide), o2 114 (by decide)⟩
  · rw [f2 21 (by decide), o2 125 (by decide)]; exact g4
  · show m2.1 113 18 = z 0
    rw [r2, if_pos rfl]
  · rw [f2 11 (by decide)]; exact g6
  · rw [f2 12 (by decide)]; exact g7
theorem mOut_tr {m m1 m2 : pmI} (h1 : mOut m m1) (h2 : mOut m1 m2) : mOut m m2 := ⟨fun i hi => (h2.1 i hi).trans (h1.1 i hi), h2.2.trans h1.2⟩
end LAW6
