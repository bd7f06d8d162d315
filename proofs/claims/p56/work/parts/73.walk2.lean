/-! walks and exit distances, on both sides -/
def fcW (c : Int) : Int := if c = 0 then 0 else if c = 1 then 4 else if c = 2 then 1 else if c = 3 then 5 else 3
def exW (c : Int) : Nat := if c = 1 then 3 else if c = 2 then 0 else if c = 3 then 4 else 2
theorem sWalk_ok (A : Ab) (d x y : Int) : sOk A (sWalk A d x y) 4 := by
  unfold sWalk
  split
  · exact sOk1 (by omega)
  · split
    · split
      · exact sOk1 (by omega)
      · split
        · exact sOk1 (by omega)
        · exact sOk0 (Nat.le_succ _)
    · exact sOk1 (by omega)
section WALK2
variable {m : pmI} {A : Ab} {n : Nat} {W : Wd}
theorem c_walkF (h : repC 1 m A) (w : wfA A) (hn : 100 ≤ n) {d x y : Int} (hd : -2147483648 ≤ d ∧ d < 2147483648) (hx : -2147483648 ≤ x ∧ x < 2147483648) (hy : -2147483648 ≤ y ∧ y < 2147483648) : ∃ m', fX8_walkFault n (z d) (z x) (z y) m = some (z (fcW (sWalk A d x y).1), m') ∧ wfr m m' := by
  unfold fX8_walkFault sWalk
  rw [c_presence (n := n) h w (by omega) hd, obind]
  cases hs : slot A d with
  | none =>
    rw [if_pos rfl, if_neg (by decide)]
    exact ⟨m, rfl, wfr_rf⟩
  | some k =>
    have hk := (slot_lt hs).1
    have w1 := w.1
    have w3 := w.2.2.1 k hk
    rw [if_neg (Option.some_ne_none k), if_pos rfl]
    by_cases hc : isC x y
    · obtain ⟨c, hc1, hc2, hc3⟩ := isC_nat hc
      obtain ⟨m1, e1, f1⟩ := c_wlen (n := n) h w hn hd hs hc1 hc2
      have h1 := repC_w h f1
      rw [(c_cell hx hy m).1 hc, obind, if_pos rfl, e1, obind]
      try dsimp only
      rw [if_pos (isCb_t hc), hc2, Int.toNat_natCast]
      cases hq : dst (clo A true) (aCe A k) c with
      | none =>
        rw [oz_n, if_pos rfl]
        exact ⟨m1, rfl, f1⟩
      | some l =>
        have := dst_le hq
        rw [oz_s, if_neg (zne (by omega)), c_slotOf (n := n) h1 w (by omega) hd, obind, hs, oz_s, a_4 (by omega), obind, (h1.2.2.2.1 k hk).2.2.1]
        try dsimp only
        by_cases hl : aNa A k < l
        · rw [if_pos (zlt (by omega)), if_pos hl]
          exact ⟨m1, rfl, f1⟩
        · rw [if_neg (zge (by omega)), if_neg hl]
          exact ⟨m1, rfl, f1⟩
    · rw [(c_cell hx hy m).2 hc, obind, if_neg z10]
      try dsimp only
      rw [if_neg (by rw [isCb_f hc]; decide)]
      exact ⟨m, rfl, wfr_rf⟩
theorem c_walkNow (h : repC 1 m A) (w : wfA A) (hn : 100 ≤ n) {d x y : Int} {k c l : Nat} (hd : -2147483648 ≤ d ∧ d < 2147483648) (hs : slot A d = some k) (hc : c < 64) (hxy : 8 * y + x = (c : Int)) (hq : dst (clo A true) (aCe A k) c = some l) (hl : ¬ aNa A k < l) : ∃ m', fX8_walkNow n (z d) (z x) (z y) m = some m' ∧ fr cS m m' ∧ repC 1 m' (aWalk A k c l) := by
  have hk := (slot_lt hs).1
  have w1 := w.1
  have w3 := w.2.2.1 k hk
  obtain ⟨m1, e1, f1⟩ := c_wlen (n := n) h w hn hd hs hc hxy
  have h1 := repC_w h f1
  unfold fX8_walkNow
  obtain ⟨m2, e2, g2, j2, o2, r2⟩ := c_w m1 (q := 3) (by omega) k (z (c : Int))
  obtain ⟨m3, e3, g3, j3, o3, r3⟩ := c_w m2 (q := 4) (by omega) k (z ((aNa A k : Int) - (l : Int)))
  obtain ⟨m4, e4, g4, j4, o4, r4⟩ := c_w m3 (q := 1) (by omega) 11 (m3.1 1 11 + z (l : Int))
  rw [e1, obind]
  try dsimp only
  rw [c_slotOf (n := n) h1 w (by omega) hd, obind, hs, oz_s, f_cellAt, obind, hxy, s_3 (by omega), obind, e2, a_4 (by omega), obind, o2 4 (by decide), (h1.2.2.2.1 k hk).2.2.1, hq, oz_s, z_sub, s_4 (by omega), obind, e3, e4]
  refine ⟨m4, rfl, fr_tr (fr_w f1) (fr_tr g2 (fr_tr g3 g4)), ?_⟩
  refine repC_mv h1 (fun q q1 q3 q4 _ => by rw [o4 q q1, o3 q q4, o2 q q3]) (fun b hb => by rw [r4, if_neg hb, o3 1 (by decide), o2 1 (by decide)]) (by rw [j4, j3, j2]) (fun i hi => ?_) (fun i hi => ?_) ?_
  · rw [o4 3 (by decide), o3 3 (by decide), r2]
    try dsimp only
    by_cases e : i = k
    · rw [if_pos e, if_pos e]
    · rw [if_neg e, if_neg e]
      exact (h1.2.2.2.1 i hi).2.1
  · rw [o4 4 (by decide), r3]
    try dsimp only
    by_cases e : i = k
    · rw [if_pos e, if_pos e]
      congr 1
      omega
    · rw [if_neg e, if_neg e, o2 4 (by decide)]
      exact (h1.2.2.2.1 i hi).2.2.1
  · rw [r4, if_pos rfl, o3 1 (by decide), o2 1 (by decide), h1.2.2.2.2.2.2.2.1]
theorem c_walk (h : cInv m W) (hn : 100 ≤ n) {d x y : Int} (hd : -2147483648 ≤ d ∧ d < 2147483648) (hx : -2147483648 ≤ x ∧ x < 2147483648) (hy : -2147483648 ≤ y ∧ y < 2147483648) : cRes m W (fX8_walk n (z d) (z x) (z y) m) (sWalk (wA W) d x y) exW := by
  have w := h.2.1
  obtain ⟨m0, e0, f0⟩ := c_walkF (n := n) h.1 w hn hd hx hy
  have h0 := cInv_w h f0
  unfold fX8_walk
  rw [e0, obind]
  try dsimp only
  unfold sWalk
  cases hs : slot (wA W) d with
  | none =>
    refine cRes_ex (by decide) ?_ (cOut_w f0) h0
    show (fX8_throwFor (z 4) m0).bind _ = _
    rw [tf4]
    rfl
  | some k =>
    have hk := (slot_lt hs).1
    have w1 := w.1
    try dsimp only
    by_cases hc : isC x y
    · obtain ⟨c, hc1, hc2, hc3⟩ := isC_nat hc
      rw [if_pos (isCb_t hc), hc2, Int.toNat_natCast]
      cases hq : dst (clo (wA W) true) (aCe (wA W) k) c with
      | none =>
        refine cRes_ex (by decide) ?_ (cOut_w f0) h0
        show (fX8_throwFor (z 5) m0).bind _ = _
        rw [tf5]
        rfl
      | some l =>
        try dsimp only
        by_cases hl : aNa (wA W) k < l
        · rw [if_pos hl]
          refine cRes_ex (by decide) ?_ (cOut_w f0) h0
          show (fX8_throwFor (z 3) m0).bind _ = _
          rw [tf3]
          rfl
        · rw [if_neg hl]
          obtain ⟨m1, e1, i1, o1⟩ := c_remember h0
          obtain ⟨m2, e2, f2, r2⟩ := c_walkNow (n := n) i1.1 w hn hd hs hc1 hc2 hq hl
          have w2 : wfA (aWalk (wA W) k c l) := wf_walk w hk hc1 hq hl
          have r2 : repC 1 m2 (aWalk (wA W) k c l) := r2
          refine cRes_ok (m' := m2) ?_ (cOut_tr (cOut_w f0) (cOut_tr (cOut_hi o1) (cOut_fr f2))) (cInv_st i1 f2 r2 w2)
          have hs2 : slot (aWalk (wA W) k c l) d = some k := hs
          have hk2 : k < aC (aWalk (wA W) k c l) := hk
          show (fX8_throwFor (z 0) m0).bind _ = _
          rw [tf0, obind, oT_l, e1, obind, e2, obind, c_slotOf (n := n) r2 w2 (by omega) hd, obind, hs2, oz_s, a_4 (by omega), obind, (r2.2.2.2.1 k hk2).2.2.1]
          show some (Sum.inl (z ((if k = k then aNa (wA W) k - l else aNa (wA W) k : Nat) : Int)), m2) = _
          rw [if_pos rfl]
    · rw [if_neg (by rw [isCb_f hc]; decide)]
      refine cRes_ex (by decide) ?_ (cOut_w f0) h0
      show (fX8_throwFor (z 1) m0).bind _ = _
      rw [tf1]
      rfl
end WALK2

