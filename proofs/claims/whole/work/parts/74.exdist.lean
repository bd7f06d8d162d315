/-! exit distances, on both sides -/
def qExit (A : Ab) (d e : Int) : Int × Int := match slot A d with
  | none => (1, 0)
  | some k => if 0 ≤ e ∧ e < (aEn A : Int) then (match dst (clo A false) (aCe A k) (aEx A e.toNat) with
    | none => (1, 0)
    | some l => (0, (l : Int))) else (2, 0)
theorem qExit_c (A : Ab) (d e : Int) : (qExit A d e).1 = 0 ∨ (qExit A d e).1 = 1 ∨ (qExit A d e).1 = 2 := by
  unfold qExit
  split
  · exact Or.inr (Or.inl rfl)
  · split
    · split
      · exact Or.inr (Or.inl rfl)
      · exact Or.inl rfl
    · exact Or.inr (Or.inr rfl)
section EXD
variable {m : pmI} {A : Ab} {n : Nat} {W : Wd}
theorem c_exitG (h : repC 1 m A) (w : wfA A) {e : Int} (he : -2147483648 ≤ e ∧ e < 2147483648) : fX8_exitFault (z e) m = some (if 0 ≤ e ∧ e < (aEn A : Int) then z 0 else z 1) := by
  have w7 := w.2.2.2.2.2.2.1
  unfold fX8_exitFault
  rw [h.2.2.2.2.2.1]
  by_cases h0 : 0 ≤ e
  · rw [if_neg (zge (by omega))]
    by_cases h1 : e < (aEn A : Int)
    · rw [if_pos (zlt (by omega)), if_pos ⟨h0, h1⟩]
    · rw [if_neg (zge (by omega)), if_neg (fun h => h1 h.2)]
  · rw [if_pos (zlt (by omega)), if_neg (fun h => h0 h.1)]
/-- the lengths from a cell, other dancers do not matter -/
theorem c_far (h : repC 1 m A) (hn : 100 ≤ n) {s : Nat} (hs : s < 64) : ∃ m', fX7_searchBreadthFirst_94 n (z (s : Int)) (m.2 1 0) m = some m' ∧ (∀ c, c < 64 → m'.1 95 c = z (oz (dst (clo A false) s c))) ∧ wfr m m' := by
  obtain ⟨m1, f, e1, hf, hr, f1⟩ := c_bfs (n := n) (m := m) hn hs (m.2 1 0)
  refine ⟨m1, e1, fun c hc => ?_, f1⟩
  rw [hr c hc, Dst_dst hs (fun c hc _ => ?_) hf hc]
  rw [h.1 c hc]
  unfold clo
  rw [Bool.false_and, Bool.or_false]
theorem c_exitDistance (h : cInv m W) (hn : 100 ≤ n) {d e : Int} (hd : -2147483648 ≤ d ∧ d < 2147483648) (he : -2147483648 ≤ e ∧ e < 2147483648) : cQ m W (fX8_exitDistance n (z d) (z e) m) (qExit (wA W) d e).1 (z (qExit (wA W) d e).2) (exD (qExit (wA W) d e).1) := by
  unfold fX8_exitDistance qExit
  rw [c_presence (n := n) h.1 h.2.1 (by omega) hd, obind]
  cases hs : slot (wA W) d with
  | none =>
    rw [if_pos rfl, tf4]
    exact ⟨m, rfl, cOut_rf, h⟩
  | some k =>
    have hk := (slot_lt hs).1
    have w1 := h.2.1.1
    have hs64 := (h.2.1.2.2.1 k hk).2.1
    have w7 := h.2.1.2.2.2.2.2.2.1
    rw [if_neg (Option.some_ne_none k), tf0, obind, oT_l, c_exitG h.1 h.2.1 he, obind]
    try dsimp only
    by_cases hc : 0 ≤ e ∧ e < (aEn (wA W) : Int)
    · obtain ⟨i, rfl⟩ : ∃ i : Nat, e = (i : Int) := ⟨e.toNat, by omega⟩
      have hi : i < aEn (wA W) := by omega
      have he64 := h.2.1.2.2.2.2.2.2.2.1 i hi
      obtain ⟨m1, e1, r1, f1⟩ := c_far (n := n) h.1 hn hs64
      have h1 := repC_w h.1 f1
      rw [if_pos hc, if_pos hc, tf0, obind, oT_l, c_slotOf (n := n) h.1 h.2.1 (by omega) hd, obind, hs, oz_s, a_3 (by omega), obind, (h.1.2.2.2.1 k hk).2.1, e1, obind, a_8 (by omega), obind, h1.2.2.2.2.2.2.1 i hi]
      unfold fX7_lengthTo_94
      rw [a_95 he64, obind, obind, r1 _ he64, Int.toNat_natCast]
      cases hq : dst (clo (wA W) false) (aCe (wA W) k) (aEx (wA W) i) with
      | none =>
        rw [oz_n, if_pos rfl]
        exact ⟨m1, rfl, cOut_w f1, cInv_w h f1⟩
      | some l =>
        have := dst_le hq
        rw [oz_s, if_neg (zne (by omega))]
        exact ⟨m1, rfl, cOut_w f1, cInv_w h f1⟩
    · rw [if_neg hc, if_neg hc, tf1]
      exact ⟨m, rfl, cOut_rf, h⟩
theorem mm_exitDistance (w0 : wfA (wA W)) (hn : 700000 ≤ n) {d e : Int} (hd : -2147483648 ≤ d ∧ d < 2147483648) (he : -2147483648 ≤ e ∧ e < 2147483648) : mQ W W (fX9_exitDistance n (z d) (z e)) (qExit (wA W) d e).1 (z (qExit (wA W) d e).2) := fun m1 h1 => by
  unfold fX9_exitDistance qExit
  rw [m_at (n := n) h1.1 w0 (by omega) hd, obind]
  cases hs : slot (wA W) d with
  | none =>
    obtain ⟨m2, e2, t2, o2, i2⟩ := mQ_thr (c := 1) h1
    unfold jX9_exitDistance_14
    rw [oz_n, if_pos (zlt (by omega)), e2, obind]
    try dsimp only
    rw [if_neg z10]
    exact ⟨m2, rfl, t2, o2, i2⟩
  | some k =>
    have hk := (slot_lt hs).1
    have w1 := w0.1
    have w7 := w0.2.2.2.2.2.2.1
    have hs64 := (w0.2.2.1 k hk).2.1
    obtain ⟨m2, e2, t2, o2, i2⟩ := mQ_fin 1 h1
    unfold jX9_exitDistance_14 jX9_exitDistance_35
    rw [oz_s, if_neg (zge (by omega)), e2, obind]
    try dsimp only
    rw [if_pos rfl, m_isExit i2.1 w0 he, obind]
    by_cases hc : 0 ≤ e ∧ e < (aEn (wA W) : Int)
    · obtain ⟨i, rfl⟩ : ∃ i : Nat, e = (i : Int) := ⟨e.toNat, by omega⟩
      have hi : i < aEn (wA W) := by omega
      have he64 := w0.2.2.2.2.2.2.2.1 i hi
      obtain ⟨m3, e3, t3, o3, i3⟩ := mQ_fin 2 i2
      obtain ⟨m4, e4, r4, f4⟩ := m_reaches (n := n) (m := m3) false hs64 i3.1 w0 hn
      have e4 : fX9_reaches n (z (aCe (wA W) k : Int)) (z 0) m3 = some m4 := e4
      have x4 : m4.1 114 (182 + i) = z (aEx (wA W) i) := by rw [f4.1 114 (by decide)]; exact i3.1.2.2.2.1.2 i hi
      rw [if_pos hc, if_neg z10, e3, obind]
      try dsimp only
      rw [if_pos rfl, m_at (n := n) i3.1 w0 (by omega) hd, obind, hs, oz_s, show fX9_of (z (k : Int)) (z 1) m3 = _ from mr_of (j := 1) i3.1 hk w1 (by decide), obind, (i3.1.2.1.2.2 k hk).2.1, e4, obind, z_add, z_natI (by omega), show (182 + (i : Int)).toNat = 182 + i by omega, x4, if_pos ⟨okI_z (by omega), okI_z (by omega)⟩, z_nat (by omega), r4 _ he64, if_pos hc, Int.toNat_natCast]
      have i4 : mInv m4 W := mInv_mfr i3 (mfr_r f4) (f4.1 114 (by decide))
      have o4 : mOut m3 m4 := mOut_mfr (mfr_r f4)
      have ot : mOut m1 m4 := ⟨fun i hi => ((o4.1 i hi).trans (o3.1 i hi)).trans (o2.1 i hi), (o4.2.trans o3.2).trans o2.2⟩
      unfold jX9_exitDistance_88
      cases hq : dst (clo (wA W) false) (aCe (wA W) k) (aEx (wA W) i) with
      | none =>
        obtain ⟨m5, e5, t5, o5, i5⟩ := mQ_thr (c := 1) i4
        rw [show z (fo none) = z 9999 from rfl, if_pos rfl, e5, obind]
        try dsimp only
        rw [if_neg z10]
        exact ⟨m5, rfl, t5, ⟨fun i hi => (o5.1 i hi).trans (ot.1 i hi), o5.2.trans ot.2⟩, i5⟩
      | some l =>
        have := dst_le hq
        obtain ⟨m5, e5, t5, o5, i5⟩ := mQ_fin 1 i4
        rw [show z (fo (some l)) = z (l : Int) from rfl, if_neg (zne (by omega)), e5, obind]
        try dsimp only
        rw [if_pos rfl]
        exact ⟨m5, rfl, t5, ⟨fun i hi => (o5.1 i hi).trans (ot.1 i hi), o5.2.trans ot.2⟩, i5⟩
    · obtain ⟨m3, e3, t3, o3, i3⟩ := mQ_thr (c := 2) i2
      rw [if_neg hc, if_pos rfl, e3, obind]
      try dsimp only
      rw [if_neg z10, if_neg hc]
      exact ⟨m3, rfl, t3, ⟨fun i hi => (o3.1 i hi).trans (o2.1 i hi), o3.2.trans o2.2⟩, i3⟩
end EXD
section LAW16
variable {E : pmEv0} {n : Nat} {self : lSelf} {i5 : Int32} {m : pmI} {D : Nat → Nat → UInt64} {w k : Nat} {W : Wd}
theorem law_exitDistance (hn : 700000 ≤ n) (h : cInv m W) (hM : mInv m W) (hB : wB W k) (q1 : okI (i5 + (z 1)) E.1 = true) (q2 : okI (i5 + (z 2)) E.1 = true) : Sgo (jL_law_99998_1906 E n self i5 m D w) self i5 w k := by
  unfold jL_law_99998_1906
  obtain ⟨d, hd, ed⟩ := z_of (E.2.1 (Int32.toNatClampNeg (i5 + (z 1))))
  obtain ⟨e, he, ee⟩ := z_of (E.2.1 (Int32.toNatClampNeg (i5 + (z 2))))
  simp only [q1, q2, and_self, if_true, ed, ee]
  unfold fL_exitDistance_0_127
  have qc := qExit_c (wA W) d e
  exact law_caseQ (fm := fX9_exitDistance n (z d) (z e)) (W' := W) (l_helpQ (W' := W) (c_exitDistance (n := n) h (by omega) hd he) hM (fun m2 h0 => by
    rcases qc with e | e | e
    · exact absurd e h0
    · rw [e]; rfl
    · rw [e]; rfl)) (mm_exitDistance h.2.1 hn hd he) (fun _ => rfl) (wB_up hB (by omega)) (by omega)
end LAW16
