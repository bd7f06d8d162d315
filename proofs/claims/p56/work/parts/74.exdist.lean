/-! exit distances, on both sides -/
def qExit (A : Ab) (d e : Int) : Int × Int := match slot A d with
  | none => (1, 0)
  | some k => if 0 ≤ e ∧ e < (aEn A : Int) then (match dst (clo A false) (aCe A k) (aEx A e.toNat) with
    | none => (1, 0)
    | some l => (0, (l : Int))) else (2, 0)
theorem qExit_c (A : Ab) (d e : Int) : (qExit A d e).1 = 0 ∨ (qExit A d e).1 = 1 ∨ (qExit A d e).1 = 2 := by
  unfold qExit
  split
  · exact Or.inr (Or.inl rfl)
  · split
    · split
      · exact Or.inr (Or.inl rfl)
      · exact Or.inl rfl
    · exact Or.inr (Or.inr rfl)
section EXD
variable {m : pmI} {A : Ab} {n : Nat} {W : Wd}
theorem c_exitG (h : repC 1 m A) (w : wfA A) {e : Int} (he : -2147483648 ≤ e ∧ e < 2147483648) : fX8_exitFault (z e) m = some (if 0 ≤ e ∧ e < (aEn A : Int) then z 0 else z 1) := by
  have w7 := w.2.2.2.2.2.2.1
  unfold fX8_exitFault
  rw [h.2.2.2.2.2.1]
  by_cases h0 : 0 ≤ e
  · rw [if_neg (zge (by omega))]
    by_cases h1 : e < (aEn A : Int)
    · rw [if_pos (zlt (by omega)), if_pos ⟨h0, h1⟩]
    · rw [if_neg (zge (by omega)), if_neg (fun h => h1 h.2)]
  · rw [if_pos (zlt (by omega)), if_neg (fun h => h0 h.1)]
/-- the lengths from a cell, other dancers do not matter -/
theorem c_far (h : repC 1 m A) (hn : 100 ≤ n) {s : Nat} (hs : s < 64) : ∃ m', fX7_searchBreadthFirst_94 n (z (s : Int)) (m.2 1 0) m = some m' ∧ (∀ c, c < 64 → m'.1 95 c = z (oz (dst (clo A false) s c))) ∧ wfr m m' := by
  obtain ⟨m1, f, e1, hf, hr, f1⟩ := c_bfs (n := n) (m := m) hn hs (m.2 1 0)
  refine ⟨m1, e1, fun c hc => ?_, f1⟩
  rw [hr c hc, Dst_dst hs (fun c hc _ => ?_) hf hc]
  rw [h.1 c hc]
  unfold clo
  rw [Bool.false_and, Bool.or_false]
theorem c_exitDistance (h : cInv m W) (hn : 100 ≤ n) {d e : Int} (hd : -2147483648 ≤ d ∧ d < 2147483648) (he : -2147483648 ≤ e ∧ e < 2147483648) : cQ m W (fX8_exitDistance n (z d) (z e) m) (qExit (wA W) d e).1 (z (qExit (wA W) d e).2) (exD (qExit (wA W) d e).1) := by
  unfold fX8_exitDistance qExit
  rw [c_presence (n := n) h.1 h.2.1 (by omega) hd, obind]
  cases hs : slot (wA W) d with
  | none =>
    rw [if_pos rfl, tf4]
    exact ⟨m, rfl, cOut_rf, h⟩
  | some k =>
    have hk := (slot_lt hs).1
    have w1 := h.2.1.1
    have hs64 := (h.2.1.2.2.1 k hk).2.1
    have w7 := h.2.1.2.2.2.2.2.2.1
    rw [if_neg (Option.some_ne_none k), tf0, obind, oT_l, c_exitG h.1 h.2.1 he, obind]
    try dsimp only
    by_cases hc : 0 ≤ e ∧ e < (aEn (wA W) : Int)
    · obtain ⟨i, rfl⟩ : ∃ i : Nat, e = (i : Int) := ⟨e.toNat, by omega⟩
      have hi : i < aEn (wA W) := by omega
      have he64 := h.2.1.2.2.2.2.2.2.2.1 i hi
      obtain ⟨m1, e1, r1, f1⟩ := c_far (n := n) h.1 hn hs64
      have h1 := repC_w h.1 f1
      rw [if_pos hc, if_pos hc, tf0, obind, oT_l, c_slotOf (n := n) h.1 h.2.1 (by omega) hd, obind, hs, oz_s, a_3 (by omega), obind, (h.1.2.2.2.1 k hk).2.1, e1, obind, a_8 (by omega), obind, h1.2.2.2.2.2.2.1 i hi]
      unfold fX7_lengthTo_94
      rw [a_95 he64, obind, obind, r1 _ he64, Int.toNat_natCast]
      cases hq : dst (clo (wA W) false) (aCe (wA W) k) (aEx (wA W) i) with
      | none =>
        rw [oz_n, if_pos rfl]
        exact ⟨m1, rfl, cOut_w f1, cInv_w h f1⟩
      | some l =>
        have := dst_le hq
        rw [oz_s, if_neg (zne (by omega))]
        exact ⟨m1, rfl, cOut_w f1, cInv_w h f1⟩
    · rw [if_neg hc, if_neg hc, tf1]
      exact ⟨m, rfl, cOut_rf, h⟩
end EXD

