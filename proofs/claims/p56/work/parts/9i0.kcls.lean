/-! the class's calls that the law makes besides, on the class's side -/
section KCLS
variable {n : Nat} {m : pmI} {W : Wd}
theorem k_type (h : cInv m W) (hT : wT W < 60) {c : Nat} (hc : c < 65536) : ∃ m', fX8_type (z (c : Int)) m = some (.inl (z ((wT W + 1 : Nat) : Int)), m') ∧ cInv m' (wTy W c) := by
  obtain ⟨p1, p2, p3⟩ := h.2.2.2.2.1
  unfold fX8_type
  rw [p2]
  unfold fX4_append_107
  rw [if_pos (zlt (by omega)), p2, if_neg (zge (by omega)), if_pos (zlt (by omega)), if_pos (okI_z (by omega)), z_nat (by omega), nar_c, ch_z hc, pmLet_eq]
  obtain ⟨m1, e1, j1, o1, r1⟩ := w_1 m 108 (wT W) (z (c : Int))
  rw [e1]
  obtain ⟨m2, e2, j2, o2, r2⟩ := w_1 m1 107 1 (m1.1 107 1 + z 1)
  rw [e2, obind]
  have c2 : m2.1 107 1 = z ((wT W + 1 : Nat) : Int) := by
    rw [r2, if_pos rfl, o1 107 (by decide), p2, z_add]
    rfl
  rw [c2]
  have oo : ∀ i, i ≠ 107 → i ≠ 108 → m2.1 i = m.1 i ∧ m2.2 i = m.2 i := fun i h1 h2 => ⟨by rw [o2 i h1, o1 i h2], by rw [j2, j1]⟩
  refine ⟨m2, rfl, ?_⟩
  obtain ⟨h1, h2, h3, h4, h5, h6, h7, h8⟩ := h
  refine ⟨repC_fr h1 (fun i _ _ => oo i (by omega) (by omega)), h2, cHist_fr h3 (fun i _ _ => oo i (by omega) (by omega)), cSv_fr h4 (fun i hi => oo i (by omega) (by omega)), ⟨show wT W + 1 ≤ 60 by omega, c2, fun q hq => ?_⟩, ?_, ?_, ?_⟩
  · have hq' : q < wT W + 1 := hq
    show m2.1 108 q = z ((if q = wT W then c else wTf W q : Nat) : Int) ∧ (if q = wT W then c else wTf W q) < 65536
    rw [o2 108 (by decide), r1]
    by_cases e : q = wT W
    · rw [if_pos e, if_pos e]
      exact ⟨rfl, hc⟩
    · rw [if_neg e, if_neg e]
      exact p3 q (by omega)
  · show wL W ≤ 12 ∧ _ ∧ _
    rw [(oo 111 (by decide) (by decide)).1, (oo 112 (by decide) (by decide)).1]; exact h6
  · rw [(oo 0 (by decide) (by decide)).1]; exact h7
  · rw [(oo 0 (by decide) (by decide)).1]; exact h8
theorem k_save (h : cInv m W) : ∃ m', fX8_save m = some (z (aC (wA W) : Int), m') ∧ cInv m' (wA W, wH W, some (wA W), W.2.2.2) := by
  unfold fX8_save
  obtain ⟨m1, e1, r1, o1⟩ := c_copy (q := 9) (o := 1) (by omega) h.1 h.2.1
  rw [cp_9_1, e1, obind, pmLet_eq]
  obtain ⟨m2, e2, j2, o2, r2⟩ := w_1 m1 0 10 (z 1)
  rw [e2]
  have hC : cInv m2 (wA W, wH W, some (wA W), W.2.2.2) := cInv_mk h (fun i hi => by rw [o2 i (by omega), (o1 i (by omega)).1]) (by rw [r2, if_neg (by decide), (o1 0 (by omega)).1]) (by rw [r2, if_neg (by decide), (o1 0 (by omega)).1])
    (repC_fr h.1 (fun i _ _ => ⟨by rw [o2 i (by omega), (o1 i (by omega)).1], by rw [j2, (o1 i (by omega)).2]⟩)) h.2.1 (cHist_fr h.2.2.1 (fun i _ _ => ⟨by rw [o2 i (by omega), (o1 i (by omega)).1], by rw [j2, (o1 i (by omega)).2]⟩))
    ⟨by rw [r2, if_pos rfl], h.2.1, repC_fr r1 (fun i _ _ => ⟨o2 i (by omega), by rw [j2]⟩)⟩
  rw [hC.1.2.1]
  exact ⟨m2, rfl, hC⟩
theorem k_restore {B : Ab} (h : cInv m W) (hs : wS W = some B) : ∃ m', fX8_restore m = some (.inl (z (aC B : Int)), m') ∧ cInv m' (B, [], some B, W.2.2.2) := by
  unfold fX8_restore
  have h4 := h.2.2.2.1
  rw [hs] at h4
  rw [if_neg (show ¬ m.1 0 10 = z 0 by rw [h4.1]; decide)]
  obtain ⟨m1, e1, r1, o1⟩ := c_copy (q := 1) (o := 9) (by omega) h4.2.2 h4.2.1
  rw [cp_1_9, e1, obind, pmLet_eq]
  obtain ⟨m2, e2, j2, o2, r2⟩ := w_1 m1 25 2 (z 0)
  rw [e2]
  have hA : repC 1 m2 B := repC_fr r1 (fun i _ _ => ⟨o2 i (by omega), by rw [j2]⟩)
  obtain ⟨nx, n1, n2, n3, n4, n5⟩ := h.2.2.1
  have hC : cInv m2 (B, [], some B, W.2.2.2) := cInv_mk h (fun i hi => by rw [o2 i (by omega), (o1 i (by omega)).1]) (by rw [o2 0 (by decide), (o1 0 (by omega)).1]) (by rw [o2 0 (by decide), (o1 0 (by omega)).1]) hA h4.2.1
    ⟨nx, n1, by rw [r2, if_neg (by decide), (o1 25 (by omega)).1]; exact n2, by rw [r2, if_pos rfl]; rfl, Nat.zero_le _, fun j B hj => by cases hj⟩
    ⟨by rw [o2 0 (by decide), (o1 0 (by omega)).1]; exact h4.1, h4.2.1, repC_fr h4.2.2 (fun i _ _ => ⟨by rw [o2 i (by omega), (o1 i (by omega)).1], by rw [j2, (o1 i (by omega)).2]⟩)⟩
  rw [show m2.1 1 1 = z (aC B) from hA.2.1]
  exact ⟨m2, rfl, hC⟩
theorem k_undo0 (h : cInv m W) (hs : wH W = []) : fX8_undo m = some (.inr 2, m) := by
  unfold fX8_undo
  obtain ⟨nx, n1, n2, n3, n4, n5⟩ := h.2.2.1
  rw [hs] at n3
  rw [if_pos (show m.1 25 2 = z 0 by rw [n3]; rfl)]
theorem k_undo {A : Ab} {hs' : List Ab} (h : cInv m W) (hs : wH W = A :: hs') : ∃ m', fX8_undo m = some (.inl (z (hs'.length : Int)), m') ∧ cInv m' (A, hs', wS W, W.2.2.2) := by
  unfold fX8_undo
  have hcnt : m.1 25 2 = z ((wH W).length : Int) := by
    obtain ⟨nx, n1, n2, n3, n4, n5⟩ := h.2.2.1
    exact n3
  rw [hs, List.length_cons] at hcnt
  have hH := h.2.2.1
  rw [hs] at hH
  have l8 : hs'.length + 1 ≤ 8 := by
    obtain ⟨nx, n1, n2, n3, n4, n5⟩ := hH
    exact n4
  have wA' : wfA A := by
    obtain ⟨nx, n1, n2, n3, n4, n5⟩ := hH
    exact (n5 0 A rfl).1
  rw [if_neg (show ¬ m.1 25 2 = z 0 by rw [hcnt]; exact zne (by omega))]
  obtain ⟨m1, e1, o1, h1, r1, c1⟩ := c_pop hH
  rw [e1, obind, c1]
  exact ⟨m1, rfl, cInv_mk h (fun i hi => (o1 i (by omega) (by omega)).1) (by rw [(o1 0 (by omega) (by omega)).1]) (by rw [(o1 0 (by omega) (by omega)).1]) r1 wA' h1 (cSv_fr h.2.2.2.1 (fun i hi => o1 i (by omega) (by omega)))⟩
theorem k_writeRow (h : cInv m W) (hn : 200 ≤ n) {y : Nat} (hy : y < 8) : ∃ m', fX8_writeRow n (z (y : Int)) m = some (.inl (z 8), m') ∧ cInv m' (wLi W 8 (rowF (wA W) y 8)) := by
  unfold fX8_writeRow
  rw [f_cellFault 0 (y : Int) (by omega) (by omega), obind, if_pos (by omega), tf0, obind, oT_l]
  obtain ⟨m1, e1, i1, o1⟩ := c_lineEmpty (f := rowF (wA W) y 0) h
  obtain ⟨m2, e2, i2, o2⟩ := c_row (n := n) h (by omega) hy 8 0 n m1 (by omega) (by omega) i1
  have c2 : m2.1 111 1 = z ((8 : Nat) : Int) := i2.2.2.2.2.2.1.2.1
  rw [e1, obind, show z 0 = z ((0 : Nat) : Int) from rfl, e2, obind, c2]
  exact ⟨m2, rfl, i2⟩
/-- the line of a figure's rests -/
def figL (A : Ab) (g : Nat) : Ln := RC (aFm A g) (aFl A g) (aFl A g) 0 1 (0, fun _ => 0)
theorem k_writeFigure (h : cInv m W) (hn : 200 ≤ n) {g : Nat} (hg6 : g < 6) : ∃ m', fX8_writeFigure n (z (g : Int)) m = some (.inl (z ((figL (wA W) g).1 : Int)), m') ∧ cInv m' (wLi W (figL (wA W) g).1 (figL (wA W) g).2) := by
  unfold fX8_writeFigure
  have hg : (0 : Int) ≤ (g : Int) ∧ (g : Int) < 6 := by omega
  rw [c_figF (by omega), obind]
  have wf := h.2.1.2.2.2.2.2.1 g hg6
  rw [if_pos (figB_t hg), tf0, obind, oT_l]
  obtain ⟨m1, e1, i1, o1⟩ := c_lineEmpty (f := fun _ => 0) h
  obtain ⟨m2, e2, i2, o2, l2⟩ := c_fig (n := n) h.2.1 hg6 (aFl (wA W) g) 0 1 n m1 (0, fun _ => 0) (by omega) (by omega) (by omega) (by omega) (Nat.le_refl _) i1
  have c2 : m2.1 111 1 = z ((figL (wA W) g).1 : Int) := i2.2.2.2.2.2.1.2.1
  rw [e1, obind, c_movesIn (A := wA W) i1.1 hg6, obind, show z 0 = z ((0 : Nat) : Int) from rfl, show z 1 = z ((1 : Nat) : Int) from rfl, e2, obind, c2]
  exact ⟨m2, rfl, i2⟩
end KCLS
