/-! what the class answers, call by call -/
section QRY
variable {n : Nat} {m : pmI} {W : Wd}
theorem y_dancers (h : cInv m W) : fX8_dancers m = some (z (aC (wA W))) := by
  unfold fX8_dancers
  rw [h.1.2.1]
theorem y_exits (h : cInv m W) : fX8_exits m = some (z (aEn (wA W))) := by
  unfold fX8_exits
  rw [h.1.2.2.2.2.2.1]
theorem y_lost (h : cInv m W) : fX8_lostNails m = some (aLo (wA W)) := by
  unfold fX8_lostNails
  rw [h.1.2.2.2.2.2.2.2.1]
theorem y_lostP (h : cInv m W) (hn : 200 ≤ n) : fX8_lostNailsByParts n m = some (aLo (wA W)) := by
  have p := h.1.2.2.2.2.2.2.2
  have wm := h.2.1.2.2.2.2.2.2.2.2.2.2
  unfold fX8_lostNailsByParts fX6_lostByParts_1
  rw [c_sumOfNails h.1 h.2.1 (by omega), obind, obind, p.2.1, p.2.2.1, p.2.2.2, wm]
theorem y_byNails (h : cInv m W) (hn : 200 ≤ n) {k : Int} (hk : -2147483648 ≤ k ∧ k < 2147483648) : fL_dancerByNails_0 n (z k) m = some (match byRank (wA W) k with | some i => (z (aNu (wA W) i : Int), m, 0) | none => (z (-900001), m, 1)) := by
  unfold fL_dancerByNails_0 fX8_dancerByNails
  rw [c_numberAtRank (n := n) h.1 h.2.1 (by omega) hk, obind]
  cases hs : byRank (wA W) k with
  | none =>
    dsimp only
    rw [if_pos rfl, obind, oT_r, if_pos rfl]
  | some i =>
    have hi := h.2.1.2.2.1 i (byRank_lt hs).1
    have hx := h.2.1.2.1
    dsimp only
    rw [if_neg (zne (by omega)), obind, oT_l]
theorem y_byNails_at (h : cInv m W) (hn : 200 ≤ n) {k i : Nat} (hi : i < aC (wA W)) (hk : byRank (wA W) (k : Int) = some i) (hk8 : k < aC (wA W)) : fL_dancerByNails_0 n (z (k : Int)) m = some (z (aNu (wA W) i : Int), m, 0) := by
  have w1 := h.2.1.1
  rw [y_byNails h hn (by omega), hk]
section AT
variable {j : Nat} (h : cInv m W) (hn : 200 ≤ n) (hj : j < aC (wA W))
theorem y_nu (h : cInv m W) (hj : j < aC (wA W)) : -2147483648 ≤ (aNu (wA W) j : Int) ∧ (aNu (wA W) j : Int) < 2147483648 := by
  have h1 := (h.2.1.2.2.1 j hj).1
  have h2 := h.2.1.2.1
  omega
theorem y_column (h : cInv m W) (hn : 200 ≤ n) (hj : j < aC (wA W)) : fX8_column n (z (aNu (wA W) j : Int)) m = some (.inl (z ((aCe (wA W) j % 8 : Nat) : Int)), m) := by
  have hx := y_nu h hj
  have w1 := h.2.1.1
  unfold fX8_column
  rw [c_presence (n := n) h.1 h.2.1 (by omega) hx, obind, slot_at h.2.1 hj, if_neg (Option.some_ne_none j), tf0, obind, oT_l, c_slotOf (n := n) h.1 h.2.1 (by omega) hx, obind, slot_at h.2.1 hj, oz_s, a_3 (by omega), obind, (h.1.2.2.2.1 j hj).2.1]
  unfold fX8_columnOf
  rw [obind, z_and7 _ (h.2.1.2.2.1 j hj).2.1]
theorem y_row (h : cInv m W) (hn : 200 ≤ n) (hj : j < aC (wA W)) : fX8_row n (z (aNu (wA W) j : Int)) m = some (.inl (z ((aCe (wA W) j / 8 : Nat) : Int)), m) := by
  have hx := y_nu h hj
  have w1 := h.2.1.1
  unfold fX8_row
  rw [c_presence (n := n) h.1 h.2.1 (by omega) hx, obind, slot_at h.2.1 hj, if_neg (Option.some_ne_none j), tf0, obind, oT_l, c_slotOf (n := n) h.1 h.2.1 (by omega) hx, obind, slot_at h.2.1 hj, oz_s, a_3 (by omega), obind, (h.1.2.2.2.1 j hj).2.1]
  unfold fX8_rowOf
  rw [obind, z_div8 _ (h.2.1.2.2.1 j hj).2.1]
theorem y_nails (h : cInv m W) (hn : 200 ≤ n) (hj : j < aC (wA W)) : fX8_nails n (z (aNu (wA W) j : Int)) m = some (.inl (z (aNa (wA W) j : Int)), m) := by
  have hx := y_nu h hj
  have w1 := h.2.1.1
  unfold fX8_nails
  rw [c_presence (n := n) h.1 h.2.1 (by omega) hx, obind, slot_at h.2.1 hj, if_neg (Option.some_ne_none j), tf0, obind, oT_l, c_slotOf (n := n) h.1 h.2.1 (by omega) hx, obind, slot_at h.2.1 hj, oz_s, a_4 (by omega), obind, (h.1.2.2.2.1 j hj).2.2.1]
theorem y_present (h : cInv m W) (hn : 200 ≤ n) (hj : j < aC (wA W)) : fX8_isPresent n (z (aNu (wA W) j : Int)) m = some (z 1) := by
  have hx := y_nu h hj
  have w1 := h.2.1.1
  unfold fX8_isPresent
  rw [c_slotOf (n := n) h.1 h.2.1 (by omega) hx, obind, slot_at h.2.1 hj, oz_s, if_neg (zne (by omega))]
theorem y_partner (h : cInv m W) (hn : 200 ≤ n) (hj : j < aC (wA W)) : fL_partner_0 n (z (aNu (wA W) j : Int)) m = some (if aPa (wA W) j = -1 then (z (-900001), m, 1) else (z (aPa (wA W) j), m, 0)) := by
  have hx := y_nu h hj
  have w1 := h.2.1.1
  have rj := pa_rg h.2.1 hj
  unfold fL_partner_0 fX8_partner
  rw [c_presence (n := n) h.1 h.2.1 (by omega) hx, obind, slot_at h.2.1 hj, if_neg (Option.some_ne_none j), tf0, obind, oT_l, c_partnerOf (n := n) h.1 h.2.1 (by omega) hx, obind, slot_at h.2.1 hj]
  dsimp only
  by_cases e : aPa (wA W) j = -1
  · rw [if_pos (show z (aPa (wA W) j) = z (-1) by rw [e]), if_pos e, obind, oT_r, if_pos rfl]
  · rw [if_neg (zne (by omega)), if_neg e, obind, oT_l]
end AT
theorem isC_of {c : Nat} (hc : c < 64) : isC ((c % 8 : Nat) : Int) ((c / 8 : Nat) : Int) := ⟨by omega, by omega⟩
theorem cxy (c : Nat) : 8 * ((c / 8 : Nat) : Int) + ((c % 8 : Nat) : Int) = (c : Int) := by omega
theorem y_free (h : cInv m W) (hn : 200 ≤ n) {c : Nat} (hc : c < 64) : fX8_isFree n (z ((c % 8 : Nat) : Int)) (z ((c / 8 : Nat) : Int)) m = some (.inl (if aP (wA W) c = true ∨ ¬ spot (wA W) c = none then z 0 else z 1), m) := by
  unfold fX8_isFree
  rw [(c_cell (by omega) (by omega) m).1 (isC_of hc), obind, tf0, obind, oT_l, f_cellAt, obind, cxy, c_isOpen (n := n) h.1 h.2.1 (by omega) hc, obind]
  split
  · rw [if_pos (Or.inl rfl)]
  · rw [if_pos (Or.inr rfl)]
/-- the size of a cell's area -/
def szA (A : Ab) (c : Nat) : Nat := if aP A c = true then 0 else cnt (K (aP A) c) 64
theorem y_size (h : cInv m W) (hn : 200 ≤ n) {c : Nat} (hc : c < 64) : ∃ m', fX8_areaSize n (z ((c % 8 : Nat) : Int)) (z ((c / 8 : Nat) : Int)) m = some (.inl (z (szA (wA W) c : Int)), m') ∧ cInv m' W := by
  obtain ⟨m', e, -, i⟩ := c_areaSize (n := n) h (by omega) (x := ((c % 8 : Nat) : Int)) (y := ((c / 8 : Nat) : Int)) (by omega) (by omega)
  have eq : qSize (wA W) ((c % 8 : Nat) : Int) ((c / 8 : Nat) : Int) = (0, (szA (wA W) c : Int)) := by
    unfold qSize szA
    rw [if_pos (isCb_t (isC_of hc)), cxy, Int.toNat_natCast]
    split <;> rfl
  rw [eq] at e
  exact ⟨m', e, i⟩
theorem y_areas (h : cInv m W) (hn : 200 ≤ n) : ∃ m', fX8_areas n m = some (z ((cnt (lead (aP (wA W))) 64 : Nat) : Int), m') ∧ cInv m' W := by
  obtain ⟨m1, e1, f1⟩ := c_areas (n := n) (m := m) (by omega) (m.2 1 0)
  rw [lead_congr h.1.1] at e1
  unfold fX8_areas
  rw [e1, obind]
  exact ⟨m1, rfl, cInv_a h f1⟩
theorem y_unions (h : cInv m W) (hn : 200 ≤ n) : ∃ m', fX8_areasByUnions n m = some (z ((cnt (lead (aP (wA W))) 64 : Nat) : Int), m') ∧ cInv m' W := by
  obtain ⟨m1, e1, f1⟩ := c_unions (n := n) (m := m) (by omega) (m.2 1 0)
  rw [lead_congr h.1.1] at e1
  unfold fX8_areasByUnions
  rw [e1, obind]
  exact ⟨m1, rfl, cInv_a h f1⟩
theorem y_consistent (h : cInv m W) (hn : 200 ≤ n) : fX8_isConsistent n m = some (z 1) := by
  have wm := h.2.1.2.2.2.2.2.2.2.2.2.2
  have p := h.1.2.2.2.2.2.2.2
  unfold fX8_isConsistent
  rw [c_stage (n := n) h.1 h.2.1 (by omega), obind, if_neg z10, c_dancersOk (n := n) h.1 h.2.1 (by omega), obind, if_neg z10, c_figs (n := n) h.1 h.2.1 (by omega), obind, if_neg z10]
  unfold fX6_lostByParts_1
  rw [c_sumOfNails (n := n) h.1 h.2.1 (by omega), obind, obind, p.1, p.2.1, p.2.2.1, p.2.2.2, if_pos wm]
/-- an answer, or an exception told as a number -/
theorem y_cost (h : cInv m W) (hn : 200 ≤ n) : ∃ m', fL_exitCost_0 n m = some (if (qCost (wA W)).1 = 0 then (z (qCost (wA W)).2, m', 0) else (z (-900001), m', 1)) ∧ cInv m' W := by
  obtain ⟨m', e, -, i⟩ := c_exitCost (n := n) h (by omega)
  refine ⟨m', ?_, i⟩
  unfold fL_exitCost_0
  rw [e, obind]
  by_cases c : (qCost (wA W)).1 = 0
  · rw [if_pos c, if_pos c, oT_l]
  · rw [if_neg c, if_neg c, oT_r, if_pos rfl]
theorem y_pot (h : cInv m W) (hn : 200 ≤ n) : ∃ m', fL_exitCostByPotentials_0 n m = some (if (qCost (wA W)).1 = 0 then (z (qCost (wA W)).2, m', 0) else (z (-900001), m', 1)) ∧ cInv m' W := by
  obtain ⟨m', e, -, i⟩ := c_exitPot (n := n) h (by omega)
  refine ⟨m', ?_, i⟩
  unfold fL_exitCostByPotentials_0
  rw [e, obind]
  by_cases c : (qCost (wA W)).1 = 0
  · rw [if_pos c, if_pos c, oT_l]
  · rw [if_neg c, if_neg c, oT_r, if_pos rfl]
theorem y_dist (h : cInv m W) (hn : 200 ≤ n) {d x y : Int} (hd : -2147483648 ≤ d ∧ d < 2147483648) (hx : -2147483648 ≤ x ∧ x < 2147483648) (hy : -2147483648 ≤ y ∧ y < 2147483648) : ∃ m' t w, fL_distance_0 n (z d) (z x) (z y) m = some (t, m', w) ∧ cInv m' W ∧ w ≤ 1 ∧ ((qDist (wA W) d x y).1 = 0 → t = z (qDist (wA W) d x y).2 ∧ w = 0) := by
  obtain ⟨m', e, -, i⟩ := c_distance (n := n) h (by omega) hd hx hy
  unfold fL_distance_0
  rw [e, obind]
  rcases qDist_c (wA W) d x y with c | c | c
  · rw [if_pos c, oT_l]
    exact ⟨m', _, 0, rfl, i, by omega, fun _ => ⟨rfl, rfl⟩⟩
  · rw [c, if_neg (by decide), oT_r]
    exact ⟨m', _, 1, rfl, i, by omega, fun h => absurd h (by decide)⟩
  · rw [c, if_neg (by decide), oT_r]
    exact ⟨m', _, 1, rfl, i, by omega, fun h => absurd h (by decide)⟩
end QRY
