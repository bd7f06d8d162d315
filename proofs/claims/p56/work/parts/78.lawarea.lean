/-! areas: the law's calls -/
theorem lead_congr {P Q : Nat → Bool} (h : ∀ c, c < 64 → P c = Q c) : cnt (lead P) 64 = cnt (lead Q) 64 := by
  have hk : ∀ a, a < 64 → ∀ k c, R P a k c = R Q a k c := fun a ha k => by
    induction k with
    | zero => intro c; rfl
    | succ k ih =>
      intro c
      rw [Bool.eq_iff_iff, R_s, R_s, ih c]
      constructor
      · rintro (h1 | ⟨h1, e, h2, h3, h4⟩)
        · exact Or.inl h1
        · exact Or.inr ⟨by rw [← h c (adj_lt h2 h3)]; exact h1, e, h2, h3, by rw [← ih e]; exact h4⟩
      · rintro (h1 | ⟨h1, e, h2, h3, h4⟩)
        · exact Or.inl h1
        · exact Or.inr ⟨by rw [h c (adj_lt h2 h3)]; exact h1, e, h2, h3, by rw [ih e]; exact h4⟩
  refine cnt_congr fun c hc => ?_
  rw [Bool.eq_iff_iff, lead_iff, lead_iff, h c hc]
  constructor
  · rintro ⟨h1, h2⟩
    exact ⟨h1, fun b hb hq => by
      have := h2 b hb (by rw [h b (by omega)]; exact hq)
      unfold K at this ⊢
      rw [← hk b (by omega)]
      exact this⟩
  · rintro ⟨h1, h2⟩
    exact ⟨h1, fun b hb hq => by
      have := h2 b hb (by rw [← h b (by omega)]; exact hq)
      unfold K at this ⊢
      rw [hk b (by omega)]
      exact this⟩
theorem K_congr {P Q : Nat → Bool} (h : ∀ c, c < 64 → P c = Q c) {a c : Nat} (ha : a < 64) : K P a c = K Q a c := by
  have hk : ∀ k c, R P a k c = R Q a k c := fun k => by
    induction k with
    | zero => intro c; rfl
    | succ k ih =>
      intro c
      rw [Bool.eq_iff_iff, R_s, R_s, ih c]
      constructor
      · rintro (h1 | ⟨h1, e, h2, h3, h4⟩)
        · exact Or.inl h1
        · exact Or.inr ⟨by rw [← h c (adj_lt h2 h3)]; exact h1, e, h2, h3, by rw [← ih e]; exact h4⟩
      · rintro (h1 | ⟨h1, e, h2, h3, h4⟩)
        · exact Or.inl h1
        · exact Or.inr ⟨by rw [h c (adj_lt h2 h3)]; exact h1, e, h2, h3, by rw [ih e]; exact h4⟩
  exact hk 64 c
section LAW17
variable {E : pmEv0} {n : Nat} {self : lSelf} {i5 : Int32} {m : pmI} {D : Nat → Nat → UInt64} {w k : Nat} {W : Wd}
theorem cInv_a {m' : pmI} (h : cInv m W) (f : afr m m') : cInv m' W := cInv_fr h (fun i hi => ⟨f.1 i (by omega) (by omega), by rw [f.2]⟩)
theorem cOut_a {m' : pmI} (f : afr m m') : cOut m m' := fun i hi => ⟨f.1 i (by omega) (by omega), by rw [f.2]⟩
/-- how many cells an area has -/
def qSize (A : Ab) (x y : Int) : Int × Int := if isCb x y = true then (0, if aP A (8 * y + x).toNat = true then 0 else ((cnt (K (aP A) (8 * y + x).toNat) 64 : Nat) : Int)) else (1, 0)
theorem c_areaSize (h : cInv m W) (hn : 100 ≤ n) {x y : Int} (hx : -2147483648 ≤ x ∧ x < 2147483648) (hy : -2147483648 ≤ y ∧ y < 2147483648) : cQ m W (fX8_areaSize n (z x) (z y) m) (qSize (wA W) x y).1 (z (qSize (wA W) x y).2) 0 := by
  unfold fX8_areaSize qSize
  by_cases hc : isC x y
  · obtain ⟨c, hc1, hc2, hc3⟩ := isC_nat hc
    rw [(c_cell hx hy m).1 hc, obind, tf0, obind, oT_l, f_cellAt, obind, if_pos (isCb_t hc), hc2, Int.toNat_natCast]
    by_cases hp : aP (wA W) c = true
    · unfold fX0_fillFrom_91
      rw [f_holds _ hc1, obind, h.1.1 c hc1, if_pos hp, if_neg z10, obind]
      try dsimp only
      rw [f_bitCount, obind, if_pos hp]
      refine ⟨m, ?_, cOut_rf, h⟩
      have h0 : ∀ n, cnt (bt 0) n = 0 := fun n => by
        induction n with
        | zero => rfl
        | succ n ih => rw [cnt_s, ih, bt_zero, if_neg (by decide)]
      rw [h0]
      rfl
    · obtain ⟨m1, v, e1, g1, f1⟩ := c_fill (n := n) (m := m) hn hc1 (m.2 1 0) (by rw [h.1.1 c hc1]; exact Bool.eq_false_iff.mpr hp)
      rw [e1, obind]
      try dsimp only
      rw [f_bitCount, obind, if_neg hp, cnt_congr (Q := K (aP (wA W)) c) (fun e he => by rw [g1 e he, K_congr h.1.1 hc1])]
      exact ⟨m1, rfl, cOut_a f1, cInv_a h f1⟩
  · rw [(c_cell hx hy m).2 hc, obind, tf1, obind, oT_r, if_neg (by rw [isCb_f hc]; decide)]
    exact ⟨m, rfl, cOut_rf, h⟩
end LAW17

