/-! the questions that the law asks at its end -/
section QO
variable {n : Nat} {m : pmI} {W : Wd} {A : Ab} {H : List Ab} {S : Option Ab} {T : Nat}
/-- an answer, and the same world -/
def Qo (A : Ab) (H : List Ab) (S : Option Ab) (T : Nat) (o : Option (Int32 × pmI × Nat)) : Prop := ∃ t m' w, o = some (z t, m', w) ∧ w ≤ 1 ∧ (-900004 ≤ t ∧ t ≤ 1000000) ∧ CI A H S T m'
theorem qo_of {r : Option ((Int32 ⊕ Nat) × pmI)} {c t : Int} {ex : Nat} {kr : Nat → pmI → Option (Int32 × pmI × Nat)} (h : cQ m W r c (z t) ex) (ht : c = 0 → -900004 ≤ t ∧ t ≤ 1000000) (hkr : ∀ m2, ¬ c = 0 → ∃ t, (-900004 ≤ t ∧ t ≤ -900001) ∧ kr ex m2 = some (z t, m2, 1)) : Qo (wA W) (wH W) (wS W) (wT W) (r.bind (oT (fun v1 m2 => some (v1, m2, 0)) kr)) := by
  obtain ⟨m', e1, -, i1⟩ := h
  rw [e1, obind]
  by_cases e : c = 0
  · rw [if_pos e, oT_l]
    exact ⟨t, m', 0, rfl, by omega, ht e, CI.of i1⟩
  · rw [if_neg e, oT_r]
    obtain ⟨t2, h2, h3⟩ := hkr m' e
    rw [h3]
    exact ⟨t2, m', 1, rfl, by omega, by omega, CI.of i1⟩
theorem qo_cost (h : cInv m W) (hn : 200 ≤ n) : Qo (wA W) (wH W) (wS W) (wT W) (fL_exitCost_0 n m) := by
  unfold fL_exitCost_0
  refine qo_of (c_exitCost (n := n) h (by omega)) (fun e => ?_) (fun m2 h0 => ⟨_, (by decide), rfl⟩)
  unfold qCost at e ⊢
  cases hb : bestP (wA W) with
  | none => rw [hb] at e; exact absurd (show (1 : Int) = 0 from e) (by decide)
  | some x =>
    have := best_bd h.2.1 hb
    dsimp only
    omega
theorem qo_beat (h : cInv m W) (hn : 200 ≤ n) {f d : Int} (hf : -2147483648 ≤ f ∧ f < 2147483648) (hd : -2147483648 ≤ d ∧ d < 2147483648) : Qo (wA W) (wH W) (wS W) (wT W) (fL_blockedBeat_0 n (z f) (z d) m) := by
  unfold fL_blockedBeat_0
  have hc : (qBeat (wA W) f d).1 = 0 ∨ (qBeat (wA W) f d).1 = 1 ∨ (qBeat (wA W) f d).1 = 2 := by
    unfold qBeat
    split
    · split
      · exact Or.inr (Or.inr rfl)
      · split
        · exact Or.inl rfl
        · exact Or.inr (Or.inr rfl)
    · exact Or.inr (Or.inl rfl)
  refine qo_of (c_blocked (n := n) h (by omega) hf hd) (fun e => ?_) (fun m2 h0 => by
    rcases hc with e | e | e
    · exact absurd e h0
    · rw [e]; exact ⟨_, (by decide), rfl⟩
    · rw [e]; exact ⟨_, (by decide), rfl⟩)
  unfold qBeat at e ⊢
  split at e
  · rename_i h1
    rw [if_pos h1]
    cases hs : slot (wA W) d with
    | none => rw [hs] at e; exact absurd (show (2 : Int) = 0 from e) (by decide)
    | some k =>
      rw [hs] at e
      dsimp only at e ⊢
      split at e
      · rename_i h2
        rw [if_pos h2]
        have := (run_ok h.2.1 (f := f.toNat) (k := k) (slot_lt hs).1 (by
          have := figB_i h1
          omega)).2.2.1
        dsimp only
        omega
      · exact absurd (show (2 : Int) = 0 from e) (by decide)
  · exact absurd (show (1 : Int) = 0 from e) (by decide)
theorem qo_dist (h : cInv m W) (hn : 200 ≤ n) {d x y : Int} (hd : -2147483648 ≤ d ∧ d < 2147483648) (hx : -2147483648 ≤ x ∧ x < 2147483648) (hy : -2147483648 ≤ y ∧ y < 2147483648) : Qo (wA W) (wH W) (wS W) (wT W) (fL_distance_0 n (z d) (z x) (z y) m) := by
  unfold fL_distance_0
  refine qo_of (c_distance (n := n) h (by omega) hd hx hy) (fun e => ?_) (fun m2 h0 => by
    rcases qDist_c (wA W) d x y with e | e | e
    · exact absurd e h0
    · rw [e]; exact ⟨_, (by decide), rfl⟩
    · rw [e]; exact ⟨_, (by decide), rfl⟩)
  unfold qDist at e ⊢
  cases hs : slot (wA W) d with
  | none => rw [hs] at e; exact absurd (show (1 : Int) = 0 from e) (by decide)
  | some k =>
    rw [hs] at e
    dsimp only at e ⊢
    split at e
    · rename_i h1
      rw [if_pos h1]
      cases hq : dst (clo (wA W) true) (aCe (wA W) k) (8 * y + x).toNat with
      | none => rw [hq] at e; exact absurd (show (1 : Int) = 0 from e) (by decide)
      | some l =>
        have := dst_le hq
        dsimp only
        omega
    · exact absurd (show (2 : Int) = 0 from e) (by decide)
theorem qo_of2 (h : cInv m W) (hn : 200 ≤ n) {d : Int} (hd : -2147483648 ≤ d ∧ d < 2147483648) : Qo (wA W) (wH W) (wS W) (wT W) (fL_exitOf_0 n (z d) m) := by
  unfold fL_exitOf_0
  refine qo_of (c_exitOf (n := n) h (by omega) hd) (fun e => ?_) (fun m2 h0 => ⟨_, (by decide), rfl⟩)
  unfold qOf at e ⊢
  cases hs : slot (wA W) d with
  | none => rw [hs] at e; exact absurd (show (1 : Int) = 0 from e) (by decide)
  | some k =>
    rw [hs] at e
    dsimp only at e ⊢
    cases hb : bestP (wA W) with
    | none => rw [hb] at e; exact absurd (show (1 : Int) = 0 from e) (by decide)
    | some x =>
      have h6 := h.2.1.2.2.2.2.2.2.1
      have := (bst_plan h6 (by omega) hb).2.1 k (slot_lt hs).1
      dsimp only
      omega
end QO
