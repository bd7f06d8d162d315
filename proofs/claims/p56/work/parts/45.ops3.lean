/-! the model: who parts, goes, pairs, gets nails -/
section OPS3
variable {m : pmI} {A : Ab} {n : Nat}
theorem wf_pa {A : Ab} (w : wfA A) (k : Nat) : aC (uPa A (pSep A k)) = aC A ∧ aNa (uPa A (pSep A k)) = aNa A := ⟨rfl, rfl⟩
/-- parted, the state is still sound -/
theorem wf_sep {A : Ab} (w : wfA A) {k : Nat} (hk : k < aC A) : wfA (uPa A (pSep A k)) := by
  obtain ⟨w1, w2, w3, w4, w5, w6⟩ := w
  refine ⟨w1, w2, w3, w4, fun i hi => ?_, w6⟩
  have hi' : i < aC A := hi
  show pSep A k i = -1 ∨ ∃ j, j < aC A ∧ ¬ j = i ∧ pSep A k i = (aNu A j : Int) ∧ pSep A k j = (aNu A i : Int)
  have w0 : wfA A := ⟨w1, w2, w3, w4, w5, w6⟩
  unfold pSep
  by_cases e : aPa A k = -1
  · rw [if_pos e]
    exact w5 i hi'
  · rw [if_neg e]
    obtain ⟨j, j1, j2, j3, j4⟩ := slot_pa w0 hk e
    rw [j3]
    by_cases e1 : i = k
    · exact Or.inl (if_pos e1)
    · by_cases e2 : i = j
      · left
        rw [if_neg e1, if_pos (by rw [e2])]
      · rw [if_neg e1, if_neg (fun h => e2 (Option.some.inj h))]
        rcases w5 i hi' with h | ⟨t, t1, t2, t3, t4⟩
        · exact Or.inl h
        · refine Or.inr ⟨t, t1, t2, t3, ?_⟩
          have n1 : ¬ t = k := fun h => by
            subst h
            have h5 := slot_at w0 hi'
            rw [← t4, j3] at h5
            exact e2 (Option.some.inj h5).symm
          have n2 : ¬ t = j := fun h => by
            subst h
            have h5 := slot_at w0 hi'
            rw [← t4, j4, slot_at w0 hk] at h5
            exact e1 (Option.some.inj h5).symm
          rw [if_neg n1, if_neg (fun h => n2 (Option.some.inj h))]
          exact t4
theorem wf_pair (w : wfA A) {i j : Nat} (hi : i < aC A) (hj : j < aC A) (hij : ¬ i = j) (pi : aPa A i = -1) (pj : aPa A j = -1) : wfA (uPa A (pPair A i j (aNu A i) (aNu A j))) := by
  obtain ⟨w1, w2, w3, w4, w5, w6⟩ := w
  have w0 : wfA A := ⟨w1, w2, w3, w4, w5, w6⟩
  refine ⟨w1, w2, w3, w4, fun k hk => ?_, w6⟩
  have hk' : k < aC A := hk
  show pPair A i j (aNu A i) (aNu A j) k = -1 ∨ ∃ t, t < aC A ∧ ¬ t = k ∧ pPair A i j (aNu A i) (aNu A j) k = (aNu A t : Int) ∧ pPair A i j (aNu A i) (aNu A j) t = (aNu A k : Int)
  unfold pPair
  by_cases e1 : k = j
  · refine Or.inr ⟨i, hi, fun h => hij (h.trans e1), if_pos e1, ?_⟩
    rw [if_neg hij, if_pos rfl, e1]
  · by_cases e2 : k = i
    · refine Or.inr ⟨j, hj, fun h => e1 h.symm, by rw [if_neg e1, if_pos e2], ?_⟩
      rw [if_pos rfl, e2]
    · rw [if_neg e1, if_neg e2]
      rcases w5 k hk' with h | ⟨t, t1, t2, t3, t4⟩
      · exact Or.inl h
      · refine Or.inr ⟨t, t1, t2, t3, ?_⟩
        have n1 : ¬ t = j := fun h => by rw [h, pj] at t4; omega
        have n2 : ¬ t = i := fun h => by rw [h, pi] at t4; omega
        rw [if_neg n1, if_neg n2]
        exact t4
end OPS3
/-- a loop that counts -/
theorem cntl (l : Nat → Int32 → Int32 → Option Int32) (len : Nat) (P : Nat → Bool) (hs : ∀ k i (c : Nat), i < len → l (k + 1) (z (c : Int)) (z (i : Int)) = l k (z ((c + (if P i = true then 1 else 0) : Nat) : Int)) (z ((i : Int) + 1))) (he : ∀ k (c : Nat), l (k + 1) (z (c : Int)) (z (len : Int)) = some (z (c : Int))) :
    ∀ (d i k : Nat), i + d = len → d < k → l k (z ((cnt P i : Nat) : Int)) (z (i : Int)) = some (z ((cnt P len : Nat) : Int))
  | 0, i, k + 1, h1, _ => by
    obtain rfl : i = len := by omega
    exact he k _
  | d + 1, i, k + 1, h1, h2 => by
    rw [hs k i _ (by omega)]
    exact cntl l len P hs he d (i + 1) k (by omega) (by omega)
theorem suml (l : Nat → Int32 → Int32 → Option Int32) (len : Nat) (f : Nat → Nat) (hs : ∀ k i (c : Nat), i < len → l (k + 1) (z (c : Int)) (z (i : Int)) = l k (z ((c + f i : Nat) : Int)) (z ((i : Int) + 1))) (he : ∀ k (c : Nat), l (k + 1) (z (c : Int)) (z (len : Int)) = some (z (c : Int))) :
    ∀ (d i k : Nat), i + d = len → d < k → l k (z ((nsum f i : Nat) : Int)) (z (i : Int)) = some (z ((nsum f len : Nat) : Int))
  | 0, i, k + 1, h1, _ => by
    obtain rfl : i = len := by omega
    exact he k _
  | d + 1, i, k + 1, h1, h2 => by
    rw [hs k i _ (by omega)]
    exact suml l len f hs he d (i + 1) k (by omega) (by omega)
theorem z_half : ∀ k : Nat, k ≤ 8 → z (k : Int) / z 2 = z ((k / 2 : Nat) : Int) := by decide +kernel
section OPS3
variable {m : pmI} {A : Ab} {n : Nat}
theorem pa_rg (w : wfA A) {i : Nat} (hi : i < aC A) : aPa A i = -1 ∨ (0 ≤ aPa A i ∧ aPa A i < 1000000) := by
  have w2 := w.2.1
  rcases w.2.2.2.2.1 i hi with h | ⟨j, j1, -, j3, -⟩
  · exact Or.inl h
  · have := w.2.2.1 j j1
    omega
end OPS3

