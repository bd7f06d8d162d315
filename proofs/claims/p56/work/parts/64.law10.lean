/-! the law, call by call: isMirrored -/
/-- who stands on a cell, but the one at a place, among the first i -/
def occ (A : Ab) (a : Int) : Nat → Nat → Bool
  | 0, _ => false
  | i + 1, c => occ A a i c || (decide (¬ (i : Int) = a) && decide (c = aCe A i))
theorem occ_iff {A : Ab} {a : Int} {c : Nat} : ∀ {i : Nat}, occ A a i c = true ↔ ∃ j, j < i ∧ ¬ (j : Int) = a ∧ c = aCe A j
  | 0 => ⟨(fun h => Bool.noConfusion (show false = true from h)), fun ⟨j, h, _⟩ => absurd h (Nat.not_lt_zero _)⟩
  | i + 1 => by
    show (occ A a i c || (decide (¬ (i : Int) = a) && decide (c = aCe A i))) = true ↔ _
    rw [Bool.or_eq_true, Bool.and_eq_true, decide_eq_true_eq, decide_eq_true_eq, occ_iff]
    constructor
    · rintro (⟨j, h1, h2⟩ | h)
      · exact ⟨j, by omega, h2⟩
      · exact ⟨i, by omega, h⟩
    · rintro ⟨j, h1, h2, h3⟩
      rcases Nat.eq_or_lt_of_le (Nat.le_of_lt_succ h1) with rfl | h4
      · exact Or.inr ⟨h2, h3⟩
      · exact Or.inl ⟨j, h4, h2, h3⟩
theorem spot_iff {A : Ab} {c : Nat} : ¬ spot A c = none ↔ ∃ j, j < aC A ∧ c = aCe A j := by
  constructor
  · intro h
    cases hs : spot A c with
    | none => exact absurd hs h
    | some j =>
      obtain ⟨h1, h2, h3, -⟩ := ff_some hs
      have := of_decide_eq_true h3
      exact ⟨j, by omega, by omega⟩
  · rintro ⟨j, h1, h2⟩ h
    have := of_decide_eq_false (ff_none h j (Nat.zero_le _) (by omega))
    omega
section LAW10
variable {E : pmEv0} {n : Nat} {self : lSelf} {i5 : Int32} {m : pmI} {D : Nat → Nat → UInt64} {w k : Nat} {W : Wd}
theorem c_others {A : Ab} (h : repC 1 m A) (w : wfA A) (hn : 20 ≤ n) {a : Int} (ha : -2147483648 ≤ a ∧ a < 2147483648) : ∃ x, fX6_cellsOfOthers_1 n (z a) m = some x ∧ ∀ c, c < 64 → bt x c = occ A a (aC A) c := by
  have w1 := w.1
  have key : ∀ (d i q : Nat) (x : Int64), i + d = aC A → d < q → (∀ c, c < 64 → bt x c = occ A a i c) → ∃ x', lX6_cellsOfOthers_1_l5 n (z a) m q x (z (i : Int)) = some x' ∧ ∀ c, c < 64 → bt x' c = occ A a (aC A) c := by
    intro d
    induction d with
    | zero =>
      intro i q x h1 h2 hx
      match q, h2 with
      | q + 1, h2 =>
        obtain rfl : i = aC A := by omega
        refine ⟨x, ?_, hx⟩
        show bX6_cellsOfOthers_1_l5 n (z a) m (lX6_cellsOfOthers_1_l5 n (z a) m q) _ _ = _
        unfold bX6_cellsOfOthers_1_l5
        rw [h.2.1, if_neg (zge (by omega))]
    | succ d ih =>
      intro i q x h1 h2 hx
      match q, h2 with
      | q + 1, h2 =>
        have hi : i < aC A := by omega
        have hc := (w.2.2.1 i hi).2.1
        by_cases e : (i : Int) = a
        · obtain ⟨x', e1, e2⟩ := ih (i + 1) q x (by omega) (by omega) (fun c hc => by
            show bt x c = (occ A a i c || (decide (¬ (i : Int) = a) && decide (c = aCe A i)))
            rw [hx c hc, decide_eq_false (fun h => h e), Bool.false_and, Bool.or_false])
          refine ⟨x', ?_, e2⟩
          show bX6_cellsOfOthers_1_l5 n (z a) m (lX6_cellsOfOthers_1_l5 n (z a) m q) _ _ = _
          unfold bX6_cellsOfOthers_1_l5
          rw [h.2.1, if_pos (zlt (by omega)), if_pos (by rw [e]), z_add]
          exact e1
        · obtain ⟨x', e1, e2⟩ := ih (i + 1) q (x ||| one (z (aCe A i : Int))) (by omega) (by omega) (fun c hc' => by
            show bt (x ||| one (z (aCe A i : Int))) c = (occ A a i c || (decide (¬ (i : Int) = a) && decide (c = aCe A i)))
            rw [bt_or, hx c hc', bt_one _ hc c hc', decide_eq_true e, Bool.true_and])
          refine ⟨x', ?_, e2⟩
          show bX6_cellsOfOthers_1_l5 n (z a) m (lX6_cellsOfOthers_1_l5 n (z a) m q) _ _ = _
          unfold bX6_cellsOfOthers_1_l5
          rw [h.2.1, if_pos (zlt (by omega)), if_neg (zne (by omega)), a_3 (by omega), obind, (h.2.2.2.1 i hi).2.1, one_eq, z_add]
          exact e1
  obtain ⟨x, e1, e2⟩ := key (aC A) 0 n 0 (by omega) (by omega) (fun c _ => bt_zero c)
  refine ⟨x, ?_, e2⟩
  unfold fX6_cellsOfOthers_1
  rw [show z 0 = z ((0 : Nat) : Int) from rfl, e1, obind]
def mir (c : Nat) : Nat := 8 * (c / 8) + (7 - c % 8)
theorem mir_lt {c : Nat} (h : c < 64) : mir c < 64 := by
  unfold mir
  omega
/-- each one's mirror cell is taken -/
def mirA (A : Ab) : Nat → Bool
  | 0 => true
  | i + 1 => mirA A i && !(decide (spot A (mir (aCe A i)) = none))
theorem mirA_iff {A : Ab} : ∀ {i : Nat}, mirA A i = true ↔ ∀ j, j < i → ¬ spot A (mir (aCe A j)) = none
  | 0 => ⟨fun _ j h => absurd h (Nat.not_lt_zero _), fun _ => rfl⟩
  | i + 1 => by
    show (mirA A i && !(decide (spot A (mir (aCe A i)) = none))) = true ↔ _
    rw [Bool.and_eq_true, Bool.not_eq_true', decide_eq_false_iff_not, mirA_iff]
    constructor
    · rintro ⟨h1, h2⟩ j hj
      rcases Nat.eq_or_lt_of_le (Nat.le_of_lt_succ hj) with rfl | h4
      · exact h2
      · exact h1 j h4
    · intro h
      exact ⟨fun j hj => h j (by omega), h i (by omega)⟩
theorem c_isMirrored {A : Ab} (h : repC 1 m A) (w : wfA A) (hn : 20 ≤ n) : fX8_isMirrored n m = some (if mirA A (aC A) = true then z 1 else z 0) := by
  have w1 := w.1
  obtain ⟨x, e1, e2⟩ := c_others (n := n) h w hn (a := -1) (by omega)
  unfold fX8_isMirrored
  rw [e1, obind]
  have hb : ∀ c, c < 64 → (bt x c = true ↔ ¬ spot A c = none) := fun c hc => by
    rw [e2 c hc, occ_iff, spot_iff]
    constructor
    · rintro ⟨j, h1, -, h3⟩; exact ⟨j, h1, h3⟩
    · rintro ⟨j, h1, h3⟩; exact ⟨j, h1, by omega, h3⟩
  have e := srch (lX8_isMirrored_l11 n x m) (aC A) (fun i => decide (spot A (mir (aCe A i)) = none)) (fun _ => z 0) (fun q i hi => by
    show bX8_isMirrored_l11 n x m (lX8_isMirrored_l11 n x m q) (z (i : Int)) = _
    unfold bX8_isMirrored_l11 fX8_columnOf fX8_rowOf
    have hc := (w.2.2.1 i hi).2.1
    rw [h.2.1, if_pos (zlt (by omega)), a_3 (by omega), obind, (h.2.2.2.1 i hi).2.1, obind, obind, z_and7 _ hc, z_div8 _ hc, z_sub, f_cellAt, obind, show 8 * ((aCe A i / 8 : Nat) : Int) + (7 - ((aCe A i % 8 : Nat) : Int)) = ((mir (aCe A i) : Nat) : Int) by unfold mir; omega, f_holds _ (mir_lt hc), obind, z_add]
    by_cases hq : spot A (mir (aCe A i)) = none
    · have hf : ¬ bt x (mir (aCe A i)) = true := fun hh => ((hb _ (mir_lt hc)).mp hh) hq
      rw [if_neg hf, if_pos rfl, if_pos (decide_eq_true hq)]
    · rw [if_pos ((hb _ (mir_lt hc)).mpr hq), if_neg z10, if_neg (by rw [decide_eq_true_eq]; exact hq)]) (fun q => by
    show bX8_isMirrored_l11 n x m (lX8_isMirrored_l11 n x m q) (z (aC A : Int)) = _
    unfold bX8_isMirrored_l11
    rw [h.2.1, if_neg (zge (by omega))]) (aC A) 0 n (by omega) (by omega)
  rw [show z 0 = z ((0 : Nat) : Int) from rfl, e]
  cases hs : ff (fun i => decide (spot A (mir (aCe A i)) = none)) (aC A) 0 with
  | none =>
    rw [if_pos (mirA_iff.mpr (fun j hj => of_decide_eq_false (ff_none hs j (Nat.zero_le _) (by omega))))]
    rfl
  | some j =>
    have hj := ff_some hs
    rw [if_neg (fun hh => (mirA_iff.mp hh) j (by omega) (of_decide_eq_true hj.2.2.1))]
    rfl
end LAW10

