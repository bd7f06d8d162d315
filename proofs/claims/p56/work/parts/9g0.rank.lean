/-! the order of nails: each rank has one dancer -/
theorem nsum_s (f : Nat → Nat) (n : Nat) : nsum f (n + 1) = nsum f n + f n := rfl
theorem nsum_add (f g : Nat → Nat) : ∀ n : Nat, nsum (fun i => f i + g i) n = nsum f n + nsum g n
  | 0 => rfl
  | n + 1 => by
    have ih := nsum_add f g n
    rw [nsum_s, nsum_s, nsum_s]
    omega
theorem nsum_z : ∀ n : Nat, nsum (fun _ => 0) n = 0
  | 0 => rfl
  | n + 1 => by
    rw [nsum_s, nsum_z n]
theorem nsum_mul (c : Nat) (f : Nat → Nat) : ∀ n : Nat, nsum (fun i => c * f i) n = c * nsum f n
  | 0 => rfl
  | n + 1 => by
    rw [nsum_s, nsum_s, nsum_mul c f n, Nat.mul_add]
theorem nsum_swap (f : Nat → Nat → Nat) : ∀ n k : Nat, nsum (fun i => nsum (fun t => f i t) k) n = nsum (fun t => nsum (fun i => f i t) n) k
  | 0, k => by
    show 0 = nsum (fun _ => 0) k
    rw [nsum_z]
  | n + 1, k => by
    rw [nsum_s, nsum_swap f n k, ← nsum_add]
    rfl
theorem nsum_mono {f g : Nat → Nat} : ∀ {n : Nat}, (∀ i, i < n → f i ≤ g i) → nsum f n ≤ nsum g n
  | 0, _ => Nat.le_refl _
  | n + 1, h => by
    have ih := nsum_mono (f := f) (g := g) (n := n) (fun i hi => h i (by omega))
    have := h n (by omega)
    rw [nsum_s, nsum_s]
    omega
/-- just one place counts -/
theorem nsum_one {f : Nat → Nat} {j : Nat} : ∀ {n : Nat}, j < n → (∀ i, i < n → ¬ i = j → f i = 0) → nsum f n = f j
  | n + 1, hj, h => by
    rw [nsum_s]
    rcases Nat.lt_or_ge j n with h1 | h1
    · rw [nsum_one h1 (fun i hi => h i (by omega)), h n (by omega) (by omega)]
      rfl
    · obtain rfl : j = n := by omega
      rw [nsum_congr (g := fun _ => 0) (fun i hi => h i (by omega) (by omega)), nsum_z]
      omega
theorem nsum_none {f : Nat → Nat} {n : Nat} (h : ∀ i, i < n → f i = 0) : nsum f n = 0 := by
  rw [nsum_congr (g := fun _ => 0) h, nsum_z]
theorem nsum_k (c : Nat) : ∀ n : Nat, nsum (fun _ => c) n = n * c
  | 0 => by rw [Nat.zero_mul]; rfl
  | n + 1 => by
    rw [nsum_s, nsum_k c n, Nat.succ_mul]
theorem nsum_cnt (P : Nat → Bool) : ∀ n : Nat, nsum (fun i => if P i = true then 1 else 0) n = cnt P n
  | 0 => rfl
  | n + 1 => by
    rw [nsum_s, nsum_cnt P n, cnt_s]
section RANK
variable {A : Ab}
def ahd (A : Ab) (i j : Nat) : Bool := decide (aNa A j < aNa A i) || (decide (aNa A j = aNa A i) && decide (j < i))
theorem ahd_iff {i j : Nat} : ahd A i j = true ↔ aNa A j < aNa A i ∨ (aNa A j = aNa A i ∧ j < i) := by
  unfold ahd
  simp only [Bool.or_eq_true, Bool.and_eq_true, decide_eq_true_eq]
theorem rnk_eq (i : Nat) : rnk A i = cnt (ahd A i) (aC A) := rfl
theorem rnk_lt {i j : Nat} (hi : i < aC A) (h : ahd A j i = true) : rnk A i + 1 ≤ rnk A j := by
  rw [rnk_eq, rnk_eq]
  refine cnt_lt2 (c := i) (fun c hc h1 => ?_) hi ?_ h
  · rw [ahd_iff] at h h1 ⊢
    omega
  · cases hq : ahd A i i with
    | false => rfl
    | true =>
      rw [ahd_iff] at hq
      omega
theorem rnk_inj {i j : Nat} (hi : i < aC A) (hj : j < aC A) (h : rnk A i = rnk A j) : i = j := by
  rcases Nat.lt_trichotomy (aNa A i) (aNa A j) with h1 | h1 | h1
  · have := rnk_lt (j := j) hi (ahd_iff.mpr (Or.inl h1))
    omega
  · rcases Nat.lt_trichotomy i j with h2 | h2 | h2
    · have := rnk_lt (j := j) hi (ahd_iff.mpr (Or.inr ⟨h1, h2⟩))
      omega
    · exact h2
    · have := rnk_lt (j := i) hj (ahd_iff.mpr (Or.inr ⟨h1.symm, h2⟩))
      omega
  · have := rnk_lt (j := i) hj (ahd_iff.mpr (Or.inl h1))
    omega
theorem rnk_bd {i : Nat} (hi : i < aC A) : rnk A i < aC A := by
  have h := cnt_lt2 (P := ahd A i) (Q := fun _ => true) (n := aC A) (c := i) (fun _ _ _ => rfl) hi (by
    cases hq : ahd A i i with
    | false => rfl
    | true =>
      rw [ahd_iff] at hq
      omega) rfl
  have h2 := cnt_le (fun _ : Nat => true) (aC A)
  rw [rnk_eq]
  omega
theorem byRank_at {i : Nat} (hi : i < aC A) : byRank A (rnk A i : Int) = some i := by
  unfold byRank
  refine ff_at (Nat.zero_le _) (by omega) (decide_eq_true rfl) (fun t _ ht => decide_eq_false (fun h => ?_))
  have := rnk_inj (i := t) (j := i) (by omega) hi (by omega)
  omega
theorem byRank_lt {k : Int} {i : Nat} (h : byRank A k = some i) : i < aC A ∧ (rnk A i : Int) = k := by
  obtain ⟨-, h2, h3, -⟩ := ff_some h
  exact ⟨by omega, of_decide_eq_true h3⟩
/-- a sum over the ranks is one over the places -/
theorem rank_sum (f : Nat → Nat) : nsum (fun t => nsum (fun i => if rnk A i = t then f i else 0) (aC A)) (aC A) = nsum f (aC A) := by
  rw [← nsum_swap (fun i t => if rnk A i = t then f i else 0)]
  refine nsum_congr (fun i hi => ?_)
  rw [nsum_one (j := rnk A i) (rnk_bd hi) (fun t _ ht => if_neg (fun h => ht h.symm)), if_pos rfl]
theorem rank_one {t i : Nat} (f : Nat → Nat) (hi : i < aC A) (h : rnk A i = t) : nsum (fun i => if rnk A i = t then f i else 0) (aC A) = f i := by
  rw [nsum_one (j := i) hi (fun u hu hne => if_neg (fun e => hne (rnk_inj hu hi (e.trans h.symm)))), if_pos h]
/-- each rank has its dancer -/
theorem byRank_ex {t : Nat} (ht : t < aC A) : ∃ i, i < aC A ∧ rnk A i = t ∧ byRank A (t : Int) = some i := by
  cases h : byRank A (t : Int) with
  | some i =>
    obtain ⟨h1, h2⟩ := byRank_lt h
    exact ⟨i, h1, by omega, rfl⟩
  | none =>
    exfalso
    have no : ∀ i, i < aC A → ¬ rnk A i = t := fun i hi e => by
      have := of_decide_eq_false (ff_none h i (Nat.zero_le _) (by omega))
      omega
    have e := rank_sum (A := A) (fun _ => 1)
    rw [nsum_k 1] at e
    have le : nsum (fun t => nsum (fun i => if rnk A i = t then 1 else 0) (aC A)) (aC A) ≤ nsum (fun u => if u = t then 0 else 1) (aC A) := by
      refine nsum_mono (fun u hu => ?_)
      by_cases hut : u = t
      · rw [if_pos hut, hut, nsum_none (fun i hi => if_neg (no i hi))]
        exact Nat.le_refl _
      · rw [if_neg hut]
        by_cases hex : ∃ i, i < aC A ∧ rnk A i = u
        · obtain ⟨i, i1, i2⟩ := hex
          rw [rank_one (fun _ => 1) i1 i2]
          exact Nat.le_refl _
        · rw [nsum_none (fun i hi => if_neg (fun e => hex ⟨i, hi, e⟩))]
          omega
    have e2 : nsum (fun u => if u = t then 0 else 1) (aC A) + 1 = aC A := by
      have h1 := nsum_add (fun u => if u = t then 0 else 1) (fun u => if u = t then 1 else 0) (aC A)
      rw [nsum_congr (g := fun _ => 1) (fun i _ => by by_cases e : i = t; (rw [if_pos e, if_pos e]); (rw [if_neg e, if_neg e])), nsum_k 1, nsum_one (f := fun u => if u = t then 1 else 0) (j := t) ht (fun i _ hi => if_neg hi), if_pos rfl] at h1
      omega
    omega
end RANK
