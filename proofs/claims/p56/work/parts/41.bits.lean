/-! sets of cells as bits -/
def bt (x : Int64) (c : Nat) : Bool := x.toBitVec.getLsbD c
theorem lg0 (y : Int64) : lg_cmp y 0 = z 0 ↔ y = 0 := by
  unfold lg_cmp
  split
  · rename_i h
    refine ⟨fun h2 => absurd h2 (by decide), fun h2 => ?_⟩
    subst h2
    exact absurd h (by decide)
  · split
    · rename_i h
      exact ⟨fun _ => h, fun _ => rfl⟩
    · rename_i h
      exact ⟨fun h2 => absurd h2 (by decide), fun h2 => absurd h2 h⟩
theorem sh_amt : ∀ c : Nat, c < 64 → ((Int32.toInt64 (z (c : Int))).toUInt64 &&& Int64.toUInt64 63) = UInt64.ofNat c := by decide +kernel
theorem bt_shr (x : Int64) {c : Nat} (hc : c < 64) : (Int64.toUInt64 x >>> UInt64.ofNat c).toInt64 &&& (1 : Int64) = 0 ↔ bt x c = false := by
  have h1 : ((Int64.toUInt64 x >>> UInt64.ofNat c).toInt64 &&& (1 : Int64)).toBitVec = (x.toBitVec >>> c) &&& 1#64 := by
    show (x.toBitVec >>> ((UInt64.ofNat c).toBitVec % 64)) &&& 1#64 = _
    congr 1
    have h2 : ((UInt64.ofNat c).toBitVec % 64).toNat = c := by
      rw [BitVec.toNat_umod]
      show c % 2 ^ 64 % 64 = c
      omega
    show BitVec.ushiftRight x.toBitVec ((UInt64.ofNat c).toBitVec % 64).toNat = _
    rw [h2]
    rfl
  rw [← Int64.toBitVec_inj, h1]
  unfold bt
  show _ = 0#64 ↔ _
  rw [BitVec.and_one_eq_setWidth_ofBool_getLsbD, BitVec.getLsbD_ushiftRight, Nat.add_zero]
  cases x.toBitVec.getLsbD c <;> decide
theorem f_holds (x : Int64) {c : Nat} (hc : c < 64) (m : pmI) : fX8_holds x (z (c : Int)) m = some (if bt x c = true then z 1 else z 0) := by
  unfold fX8_holds
  rw [sh_amt c hc]
  by_cases h : bt x c = false
  · rw [if_pos ((lg0 _).mpr ((bt_shr x hc).mpr h)), h]
    rfl
  · rw [if_neg (fun g => h ((bt_shr x hc).mp ((lg0 _).mp g))), Bool.of_not_eq_false h]
    rfl
def one (a : Int32) : Int64 := (1 : Int64) <<< (Int32.toInt64 a &&& 63)
theorem bt_one : ∀ c : Nat, c < 64 → ∀ k : Nat, k < 64 → bt (one (z (c : Int))) k = decide (k = c) := by decide +kernel
theorem bt_or (x y : Int64) (k : Nat) : bt (x ||| y) k = (bt x k || bt y k) := BitVec.getLsbD_or
theorem bt_and (x y : Int64) (k : Nat) : bt (x &&& y) k = (bt x k && bt y k) := BitVec.getLsbD_and
theorem bt_xor (x y : Int64) (k : Nat) : bt (x ^^^ y) k = (bt x k ^^ bt y k) := BitVec.getLsbD_xor
theorem bt_all : ∀ k : Nat, k < 64 → bt 18446744073709551615 k = true := by decide +kernel
theorem bt_zero : ∀ k : Nat, bt 0 k = false := fun k => BitVec.getLsbD_zero
theorem bt_ext {x y : Int64} (h : ∀ k, k < 64 → bt x k = bt y k) : x = y := Int64.toBitVec_inj.mp (BitVec.eq_of_getLsbD_eq h)
/-- how many of the first n -/
def cnt (P : Nat → Bool) : Nat → Nat
  | 0 => 0
  | n + 1 => cnt P n + (if P n = true then 1 else 0)
theorem cnt_s (P : Nat → Bool) (n : Nat) : cnt P (n + 1) = cnt P n + (if P n = true then 1 else 0) := rfl
theorem cnt_congr {P Q : Nat → Bool} : ∀ {n : Nat}, (∀ k, k < n → P k = Q k) → cnt P n = cnt Q n
  | 0, _ => rfl
  | n + 1, h => by
    unfold cnt
    rw [cnt_congr (fun k hk => h k (by omega)), h n (by omega)]
theorem cnt_le (P : Nat → Bool) : ∀ n : Nat, cnt P n ≤ n
  | 0 => Nat.le_refl _
  | n + 1 => by
    unfold cnt
    have := cnt_le P n
    split <;> omega
theorem cnt_set {P : Nat → Bool} {c : Nat} (hP : P c = false) : ∀ {n : Nat}, c < n → cnt (fun k => if k = c then true else P k) n = cnt P n + 1
  | n + 1, h => by
    unfold cnt
    rcases Nat.eq_or_lt_of_le (Nat.le_of_lt_succ h) with rfl | h1
    · rw [cnt_congr (Q := P) (fun k hk => if_neg (by omega)), if_pos (if_pos rfl), hP]
      rfl
    · have ih := cnt_set hP h1
      rw [ih, if_neg (show ¬ n = c by omega)]
      omega
theorem cnt_clr {P : Nat → Bool} {c : Nat} (hP : P c = true) : ∀ {n : Nat}, c < n → cnt (fun k => if k = c then false else P k) n + 1 = cnt P n
  | n + 1, h => by
    unfold cnt
    rcases Nat.eq_or_lt_of_le (Nat.le_of_lt_succ h) with rfl | h1
    · rw [cnt_congr (Q := P) (fun k hk => if_neg (by omega)), if_neg (by rw [if_pos rfl]; decide), if_pos hP]
    · have ih := cnt_clr hP h1
      rw [if_neg (show ¬ n = c by omega)]
      omega
theorem f_cellAt (x y : Int) (m : pmI) : fX8_cellAt (z x) (z y) m = some (z (8 * y + x)) := by
  unfold fX8_cellAt
  rw [z_mul, z_add]
theorem f_cellFault (x y : Int) (hx : -2147483648 ≤ x ∧ x < 2147483648) (hy : -2147483648 ≤ y ∧ y < 2147483648) (m : pmI) : fX8_cellFault (z x) (z y) m = some (if (0 ≤ x ∧ x < 8) ∧ 0 ≤ y ∧ y < 8 then z 0 else z 1) := by
  unfold fX8_cellFault
  simp (disch := omega) only [z_lt]
  by_cases h1 : x < 0
  · rw [if_pos h1, if_neg (by omega)]
  · rw [if_neg h1]
    by_cases h2 : x < 8
    · rw [if_pos h2]
      by_cases h3 : y < 0
      · rw [if_pos h3, if_neg (by omega)]
      · rw [if_neg h3]
        by_cases h4 : y < 8
        · rw [if_pos h4, if_pos (by omega)]
        · rw [if_neg h4, if_neg (by omega)]
    · rw [if_neg h2, if_neg (by omega)]
theorem f_throwFor (k : Int) (hk : -2147483648 ≤ k ∧ k < 2147483648) (m : pmI) : fX8_throwFor (z k) m = some (if k = 1 then .inr 0 else if k = 2 then .inr 1 else if k = 3 then .inr 2 else if k = 4 then .inr 3 else if k = 5 then .inr 4 else .inl (), m) := by
  unfold fX8_throwFor
  simp (disch := omega) only [z_eq]
  split
  · rfl
  · split
    · rfl
    · split
      · rfl
      · split
        · rfl
        · split <;> rfl

