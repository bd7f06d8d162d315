/-! the law, call by call: isMirroredByRows -/
def revOk (v : Nat) : Bool := match fX8_reversed 20 (z (v : Int)) m00 with
  | some r => decide ((z (v : Int) = r) ↔ (List.range 8).all (fun q => v.testBit q == v.testBit (7 - q)) = true)
  | none => false
theorem revOk_all : (List.range 256).all revOk = true := by decide +kernel
theorem up4 {n n' : Nat} {u : Int32} {m m' : pmI} : ∀ (k k' : Nat) (x i : Int32) (r : Int32), k ≤ k' → lX8_reversed_l4 n u m k x i = some r → lX8_reversed_l4 n' u m' k' x i = some r
  | k + 1, k' + 1, x, i, r, hk, h => by
    have h' : bX8_reversed_l4 n u m (lX8_reversed_l4 n u m k) x i = some r := h
    show bX8_reversed_l4 n' u m' (lX8_reversed_l4 n' u m' k') x i = some r
    unfold bX8_reversed_l4 at h' ⊢
    by_cases c1 : i < z 8
    · rw [if_pos c1] at h' ⊢
      by_cases c2 : ((Int32.toUInt32 u >>> (Int32.toUInt32 i &&& Int32.toUInt32 31)).toInt32 &&& (z 1)) = (z 0)
      · rw [if_pos c2] at h' ⊢
        exact up4 k k' _ _ r (by omega) h'
      · rw [if_neg c2] at h' ⊢
        exact up4 k k' _ _ r (by omega) h'
    · rw [if_neg c1] at h' ⊢
      exact h'
theorem rev_ok {v n : Nat} (hv : v < 256) (hn : 20 ≤ n) (m : pmI) : ∃ r, fX8_reversed n (z (v : Int)) m = some r ∧ (z (v : Int) = r ↔ ∀ q, q < 8 → v.testBit q = v.testBit (7 - q)) := by
  have h := List.all_eq_true.mp revOk_all v (List.mem_range.mpr hv)
  unfold revOk at h
  cases hr : fX8_reversed 20 (z (v : Int)) m00 with
  | none => rw [hr] at h; cases h
  | some r =>
    rw [hr] at h
    have h2 := of_decide_eq_true h
    refine ⟨r, ?_, h2.trans ?_⟩
    · unfold fX8_reversed at hr ⊢
      cases h1 : lX8_reversed_l4 20 (z (v : Int)) m00 20 (z 0) (z 0) with
      | none => rw [h1] at hr; cases hr
      | some w3 =>
        rw [h1, obind] at hr
        rw [up4 20 n _ _ w3 hn h1, obind]
        exact hr
    · rw [List.all_eq_true]
      constructor
      · intro h3 q hq
        exact eq_of_beq (h3 q (List.mem_range.mpr hq))
      · intro h3 q hq
        exact beq_iff_eq.mpr (h3 q (List.mem_range.mp hq))
/-- eight bits of a set, as a number -/
def col (x : Int64) (y : Nat) : Nat := (x.toBitVec.toNat >>> (8 * y)) % 256
theorem col_bit (x : Int64) {y q : Nat} (hq : q < 8) : (col x y).testBit q = bt x (8 * y + q) := by
  unfold col bt
  rw [show 256 = 2 ^ 8 from rfl, Nat.testBit_mod_two_pow, decide_eq_true hq, Bool.true_and, Nat.testBit_shiftRight]
  rfl
theorem col_z (x : Int64) {y : Nat} (hy : y < 8) : (Int64.toInt32 ((Int64.toUInt64 x >>> ((Int32.toInt64 ((z 8) * (z (y : Int)))).toUInt64 &&& Int64.toUInt64 63)).toInt64)) &&& (z 255) = z (col x y : Int) := by
  rw [z_mul, show (8 : Int) * (y : Int) = ((8 * y : Nat) : Int) by omega, sh_amt (8 * y) (by omega)]
  have hc : col x y < 256 := Nat.mod_lt _ (by decide)
  rw [← Int32.toBitVec_inj]
  apply BitVec.eq_of_toNat_eq
  have e1 : (z (col x y : Int)).toBitVec.toNat = col x y := by
    have h1 : (z (col x y : Int)).toBitVec.toInt = (col x y : Int) := z_toInt (k := (col x y : Int)) (by omega)
    rw [BitVec.toInt_eq_toNat_cond] at h1
    split at h1
    · omega
    · have := (z (col x y : Int)).toBitVec.isLt
      omega
  rw [e1]
  have e2 : (z 255).toBitVec = 255#32 := by decide
  show ((Int64.toInt32 ((Int64.toUInt64 x >>> UInt64.ofNat (8 * y)).toInt64)).toBitVec &&& (z 255).toBitVec).toNat = col x y
  rw [e2, BitVec.toNat_and]
  have e3 : (Int64.toInt32 ((Int64.toUInt64 x >>> UInt64.ofNat (8 * y)).toInt64)).toBitVec.toNat = (x.toBitVec.toNat >>> (8 * y)) % 2 ^ 32 := by
    show (BitVec.signExtend 32 (x.toBitVec >>> ((UInt64.ofNat (8 * y)).toBitVec % 64))).toNat = _
    have h2 : ((UInt64.ofNat (8 * y)).toBitVec % 64).toNat = 8 * y := by
      rw [BitVec.toNat_umod]
      show (8 * y) % 2 ^ 64 % 64 = 8 * y
      omega
    rw [BitVec.signExtend_eq_setWidth_of_le _ (by decide), BitVec.toNat_setWidth]
    show (BitVec.ushiftRight x.toBitVec ((UInt64.ofNat (8 * y)).toBitVec % 64).toNat).toNat % 2 ^ 32 = _
    rw [h2]
    rfl
  rw [e3]
  show (x.toBitVec.toNat >>> (8 * y)) % 2 ^ 32 &&& (2 ^ 8 - 1) = col x y
  rw [Nat.and_two_pow_sub_one_eq_mod]
  unfold col
  omega
section LAW11
variable {E : pmEv0} {n : Nat} {self : lSelf} {i5 : Int32} {m : pmI} {D : Nat → Nat → UInt64} {w k : Nat} {W : Wd}
theorem mir_sym {A : Ab} (w : wfA A) : mirA A (aC A) = true ↔ ∀ c : Nat, c < 64 → ¬ spot A c = none → ¬ spot A (mir c) = none := by
  rw [mirA_iff]
  constructor
  · intro h c hc hs
    obtain ⟨j, j1, j2⟩ := spot_iff.mp hs
    rw [j2]
    exact h j j1
  · intro h j hj
    exact h _ (w.2.2.1 j hj).2.1 (spot_iff.mpr ⟨j, hj, rfl⟩)
theorem c_isMirroredR {A : Ab} (h : repC 1 m A) (w : wfA A) (hn : 20 ≤ n) : fX8_isMirroredByRows n m = some (if mirA A (aC A) = true then z 1 else z 0) := by
  have w1 := w.1
  obtain ⟨x, e1, e2⟩ := c_others (n := n) h w hn (a := -1) (by omega)
  unfold fX8_isMirroredByRows
  rw [e1, obind]
  have hb : ∀ c, c < 64 → (bt x c = true ↔ ¬ spot A c = none) := fun c hc => by
    rw [e2 c hc, occ_iff, spot_iff]
    constructor
    · rintro ⟨j, h1, -, h3⟩; exact ⟨j, h1, h3⟩
    · rintro ⟨j, h1, h3⟩; exact ⟨j, h1, by omega, h3⟩
  have e := srch (lX8_isMirroredByRows_l11 n x m) 8 (fun y => !(List.range 8).all (fun q => (col x y).testBit q == (col x y).testBit (7 - q))) (fun _ => z 0) (fun q y hy => by
    show bX8_isMirroredByRows_l11 n x m (lX8_isMirroredByRows_l11 n x m q) (z (y : Int)) = _
    unfold bX8_isMirroredByRows_l11
    obtain ⟨r, r1, r2⟩ := rev_ok (v := col x y) (Nat.mod_lt _ (by decide)) hn m
    rw [if_pos (zlt (by omega)), col_z x hy, r1, obind, z_add]
    by_cases hr : z (col x y : Int) = r
    · have h3 := r2.mp hr
      rw [if_pos hr, if_neg (by
        rw [Bool.not_eq_true', Bool.not_eq_false, List.all_eq_true]
        exact fun q hq => beq_iff_eq.mpr (h3 q (List.mem_range.mp hq)))]
    · rw [if_neg hr, if_pos (by
        rw [Bool.not_eq_true', ← Bool.not_eq_true, List.all_eq_true]
        exact fun h3 => hr (r2.mpr (fun q hq => eq_of_beq (h3 q (List.mem_range.mpr hq)))))]) (fun q => by
    show bX8_isMirroredByRows_l11 n x m (lX8_isMirroredByRows_l11 n x m q) (z ((8 : Nat) : Int)) = _
    unfold bX8_isMirroredByRows_l11
    rw [if_neg (zge (by omega))]) 8 0 n (by omega) (by omega)
  rw [show z 0 = z ((0 : Nat) : Int) from rfl, e]
  cases hs : ff (fun y => !(List.range 8).all (fun q => (col x y).testBit q == (col x y).testBit (7 - q))) 8 0 with
  | none =>
    rw [if_pos ((mir_sym w).mpr (fun c hc hq => ?_))]
    · rfl
    · have h3 := ff_none hs (c / 8) (Nat.zero_le _) (by omega)
      rw [Bool.not_eq_false', List.all_eq_true] at h3
      have h4 := eq_of_beq (h3 (c % 8) (List.mem_range.mpr (Nat.mod_lt _ (by decide))))
      rw [col_bit x (Nat.mod_lt _ (by decide)), col_bit x (by omega), show 8 * (c / 8) + c % 8 = c by omega, show 8 * (c / 8) + (7 - c % 8) = mir c from rfl] at h4
      rw [← hb _ (mir_lt hc), ← h4, hb _ hc]
      exact hq
  | some y =>
    have hy := ff_some hs
    rw [if_neg (fun hm => ?_)]
    · rfl
    · have h3 := hy.2.2.1
      rw [Bool.not_eq_true', ← Bool.not_eq_true, List.all_eq_true] at h3
      apply h3
      intro q hq
      have hq8 := List.mem_range.mp hq
      apply beq_iff_eq.mpr
      rw [col_bit x hq8, col_bit x (by omega)]
      have hM := (mir_sym w).mp hm
      have s1 := hM (8 * y + q) (by omega)
      have s2 := hM (8 * y + (7 - q)) (by omega)
      rw [show mir (8 * y + q) = 8 * y + (7 - q) by unfold mir; omega] at s1
      rw [show mir (8 * y + (7 - q)) = 8 * y + q by unfold mir; omega] at s2
      rw [← hb _ (by omega), ← hb _ (by omega)] at s1 s2
      rw [Bool.eq_iff_iff]
      exact ⟨s1, s2⟩
end LAW11

