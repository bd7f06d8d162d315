/-! how many bits: the JDK's code -/
def nn (e : Int64) : Nat := e.toBitVec.toNat
theorem nn_lt (e : Int64) : nn e < 18446744073709551616 := e.toBitVec.isLt
theorem nn_and (a b : Int64) : nn (a &&& b) = nn a &&& nn b := BitVec.toNat_and _ _
theorem nn_sub {a b : Int64} (h : nn b ≤ nn a) : nn (a - b) = nn a - nn b := by
  show (a.toBitVec - b.toBitVec).toNat = _
  exact BitVec.toNat_sub_of_le (BitVec.le_def.mpr h)
theorem nn_add {a b : Int64} (h : nn a + nn b < 18446744073709551616) : nn (a + b) = nn a + nn b := by
  show (a.toBitVec + b.toBitVec).toNat = _
  rw [BitVec.toNat_add]
  exact Nat.mod_eq_of_lt h
theorem nn_shr (e : Int64) {k : Nat} (hk : k < 64) : nn (Int64.toUInt64 e >>> UInt64.ofNat k).toInt64 = nn e / 2 ^ k := by
  show (e.toBitVec >>> ((UInt64.ofNat k).toBitVec % 64)).toNat = _
  have h2 : ((UInt64.ofNat k).toBitVec % 64).toNat = k := by
    rw [BitVec.toNat_umod]
    show k % 2 ^ 64 % 64 = k
    omega
  show (BitVec.ushiftRight e.toBitVec ((UInt64.ofNat k).toBitVec % 64).toNat).toNat = _
  rw [h2]
  show (e.toBitVec >>> k).toNat = _
  rw [BitVec.toNat_ushiftRight, Nat.shiftRight_eq_div_pow]
  rfl
theorem nn_5 : nn 6148914691236517205 = msk 85 8 := by decide +kernel
theorem nn_3 : nn 3689348814741910323 = msk 51 8 := by decide +kernel
theorem nn_f : nn 1085102592571150095 = msk 15 8 := by decide +kernel
theorem s64_1 : ((Int32.toInt64 (z 1)).toUInt64 &&& Int64.toUInt64 63) = UInt64.ofNat 1 := by decide +kernel
theorem s64_2 : ((Int32.toInt64 (z 2)).toUInt64 &&& Int64.toUInt64 63) = UInt64.ofNat 2 := by decide +kernel
theorem s64_4 : ((Int32.toInt64 (z 4)).toUInt64 &&& Int64.toUInt64 63) = UInt64.ofNat 4 := by decide +kernel
theorem s64_8 : ((Int32.toInt64 (z 8)).toUInt64 &&& Int64.toUInt64 63) = UInt64.ofNat 8 := by decide +kernel
theorem s64_16 : ((Int32.toInt64 (z 16)).toUInt64 &&& Int64.toUInt64 63) = UInt64.ofNat 16 := by decide +kernel
theorem s64_32 : ((Int32.toInt64 (z 32)).toUInt64 &&& Int64.toUInt64 63) = UInt64.ofNat 32 := by decide +kernel
theorem nn_127 (e : Int64) : Int64.toInt32 e &&& z 127 = z ((nn e % 128 : Nat) : Int) := by
  have hc : nn e % 128 < 128 := Nat.mod_lt _ (by decide)
  rw [← Int32.toBitVec_inj]
  apply BitVec.eq_of_toNat_eq
  have e1 : (z ((nn e % 128 : Nat) : Int)).toBitVec.toNat = nn e % 128 := by
    have h1 : (z ((nn e % 128 : Nat) : Int)).toBitVec.toInt = ((nn e % 128 : Nat) : Int) := z_toInt (k := ((nn e % 128 : Nat) : Int)) (by omega)
    rw [BitVec.toInt_eq_toNat_cond] at h1
    split at h1
    · omega
    · have := (z ((nn e % 128 : Nat) : Int)).toBitVec.isLt
      omega
  rw [e1]
  have e2 : (z 127).toBitVec = 127#32 := by decide
  show ((Int64.toInt32 e).toBitVec &&& (z 127).toBitVec).toNat = nn e % 128
  rw [e2, BitVec.toNat_and]
  have e3 : (Int64.toInt32 e).toBitVec.toNat = nn e % 2 ^ 32 := by
    show (BitVec.signExtend 32 e.toBitVec).toNat = _
    rw [BitVec.signExtend_eq_setWidth_of_le _ (by decide), BitVec.toNat_setWidth]
    rfl
  rw [e3]
  show nn e % 2 ^ 32 &&& (2 ^ 7 - 1) = nn e % 128
  rw [Nat.and_two_pow_sub_one_eq_mod]
  omega
theorem f_bitCount' (x : Int64) (m : pmI) : fJ13_bitCount_95d88 x m = some (z (cnt (bt x) 64)) := by
  unfold fJ13_bitCount_95d88
  simp only [s64_1, s64_2, s64_4, s64_8, s64_16, s64_32]
  have hx := nn_lt x
  obtain ⟨i1, k1⟩ : ∃ i1, x - ((Int64.toUInt64 x >>> UInt64.ofNat 1).toInt64 &&& (6148914691236517205 : Int64)) = i1 := ⟨_, rfl⟩
  have n1 : nn i1 = bc1 8 (nn x) := by
    have h1 : nn ((Int64.toUInt64 x >>> UInt64.ofNat 1).toInt64 &&& (6148914691236517205 : Int64)) = (nn x / 2) &&& msk 85 8 := by rw [nn_and, nn_shr x (by decide), nn_5]
    rw [← k1, nn_sub (by rw [h1]; exact Nat.le_trans Nat.and_le_left (Nat.div_le_self _ _)), h1]
    rfl
  rw [k1]
  obtain ⟨i2, k2⟩ : ∃ i2, (i1 &&& (3689348814741910323 : Int64)) + ((Int64.toUInt64 i1 >>> UInt64.ofNat 2).toInt64 &&& (3689348814741910323 : Int64)) = i2 := ⟨_, rfl⟩
  have m3 : msk 51 8 = 3689348814741910323 := by decide
  have b2 : bc2 8 (bc1 8 (nn x)) ≤ 7378697629483820646 := by
    unfold bc2
    have a1 : bc1 8 (nn x) &&& msk 51 8 ≤ msk 51 8 := Nat.and_le_right
    have a2 : bc1 8 (nn x) / 4 &&& msk 51 8 ≤ msk 51 8 := Nat.and_le_right
    omega
  have n2 : nn i2 = bc2 8 (bc1 8 (nn x)) := by
    have h1 : nn (i1 &&& (3689348814741910323 : Int64)) = bc1 8 (nn x) &&& msk 51 8 := by rw [nn_and, n1, nn_3]
    have h2 : nn ((Int64.toUInt64 i1 >>> UInt64.ofNat 2).toInt64 &&& (3689348814741910323 : Int64)) = (bc1 8 (nn x) / 4) &&& msk 51 8 := by rw [nn_and, nn_shr i1 (by decide), n1, nn_3]
    have h3 : bc2 8 (bc1 8 (nn x)) = (bc1 8 (nn x) &&& msk 51 8) + ((bc1 8 (nn x) / 4) &&& msk 51 8) := rfl
    rw [← k2, nn_add (by rw [h1, h2]; omega), h1, h2]
    rfl
  rw [k2]
  obtain ⟨i3, k3⟩ : ∃ i3, (i2 + (Int64.toUInt64 i2 >>> UInt64.ofNat 4).toInt64) &&& (1085102592571150095 : Int64) = i3 := ⟨_, rfl⟩
  have n3 : nn i3 = bc 8 (nn x) := by
    have h1 : nn (Int64.toUInt64 i2 >>> UInt64.ofNat 4).toInt64 = nn i2 / 16 := nn_shr i2 (by decide)
    rw [← k3, nn_and, nn_add (by rw [h1, n2]; omega), h1, n2, nn_f]
    rfl
  rw [k3]
  obtain ⟨y, u, v, c1, c2, c3, c4, c5, c6, c7⟩ := bc_fin hx
  obtain ⟨i4, k4⟩ : ∃ i4, i3 + (Int64.toUInt64 i3 >>> UInt64.ofNat 8).toInt64 = i4 := ⟨_, rfl⟩
  have n4 : nn i4 = u := by
    have h1 : nn (Int64.toUInt64 i3 >>> UInt64.ofNat 8).toInt64 = nn i3 / 256 := nn_shr i3 (by decide)
    rw [← k4, nn_add (by rw [h1, n3, ← c1]; omega), h1, n3, ← c1, c3]
  rw [k4]
  obtain ⟨i5, k5⟩ : ∃ i5, i4 + (Int64.toUInt64 i4 >>> UInt64.ofNat 16).toInt64 = i5 := ⟨_, rfl⟩
  have n5 : nn i5 = v := by
    have h1 : nn (Int64.toUInt64 i4 >>> UInt64.ofNat 16).toInt64 = nn i4 / 65536 := nn_shr i4 (by decide)
    rw [← k5, nn_add (by rw [h1, n4]; omega), h1, n4, c4]
  rw [k5]
  have n6 : nn (i5 + (Int64.toUInt64 i5 >>> UInt64.ofNat 32).toInt64) = v + v / 4294967296 := by
    have h1 : nn (Int64.toUInt64 i5 >>> UInt64.ofNat 32).toInt64 = nn i5 / 4294967296 := nn_shr i5 (by decide)
    rw [nn_add (by rw [h1, n5]; omega), h1, n5]
  rw [nn_127, n6, c7]
  rfl

