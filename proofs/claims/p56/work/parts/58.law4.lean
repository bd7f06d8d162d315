/-! the law, call by call: unpair, removeExit, isFree, lostNailsByParts, type, charAt -/
theorem nar_c (x : Int32) : vp_nar .char x = (Int32.toUInt32 x % 65536).toInt32 := rfl
theorem ch_of (a : Int32) : ∃ c : Nat, c < 65536 ∧ (Int32.toUInt32 a % 65536).toInt32 = z (c : Int) := by
  have h1 : (Int32.toUInt32 a % 65536).toNat < 65536 := by
    rw [UInt32.toNat_mod]
    exact Nat.mod_lt _ (by decide)
  refine ⟨(Int32.toUInt32 a % 65536).toNat, h1, ?_⟩
  rw [← Int32.toInt_inj, z_toInt (by omega)]
  show (Int32.toUInt32 a % 65536).toBitVec.toInt = _
  rw [BitVec.toInt_eq_toNat_of_lt (by show 2 * (Int32.toUInt32 a % 65536).toNat < 2 ^ 32; omega)]
  rfl
theorem ch_z {c : Nat} (hc : c < 65536) : (Int32.toUInt32 (z (c : Int)) % 65536).toInt32 = z (c : Int) := by
  have h0 : (Int32.toUInt32 (z (c : Int))).toNat = c := by
    show (z (c : Int)).toBitVec.toNat = c
    have : (z (c : Int)).toBitVec.toInt = (c : Int) := z_toInt (k := (c : Int)) (by omega)
    rw [BitVec.toInt_eq_toNat_cond] at this
    split at this
    · omega
    · have := (z (c : Int)).toBitVec.isLt
      omega
  rw [← Int32.toInt_inj, z_toInt (by omega)]
  show (Int32.toUInt32 (z (c : Int)) % 65536).toBitVec.toInt = _
  have h1 : (Int32.toUInt32 (z (c : Int)) % 65536).toBitVec.toNat = c := by
    show (Int32.toUInt32 (z (c : Int)) % 65536).toNat = c
    rw [UInt32.toNat_mod, h0]
    exact Nat.mod_eq_of_lt hc
  rw [BitVec.toInt_eq_toNat_of_lt (by rw [h1]; omega), h1]
theorem m_afterX {m m1 m2 : pmI} {W : Wd} (h : mInv m W) (k : m1.2 = m.2 ∧ (∀ i, ¬ i = 113 → ¬ i = 115 → m1.1 i = m.1 i) ∧ (∀ k, ¬ k = 10 → m1.1 113 k = m.1 113 k) ∧ ∀ b, b < 188 → m1.1 115 b = m.1 114 b) (f : mfr m1 m2) (r : m2.1 114 = m1.1 114) : mOut m m2 ∧ mInv m2 W := by
  obtain ⟨j1, o1, f1, k1⟩ := k
  obtain ⟨a2, b2, c2⟩ := f
  refine ⟨⟨fun i hi => by rw [a2 i (by omega), o1 i (by omega) (by omega)], by rw [b2, j1]⟩, mInv_fr h (fun i h1 h2 h3 => ?_) (fun q hq => by rw [c2 q hq, f1 q (by omega)])⟩
  by_cases e : i = 114
  · rw [e, r, o1 114 (by decide) (by decide)]
  · rw [a2 i (by omega), o1 i (by omega) (by omega)]
section LAW4
variable {E : pmEv0} {n : Nat} {self : lSelf} {i5 : Int32} {m : pmI} {D : Nat → Nat → UInt64} {w k : Nat} {W : Wd}
def mR (W : Wd) (m1 : pmI) (r : Option (Int32 × pmI)) (s : Int × Int × Ab) : Prop := ∃ m2, r = some (z s.2.1, m2) ∧ m2.1 113 10 = z s.1 ∧ mOut m1 m2 ∧ mInv m2 (if s.1 = 0 then wPut W s.2.2 else W)
end LAW4

