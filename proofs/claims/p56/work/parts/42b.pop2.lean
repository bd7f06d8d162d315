/-! how many bits: the last three steps -/
theorem bc_fin {x : Nat} (hx : x < 2 ^ 64) : ∃ y u v : Nat, y = bc 8 x ∧ y < 1152921504606846976 ∧ u = y + y / 256 ∧ v = u + u / 65536 ∧ v < 4611686018427387904 ∧ v / 4294967296 < 4294967296 ∧ (v + v / 4294967296) % 128 = cnt (fun i => x.testBit i) 64 := by
  obtain ⟨p0, p1, p2, p3, p4, p5, p6, p7, ⟨h0, h1, h2, h3, h4, h5, h6, h7⟩, hb, hc⟩ := bc_bytes hx
  obtain ⟨z6, k6⟩ : ∃ z6, z6 = p6 + 256 * p7 := ⟨_, rfl⟩
  obtain ⟨z5, k5⟩ : ∃ z5, z5 = p5 + 256 * z6 := ⟨_, rfl⟩
  obtain ⟨z4, k4⟩ : ∃ z4, z4 = p4 + 256 * z5 := ⟨_, rfl⟩
  obtain ⟨z3, k3⟩ : ∃ z3, z3 = p3 + 256 * z4 := ⟨_, rfl⟩
  obtain ⟨z2, k2⟩ : ∃ z2, z2 = p2 + 256 * z3 := ⟨_, rfl⟩
  have hy : bc 8 x = p0 + 256 * (p1 + 256 * z2) := by
    rw [hb, k2, k3, k4, k5, k6]
    rfl
  have l6 : z6 ≤ 2056 := by omega
  have l5 : z5 ≤ 526344 := by omega
  have l4 : z4 ≤ 134744072 := by omega
  have l3 : z3 ≤ 34494482440 := by omega
  have l2 : z2 ≤ 8830587504648 := by omega
  have d1 : (p0 + 256 * (p1 + 256 * z2)) / 256 = p1 + 256 * z2 := by
    clear hb hc hy k2 k3 k4 k5 k6
    omega
  have d2 : (p0 + 256 * (p1 + 256 * z2) + (p1 + 256 * z2)) / 65536 = z2 + z3 := by
    clear hb hc hy k3 k4 k5 k6 d1
    omega
  have s45 : z4 + z5 = (p4 + p5) + 256 * (z5 + z6) := by
    clear hb hc hy d1 d2
    omega
  have s24 : z2 + z3 = (p2 + p3) + 256 * (z3 + z4) := by
    clear hb hc hy d1 d2
    omega
  have s34 : z3 + z4 = (p3 + p4) + 256 * (z4 + z5) := by
    clear hb hc hy d1 d2 s45 s24
    omega
  have s56 : z5 + z6 = (p5 + p6) + 256 * (z6 + p7) := by
    clear hb hc hy d1 d2 s45 s24 s34
    omega
  obtain ⟨v, kv⟩ : ∃ v, v = p0 + 256 * (p1 + 256 * z2) + (p1 + 256 * z2) + (z2 + z3) := ⟨_, rfl⟩
  have v1 : v = (p0 + p1 + p2 + p3) + 256 * (p1 + p2 + p3 + p4) + 65536 * ((z2 + z3) + (z4 + z5)) := by
    clear hb hc hy d1 d2 s45 s56 k5 k6
    omega
  have s25 : (z2 + z3) + (z4 + z5) = (p2 + p3 + p4 + p5) + 256 * (p3 + p4 + p5 + p6) + 65536 * ((z4 + z5) + (z6 + p7)) := by
    clear hb hc hy d1 d2 kv v1 k2 k3 k4 k5 k6
    omega
  have d3 : v / 4294967296 = (z4 + z5) + (z6 + p7) := by
    rw [v1, s25]
    clear hb hc hy d1 d2 kv v1 k2 k3 k4 k5 k6 s45 s24 s34 s56 s25
    omega
  have s47 : (z4 + z5) + (z6 + p7) = (p4 + p5 + p6 + p7) + 256 * ((z5 + z6) + p7) := by
    clear hb hc hy d1 d2 kv v1 s24 s34 s25 d3 k2 k3
    omega
  refine ⟨bc 8 x, _, v, rfl, by rw [hy]; omega, rfl, ?_, ?_, ?_, ?_⟩
  · rw [hy, d1, d2, kv]
  · rw [kv]
    omega
  · rw [d3]
    omega
  · rw [d3, v1, s47, hc]
    clear hb hc hy d1 d2 kv v1 s24 s34 s25 d3 k2 k3 s45 s56 k4 k5 k6 s47 l2 l3 l4 l5 l6
    omega

