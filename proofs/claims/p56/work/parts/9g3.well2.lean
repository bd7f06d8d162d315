/-! the law's isWell: cell by cell -/
section WAR
variable {P : Nat → Bool}
/-- two cells of one area: the same cells are reached -/
theorem K_same {a b : Nat} (ha : a < 64) (hb : b < 64) (hp : P a = false) (h : K P a b = true) : cnt (K P a) 64 = cnt (K P b) 64 := by
  have hpb := K_op hp h
  have hs := K_sy ha hp h
  refine cnt_congr (fun x _ => ?_)
  cases h1 : K P a x with
  | true => exact (K_tr hb ha hs h1).symm
  | false =>
    cases h2 : K P b x with
    | false => rfl
    | true => rw [K_tr ha hb h h2] at h1; cases h1
/-- its first cell -/
theorem lead_ex {c : Nat} (hc : c < 64) (hp : P c = false) : ∃ l, l < 64 ∧ lead P l = true ∧ K P l c = true := by
  cases h : ff (fun b => !P b && K P b c) 64 0 with
  | none =>
    have := ff_none h c (Nat.zero_le _) (by omega)
    rw [hp, K_rf] at this
    cases this
  | some l =>
    obtain ⟨-, h2, h3, h4⟩ := ff_some h
    rw [Bool.and_eq_true, Bool.not_eq_true'] at h3
    refine ⟨l, by omega, lead_iff.mpr ⟨h3.1, fun b hb hpb => ?_⟩, h3.2⟩
    cases hk : K P b l with
    | false => rfl
    | true =>
      have h5 := h4 b (Nat.zero_le _) hb
      rw [hpb, K_tr (by omega) (by omega) hk h3.2] at h5
      cases h5
theorem lead_un {a b c : Nat} (ha : a < 64) (hb : b < 64) (hc : c < 64) (la : lead P a = true) (lb : lead P b = true) (h1 : K P a c = true) (h2 : K P b c = true) : a = b := by
  obtain ⟨pa, qa⟩ := lead_iff.mp la
  obtain ⟨pb, qb⟩ := lead_iff.mp lb
  rcases Nat.lt_trichotomy a b with h | h | h
  · have := qb a h pa
    rw [K_tr ha hc h1 (K_sy hb pb h2)] at this
    cases this
  · exact h
  · have := qa b h pb
    rw [K_tr hb hc h2 (K_sy ha pa h1)] at this
    cases this
theorem lead_sum {c : Nat} (hc : c < 64) (v : Nat) : nsum (fun l => if (lead P l && K P l c) = true then v else 0) 64 = if P c = true then 0 else v := by
  by_cases hp : P c = true
  · rw [if_pos hp]
    refine nsum_none (fun l hl => if_neg (fun h => ?_))
    rw [Bool.and_eq_true] at h
    have := K_op (lead_iff.mp h.1).1 h.2
    rw [hp] at this
    cases this
  · rw [if_neg hp]
    obtain ⟨l, l1, l2, l3⟩ := lead_ex hc (Bool.eq_false_iff.mpr hp)
    rw [nsum_one (j := l) l1 (fun i hi hne => if_neg (fun h => ?_)), if_pos (by rw [l2, l3]; rfl)]
    rw [Bool.and_eq_true] at h
    exact hne (lead_un hi l1 hc h.1 l2 h.2 l3)
end WAR
/-- what a cell counts among the parts -/
def qA (A : Ab) (c : Nat) : Nat := if szA A c = 0 then 0 else 1000000 / szA A c
theorem parts_eq (A : Ab) : nsum (qA A) 64 = nsum (fun l => if lead (aP A) l = true then cnt (K (aP A) l) 64 * (1000000 / cnt (K (aP A) l) 64) else 0) 64 := by
  have e1 : nsum (qA A) 64 = nsum (fun c => nsum (fun l => if (lead (aP A) l && K (aP A) l c) = true then qA A c else 0) 64) 64 := by
    refine nsum_congr (fun c hc => ?_)
    rw [lead_sum hc]
    by_cases hp : aP A c = true
    · rw [if_pos hp]
      unfold qA szA
      rw [if_pos hp, if_pos rfl]
    · rw [if_neg hp]
  rw [e1, nsum_swap]
  refine nsum_congr (fun l hl => ?_)
  by_cases h : lead (aP A) l = true
  · rw [if_pos h]
    have hpl := (lead_iff.mp h).1
    have e2 : ∀ c, c < 64 → (if (lead (aP A) l && K (aP A) l c) = true then qA A c else 0) = (1000000 / cnt (K (aP A) l) 64) * (if K (aP A) l c = true then 1 else 0) := by
      intro c hc
      by_cases hk : K (aP A) l c = true
      · have hpc := K_op hpl hk
        have hs : szA A c = cnt (K (aP A) l) 64 := by
          unfold szA
          rw [hpc, if_neg (by decide)]
          exact (K_same hl hc hpl hk).symm
        have hpos : 1 ≤ cnt (K (aP A) l) 64 := cnt_pos (P := K (aP A) l) K_rf hl
        rw [if_pos (by rw [h, hk]; rfl), if_pos hk, Nat.mul_one]
        unfold qA
        rw [hs, if_neg (by omega)]
      · rw [if_neg (by rw [Bool.and_eq_true]; exact fun h => hk h.2), if_neg hk, Nat.mul_zero]
    rw [nsum_congr e2, nsum_mul, nsum_cnt, Nat.mul_comm]
  · rw [if_neg h]
    exact nsum_none (fun c _ => if_neg (by rw [Bool.and_eq_true]; exact fun g => h g.1))
theorem sizes_le (A : Ab) : nsum (fun l => if lead (aP A) l = true then cnt (K (aP A) l) 64 else 0) 64 ≤ 64 := by
  have e1 : nsum (fun l => if lead (aP A) l = true then cnt (K (aP A) l) 64 else 0) 64 = nsum (fun l => nsum (fun c => if (lead (aP A) l && K (aP A) l c) = true then 1 else 0) 64) 64 := by
    refine nsum_congr (fun l hl => ?_)
    by_cases h : lead (aP A) l = true
    · rw [if_pos h, ← nsum_cnt]
      refine nsum_congr (fun c _ => ?_)
      rw [h, Bool.true_and]
    · rw [if_neg h]
      exact (nsum_none (fun c _ => if_neg (by rw [Bool.and_eq_true]; exact fun g => h g.1))).symm
  rw [e1, nsum_swap]
  have h2 : nsum (fun c => nsum (fun l => if (lead (aP A) l && K (aP A) l c) = true then 1 else 0) 64) 64 ≤ nsum (fun _ => 1) 64 := by
    refine nsum_mono (fun c hc => ?_)
    rw [lead_sum hc]
    split <;> omega
  rw [nsum_k] at h2
  omega
/-- the parts come to the areas' number -/
theorem parts_ar (A : Ab) : (nsum (qA A) 64 + 500000) / 1000000 = cnt (lead (aP A)) 64 ∧ nsum (qA A) 64 ≤ 64000000 := by
  have hs := sizes_le A
  have hl := cnt_le (lead (aP A)) 64
  have hi : nsum (qA A) 64 ≤ 1000000 * cnt (lead (aP A)) 64 := by
    rw [parts_eq, ← nsum_cnt, ← nsum_mul]
    refine nsum_mono (fun l _ => ?_)
    by_cases h : lead (aP A) l = true
    · rw [if_pos h, if_pos h]
      have := Nat.mul_div_le 1000000 (cnt (K (aP A) l) 64)
      omega
    · rw [if_neg h, if_neg h]
      omega
  have lo : 1000000 * cnt (lead (aP A)) 64 ≤ nsum (qA A) 64 + nsum (fun l => if lead (aP A) l = true then cnt (K (aP A) l) 64 else 0) 64 := by
    rw [parts_eq, ← nsum_cnt, ← nsum_mul, ← nsum_add]
    refine nsum_mono (fun l hl => ?_)
    by_cases h : lead (aP A) l = true
    · rw [if_pos h, if_pos h, if_pos h]
      have hpos : 1 ≤ cnt (K (aP A) l) 64 := cnt_pos (P := K (aP A) l) K_rf hl
      have h1 := Nat.div_add_mod 1000000 (cnt (K (aP A) l) 64)
      have h2 := Nat.mod_lt 1000000 (show cnt (K (aP A) l) 64 > 0 by omega)
      omega
    · rw [if_neg h, if_neg h, if_neg h]
      omega
  omega
/-! longs -/
def zl (k : Int) : Int64 := Int64.ofInt k
theorem zl_toInt {k : Int} (h : -9223372036854775808 ≤ k ∧ k < 9223372036854775808) : (zl k).toInt = k := Int64.toInt_ofInt_of_le h.1 h.2
theorem zl_add (a b : Int) : zl a + zl b = zl (a + b) := (Int64.ofInt_add a b).symm
theorem zl_of {k : Int} (h : -2147483648 ≤ k ∧ k < 2147483648) : Int32.toInt64 (z k) = zl k := by
  rw [← Int64.toInt_inj, zl_toInt (by omega)]
  show (Int32.toInt64 (z k)).toInt = k
  rw [Int32.toInt_toInt64, z_toInt h]
theorem zl_div {a b : Nat} (h : a < 2147483648 ∧ 0 < b ∧ b < 2147483648) : zl (a : Int) / zl (b : Int) = zl ((a / b : Nat) : Int) := by
  have hb : zl (b : Int) ≠ -1 := fun e => by
    have e2 := congrArg Int64.toInt e
    rw [zl_toInt (by omega)] at e2
    have : (-1 : Int64).toInt = -1 := by decide
    omega
  obtain ⟨q, hq, hq2⟩ : ∃ q, a / b = q ∧ q ≤ a := ⟨_, rfl, Nat.div_le_self a b⟩
  rw [hq, ← Int64.toInt_inj, Int64.toInt_div_of_ne_right _ _ hb, zl_toInt (by omega), zl_toInt (by omega), zl_toInt (by omega), ← hq]
  exact (Int.ofNat_tdiv a b).symm
theorem zl_fin (A : Ab) : (zl (nsum (qA A) 64 : Int) + (500000 : Int64)) / (1000000 : Int64) = zl (cnt (lead (aP A)) 64 : Int) := by
  obtain ⟨h1, h2⟩ := parts_ar A
  rw [show (500000 : Int64) = zl ((500000 : Nat) : Int) from rfl, show (1000000 : Int64) = zl ((1000000 : Nat) : Int) from rfl, zl_add, show (nsum (qA A) 64 : Int) + ((500000 : Nat) : Int) = ((nsum (qA A) 64 + 500000 : Nat) : Int) by omega, zl_div (by omega), h1]
theorem z_md8 {c : Nat} (hc : c < 64) : z (c : Int) - z (c : Int) / z 8 * z 8 = z ((c % 8 : Nat) : Int) := by
  rw [z_div8 c hc, show z 8 = z ((8 : Nat) : Int) from rfl, z_mul, z_sub]
  congr 1
  omega
theorem adj_r {c : Nat} (hc : c < 64) (h : c % 8 < 7) : adj c (c + 1) = true := by
  have : ∀ c : Nat, c < 64 → c % 8 < 7 → adj c (c + 1) = true := by decide +kernel
  exact this c hc h
section WEL2
variable {n : Nat} {W : Wd}
abbrev lWe2 : Type := Int64 → Int32 → pmI → Nat → Option ((Int64 × pmI × Nat) ⊕ (Int32 × pmI × Nat))
theorem sz_next {A : Ab} {c : Nat} (hc : c < 64) (h7 : c % 8 < 7) (h1 : szA A c ≠ 0) (h2 : szA A (c + 1) ≠ 0) : szA A (c + 1) = szA A c := by
  have p1 : aP A c = false := Bool.eq_false_iff.mpr (fun h => h1 (by unfold szA; rw [if_pos h]))
  have p2 : aP A (c + 1) = false := Bool.eq_false_iff.mpr (fun h => h2 (by unfold szA; rw [if_pos h]))
  unfold szA
  rw [p1, p2, if_neg (by decide), if_neg (by decide)]
  exact (K_same hc (by omega) p1 (K_st hc hc K_rf (adj_r hc h7) p2)).symm
theorem well_293 {m : pmI} (h : cInv m W) (hn : 200 ≤ n) {i1 i2 i3 : Int32} {self : lWe2} {s : Int64} {c w : Nat} (hc : c < 64) (v : Int32) : ∃ m', jL_isWell_0_293 n i1 i2 i3 self s (z (c : Int)) (z (szA (wA W) c : Int)) v v m w = self s (z (c : Int) + z 1) m' w ∧ cInv m' W := by
  have hle := szA_le (A := wA W) (c := c)
  unfold jL_isWell_0_293
  rw [if_pos rfl, z_md8 hc, z_div8 c hc]
  by_cases h7 : c % 8 < 7
  · rw [if_pos (zlt (by omega))]
    by_cases h0 : szA (wA W) c = 0
    · rw [h0, if_neg (zge (by omega))]
      exact ⟨m, rfl, h⟩
    · rw [if_pos (zlt (by omega)), show z ((c % 8 : Nat) : Int) + z 1 = z (((c + 1) % 8 : Nat) : Int) by rw [z_add]; congr 1; omega, show z ((c / 8 : Nat) : Int) = z (((c + 1) / 8 : Nat) : Int) by congr 2; omega]
      obtain ⟨m1, e1, i1⟩ := y_size h hn (c := c + 1) (by omega)
      obtain ⟨m2, e2, i2⟩ := y_size i1 hn (c := c + 1) (by omega)
      have hle2 := szA_le (A := wA W) (c := c + 1)
      rw [e1, obind, oT_l]
      by_cases h1 : szA (wA W) (c + 1) = 0
      · rw [h1, if_neg (zge (by omega))]
        exact ⟨m1, rfl, i1⟩
      · rw [if_pos (zlt (by omega)), e2, obind, oT_l, if_pos (by rw [sz_next hc h7 h0 h1])]
        exact ⟨m2, rfl, i2⟩
  · rw [if_neg (zge (by omega))]
    exact ⟨m, rfl, h⟩
theorem well_249 {m : pmI} (h : cInv m W) (hn : 200 ≤ n) {i1 i2 i3 : Int32} {self : lWe2} {s0 s1 : Int64} {c w : Nat} (hc : c < 64) : ∃ m', jL_isWell_0_249 n i1 i2 i3 self (z (c : Int)) (z (szA (wA W) c : Int)) s0 s1 m w = self (s0 + s1) (z (c : Int) + z 1) m' w ∧ cInv m' W := by
  have hle := szA_le (A := wA W) (c := c)
  unfold jL_isWell_0_249
  rw [z_md8 hc, z_div8 c hc, y_free h hn hc, obind, oT_l]
  by_cases h0 : szA (wA W) c = 0
  · have hp : aP (wA W) c = true := by
      cases hp : aP (wA W) c with
      | true => rfl
      | false => have := szA_pos hc hp; omega
    rw [h0, if_neg (zge (by omega)), if_pos (Or.inl hp)]
    unfold jL_isWell_0_292
    have := well_293 h hn (i1 := i1) (i2 := i2) (i3 := i3) (self := self) (s := s0 + s1) (w := w) hc (z 0)
    rw [h0] at this
    exact this
  · have hp : aP (wA W) c = false := Bool.eq_false_iff.mpr (fun h => h0 (by unfold szA; rw [if_pos h]))
    rw [if_pos (zlt (by omega)), y_on h hn hc, obind]
    cases hs : spot (wA W) (c : Int) with
    | none =>
      dsimp only
      rw [if_pos (zlt (by omega)), if_neg (by rw [hp]; exact fun h => h.elim (fun h => by cases h) (fun h => h rfl))]
      exact well_293 h hn hc (z 1)
    | some j =>
      have hj := spot_ce hs
      have := (h.2.1.2.2.1 j hj.1).1
      have := h.2.1.2.1
      dsimp only
      rw [if_neg (zge (by omega)), if_pos (Or.inr (Option.some_ne_none j))]
      unfold jL_isWell_0_292
      exact well_293 h hn hc (z 0)
theorem well_l208 (hn : 200 ≤ n) {i1 i2 i3 : Int32} : ∀ (d c q w : Nat) (m : pmI), cInv m W → c + d = 64 → d < q → ∃ m', lL_isWell_0_l208 n i1 i2 i3 q (zl (nsum (qA (wA W)) c : Int)) (z (c : Int)) m w = some (.inl (zl (nsum (qA (wA W)) 64 : Int), m', w)) ∧ cInv m' W
  | 0, c, q + 1, w, m, h, hc, _ => by
    obtain rfl : c = 64 := by omega
    refine ⟨m, ?_, h⟩
    show bL_isWell_0_l208 n i1 i2 i3 (lL_isWell_0_l208 n i1 i2 i3 q) _ _ _ _ = _
    unfold bL_isWell_0_l208
    rw [if_neg (zge (by omega))]
  | d + 1, c, q + 1, w, m, h, hc, hq => by
    have hc4 : c < 64 := by omega
    have hle := szA_le (A := wA W) (c := c)
    obtain ⟨m1, e1, j1⟩ := y_size h hn hc4
    have unf : lL_isWell_0_l208 n i1 i2 i3 (q + 1) (zl (nsum (qA (wA W)) c : Int)) (z (c : Int)) m w = bL_isWell_0_l208 n i1 i2 i3 (lL_isWell_0_l208 n i1 i2 i3 q) (zl (nsum (qA (wA W)) c : Int)) (z (c : Int)) m w := rfl
    rw [unf]
    unfold bL_isWell_0_l208
    rw [if_pos (zlt (by omega)), z_md8 hc4, z_div8 c hc4, e1, obind, oT_l]
    have go : ∀ s1, zl (nsum (qA (wA W)) c : Int) + s1 = zl (nsum (qA (wA W)) (c + 1) : Int) → ∃ m', jL_isWell_0_249 n i1 i2 i3 (lL_isWell_0_l208 n i1 i2 i3 q) (z (c : Int)) (z (szA (wA W) c : Int)) (zl (nsum (qA (wA W)) c : Int)) s1 m1 w = some (.inl (zl (nsum (qA (wA W)) 64 : Int), m', w)) ∧ cInv m' W := by
      intro s1 hs
      obtain ⟨m2, e2, j2⟩ := well_249 j1 hn (i1 := i1) (i2 := i2) (i3 := i3) (self := lL_isWell_0_l208 n i1 i2 i3 q) (s0 := zl (nsum (qA (wA W)) c : Int)) (s1 := s1) (w := w) hc4
      obtain ⟨m3, e3, j3⟩ := well_l208 hn (i1 := i1) (i2 := i2) (i3 := i3) d (c + 1) q w m2 j2 (by omega) (by omega)
      refine ⟨m3, ?_, j3⟩
      rw [e2, hs, z_add]
      exact e3
    by_cases h0 : szA (wA W) c = 0
    · rw [if_pos (show z (szA (wA W) c : Int) = z 0 by rw [h0]; rfl)]
      refine go 0 ?_
      rw [show (0 : Int64) = zl 0 from rfl, zl_add, nsum_s]
      congr 1
      unfold qA
      rw [if_pos h0]
      omega
    · rw [if_neg (zne (by omega)), if_pos (show ¬ z (szA (wA W) c : Int) = (0 : Int32) from (zne (by omega) : ¬ z (szA (wA W) c : Int) = z 0))]
      refine go _ ?_
      obtain ⟨v9, hv9, hv8⟩ : ∃ v, 1000000 / szA (wA W) c = v ∧ v ≤ 1000000 := ⟨_, rfl, Nat.div_le_self _ _⟩
      rw [show z 1000000 = z ((1000000 : Nat) : Int) from rfl, z_div (by omega), hv9, zl_of (by omega), zl_add, nsum_s]
      congr 1
      unfold qA
      rw [if_neg h0, hv9]
      omega
end WEL2
