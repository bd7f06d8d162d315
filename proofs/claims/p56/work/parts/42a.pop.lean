/-! how many bits: the JDK's trick, on whole numbers -/
theorem land_sp {a b c d : Nat} (ha : a < 256) (hc : c < 256) : (a + 256 * b) &&& (c + 256 * d) = (a &&& c) + 256 * (b &&& d) := by
  have hac : a &&& c < 2 ^ 8 := Nat.lt_of_le_of_lt Nat.and_le_left ha
  apply Nat.eq_of_testBit_eq
  intro i
  rw [Nat.testBit_and, show a + 256 * b = 2 ^ 8 * b + a by omega, show c + 256 * d = 2 ^ 8 * d + c by omega, show (a &&& c) + 256 * (b &&& d) = 2 ^ 8 * (b &&& d) + (a &&& c) by omega, Nat.testBit_two_pow_mul_add _ ha, Nat.testBit_two_pow_mul_add _ hc, Nat.testBit_two_pow_mul_add _ hac]
  by_cases h : i < 8
  · rw [if_pos h, if_pos h, if_pos h, Nat.testBit_and]
  · rw [if_neg h, if_neg h, if_neg h, Nat.testBit_and]
/-- a mask of k bytes -/
def msk (c : Nat) : Nat → Nat
  | 0 => 0
  | k + 1 => c + 256 * msk c k
def bc1 (k x : Nat) : Nat := x - ((x / 2) &&& msk 85 k)
def bc2 (k x : Nat) : Nat := (x &&& msk 51 k) + ((x / 4) &&& msk 51 k)
def bc3 (k x : Nat) : Nat := (x + x / 16) &&& msk 15 k
def q1 (lo : Nat) : Nat := lo - ((lo / 2) &&& 85)
def q2 (lo : Nat) : Nat := (q1 lo &&& 51) + ((q1 lo / 4) &&& 51)
theorem pb1 : ∀ lo : Nat, lo < 256 → ∀ b : Nat, b < 2 → (lo / 2 + 128 * b) &&& 85 = (lo / 2) &&& 85 := by decide +kernel
theorem pb1l : ∀ lo : Nat, lo < 256 → (lo / 2) &&& 85 ≤ lo := by decide +kernel
theorem pb2 : ∀ lo : Nat, lo < 256 → ∀ b : Nat, b < 4 → (lo / 4 + 64 * b) &&& 51 = (lo / 4) &&& 51 := by decide +kernel
theorem pb3 : ∀ l : Nat, l < 69 → ∀ b : Nat, b < 5 → (l + l / 16 + 16 * b) &&& 15 = (l + l / 16) &&& 15 := by decide +kernel
theorem pbq : ∀ lo : Nat, lo < 256 → q2 lo < 69 ∧ q2 lo % 16 < 5 ∧ ((q2 lo + q2 lo / 16) &&& 15) = cnt (fun i => lo.testBit i) 8 := by decide +kernel
theorem bc1_st {k lo hi : Nat} (h : lo < 256) : bc1 (k + 1) (lo + 256 * hi) = q1 lo + 256 * bc1 k hi := by
  have h1 := pb1l lo h
  have h2 : (hi / 2) &&& msk 85 k ≤ hi := Nat.le_trans Nat.and_le_left (Nat.div_le_self _ _)
  unfold bc1 q1
  show lo + 256 * hi - (((lo + 256 * hi) / 2) &&& (85 + 256 * msk 85 k)) = _
  rw [show (lo + 256 * hi) / 2 = (lo / 2 + 128 * (hi % 2)) + 256 * (hi / 2) by omega, land_sp (by omega) (by decide), pb1 lo h _ (Nat.mod_lt _ (by decide))]
  omega
theorem q1_lt {lo : Nat} (h : lo < 256) : q1 lo < 256 := Nat.lt_of_le_of_lt (Nat.sub_le _ _) h
theorem bc2_st {k l h : Nat} (hl : l < 256) : bc2 (k + 1) (l + 256 * h) = ((l &&& 51) + ((l / 4) &&& 51)) + 256 * bc2 k h := by
  unfold bc2
  show ((l + 256 * h) &&& (51 + 256 * msk 51 k)) + (((l + 256 * h) / 4) &&& (51 + 256 * msk 51 k)) = _
  rw [land_sp hl (by decide), show (l + 256 * h) / 4 = (l / 4 + 64 * (h % 4)) + 256 * (h / 4) by omega, land_sp (by omega) (by decide), pb2 l hl _ (Nat.mod_lt _ (by decide))]
  omega
def g2 (k x : Nat) : Nat := bc2 k (bc1 k x)
theorem g2_st {k lo hi : Nat} (h : lo < 256) : g2 (k + 1) (lo + 256 * hi) = q2 lo + 256 * g2 k hi := by
  unfold g2
  rw [bc1_st h, bc2_st (q1_lt h)]
  rfl
theorem g2_0 : g2 0 0 = 0 := by decide
theorem g2_nb : ∀ {k x : Nat}, x < 256 ^ k → g2 k x % 16 < 5
  | 0, x, h => by
    obtain rfl : x = 0 := by omega
    rw [g2_0]
    decide
  | k + 1, x, h => by
    rw [show x = x % 256 + 256 * (x / 256) by omega, g2_st (Nat.mod_lt _ (by decide))]
    have := (pbq (x % 256) (Nat.mod_lt _ (by decide))).2.1
    omega
def bc (k x : Nat) : Nat := bc3 k (g2 k x)
theorem bc_st {k lo hi : Nat} (h : lo < 256) (hh : hi < 256 ^ k) : bc (k + 1) (lo + 256 * hi) = cnt (fun i => lo.testBit i) 8 + 256 * bc k hi := by
  unfold bc
  rw [g2_st h]
  obtain ⟨p1, p2, p3⟩ := pbq lo h
  have hn := g2_nb hh
  unfold bc3
  show (q2 lo + 256 * g2 k hi + (q2 lo + 256 * g2 k hi) / 16) &&& (15 + 256 * msk 15 k) = _
  rw [show q2 lo + 256 * g2 k hi + (q2 lo + 256 * g2 k hi) / 16 = (q2 lo + q2 lo / 16 + 16 * (g2 k hi % 16)) + 256 * (g2 k hi + g2 k hi / 16) by omega, land_sp (by omega) (by decide), pb3 _ p1 _ hn, p3]
theorem bc_0 : bc 0 0 = 0 := by decide
theorem cnt_blk {P : Nat → Bool} : ∀ n : Nat, cnt P (8 + n) = cnt P 8 + cnt (fun i => P (8 + i)) n
  | 0 => rfl
  | n + 1 => by
    show cnt P (8 + n) + (if P (8 + n) = true then 1 else 0) = cnt P 8 + (cnt (fun i => P (8 + i)) n + (if P (8 + n) = true then 1 else 0))
    rw [cnt_blk n]
    omega
theorem cnt_tb {lo hi : Nat} (h : lo < 256) (n : Nat) : cnt (fun i => (lo + 256 * hi).testBit i) (8 + n) = cnt (fun i => lo.testBit i) 8 + cnt (fun i => hi.testBit i) n := by
  rw [cnt_blk]
  congr 1
  · refine cnt_congr (fun i hi' => ?_)
    rw [show lo + 256 * hi = 2 ^ 8 * hi + lo by omega, Nat.testBit_two_pow_mul_add _ h, if_pos hi']
  · refine cnt_congr (fun i _ => ?_)
    show (lo + 256 * hi).testBit (8 + i) = hi.testBit i
    rw [show lo + 256 * hi = 2 ^ 8 * hi + lo by omega, Nat.testBit_two_pow_mul_add _ h, if_neg (by omega), show 8 + i - 8 = i by omega]
/-- the bytes' counts -/
theorem bc_bytes {x : Nat} (hx : x < 2 ^ 64) : ∃ p0 p1 p2 p3 p4 p5 p6 p7 : Nat, (p0 ≤ 8 ∧ p1 ≤ 8 ∧ p2 ≤ 8 ∧ p3 ≤ 8 ∧ p4 ≤ 8 ∧ p5 ≤ 8 ∧ p6 ≤ 8 ∧ p7 ≤ 8) ∧ bc 8 x = p0 + 256 * (p1 + 256 * (p2 + 256 * (p3 + 256 * (p4 + 256 * (p5 + 256 * (p6 + 256 * (p7 + 256 * 0))))))) ∧ cnt (fun i => x.testBit i) 64 = p0 + (p1 + (p2 + (p3 + (p4 + (p5 + (p6 + (p7 + 0))))))) := by
  have st : ∀ (k x : Nat), x < 256 ^ (k + 1) → x / 256 < 256 ^ k ∧ bc (k + 1) x = cnt (fun i => (x % 256).testBit i) 8 + 256 * bc k (x / 256) ∧ cnt (fun i => x.testBit i) (8 + 8 * k) = cnt (fun i => (x % 256).testBit i) 8 + cnt (fun i => (x / 256).testBit i) (8 * k) := fun k x h => by
    have h1 : x / 256 < 256 ^ k := Nat.div_lt_of_lt_mul (by rw [Nat.pow_succ] at h; omega)
    have e : x = x % 256 + 256 * (x / 256) := by omega
    refine ⟨h1, ?_, ?_⟩
    · conv => lhs; rw [e]
      exact bc_st (Nat.mod_lt _ (by decide)) h1
    · conv => lhs; rw [e]
      exact cnt_tb (Nat.mod_lt _ (by decide)) _
  obtain ⟨a1, b1, c1⟩ := st 7 x (by show x < 256 ^ 8; omega)
  obtain ⟨a2, b2, c2⟩ := st 6 (x / 256) a1
  obtain ⟨a3, b3, c3⟩ := st 5 (x / 256 / 256) a2
  obtain ⟨a4, b4, c4⟩ := st 4 (x / 256 / 256 / 256) a3
  obtain ⟨a5, b5, c5⟩ := st 3 (x / 256 / 256 / 256 / 256) a4
  obtain ⟨a6, b6, c6⟩ := st 2 (x / 256 / 256 / 256 / 256 / 256) a5
  obtain ⟨a7, b7, c7⟩ := st 1 (x / 256 / 256 / 256 / 256 / 256 / 256) a6
  obtain ⟨a8, b8, c8⟩ := st 0 (x / 256 / 256 / 256 / 256 / 256 / 256 / 256) a7
  have z0 : x / 256 / 256 / 256 / 256 / 256 / 256 / 256 / 256 = 0 := by
    have : x / 256 / 256 / 256 / 256 / 256 / 256 / 256 / 256 < 1 := a8
    omega
  rw [z0, bc_0] at b8
  have c9 : cnt (fun i => (x / 256 / 256 / 256 / 256 / 256 / 256 / 256 / 256).testBit i) (8 * 0) = 0 := rfl
  rw [c9] at c8
  refine ⟨cnt (fun i => ((x) % 256).testBit i) 8, cnt (fun i => ((x / 256) % 256).testBit i) 8, cnt (fun i => ((x / 256 / 256) % 256).testBit i) 8, cnt (fun i => ((x / 256 / 256 / 256) % 256).testBit i) 8, cnt (fun i => ((x / 256 / 256 / 256 / 256) % 256).testBit i) 8, cnt (fun i => ((x / 256 / 256 / 256 / 256 / 256) % 256).testBit i) 8, cnt (fun i => ((x / 256 / 256 / 256 / 256 / 256 / 256) % 256).testBit i) 8, cnt (fun i => ((x / 256 / 256 / 256 / 256 / 256 / 256 / 256) % 256).testBit i) 8, ⟨cnt_le _ 8, cnt_le _ 8, cnt_le _ 8, cnt_le _ 8, cnt_le _ 8, cnt_le _ 8, cnt_le _ 8, cnt_le _ 8⟩, ?_, ?_⟩
  · exact b1.trans (by rw [b2, b3, b4, b5, b6, b7, b8])
  · exact c1.trans (by rw [show 8 * 7 = 8 + 8 * 6 from rfl, c2, show 8 * 6 = 8 + 8 * 5 from rfl, c3, show 8 * 5 = 8 + 8 * 4 from rfl, c4, show 8 * 4 = 8 + 8 * 3 from rfl, c5, show 8 * 3 = 8 + 8 * 2 from rfl, c6, show 8 * 2 = 8 + 8 * 1 from rfl, c7, show 8 * 1 = 8 + 8 * 0 from rfl, c8])

