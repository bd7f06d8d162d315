/-! both sides: props, cells, who stands where -/
theorem rowne {f : Nat → Nat → Int32} {i k a : Nat} {x : Int32} (h : a ≠ i) : pmU f i k x a = f a := by
  funext b
  exact pU_ne _ _ _ _ h
theorem rowneJ {f : Nat → Nat → Int64} {i k a : Nat} {x : Int64} (h : a ≠ i) : pmU f i k x a = f a := by
  funext b
  exact pU_ne _ _ _ _ h
/-- what an inner change of the model leaves -/
def mfr (m m' : pmI) : Prop := (∀ i, ¬ (i = 113 ∨ i = 114 ∨ i = 116 ∨ (119 ≤ i ∧ i ≤ 123)) → m'.1 i = m.1 i) ∧ m'.2 = m.2 ∧ ∀ k, ¬ (k = 10 ∨ k = 13 ∨ k = 14) → m'.1 113 k = m.1 113 k
theorem mfr_rf {m : pmI} : mfr m m := ⟨fun _ _ => rfl, rfl, fun _ _ => rfl⟩
theorem mfr_tr {m m1 m2 : pmI} (h1 : mfr m m1) (h2 : mfr m1 m2) : mfr m m2 := ⟨fun i hi => (h2.1 i hi).trans (h1.1 i hi), h2.2.1.trans h1.2.1, fun k hk => (h2.2.2 k hk).trans (h1.2.2 k hk)⟩
theorem mfr_114 {m : pmI} {k : Nat} {x : Int32} : mfr m (pmU m.1 114 k x, m.2) := ⟨fun i hi => rowne (by omega), rfl, fun b _ => by show pmU m.1 114 k x 113 b = m.1 113 b; rw [rowne (by decide)]⟩
theorem mfr_row {m : pmI} {q k : Nat} {x : Int32} (h : q = 114 ∨ q = 116 ∨ (119 ≤ q ∧ q ≤ 123)) : mfr m (pmU m.1 q k x, m.2) := ⟨fun i hi => rowne (by omega), rfl, fun b _ => by show pmU m.1 q k x 113 b = m.1 113 b; rw [rowne (by omega)]⟩
theorem mfr_113 {m : pmI} {k : Nat} {x : Int32} (h : k = 10 ∨ k = 13 ∨ k = 14) : mfr m (pmU m.1 113 k x, m.2) := ⟨fun i hi => rowne (by omega), rfl, fun b hb => by show pmU m.1 113 k x 113 b = _; rw [pU_row, if_neg (by omega)]⟩
/-- .. of the class -/
def cS (i : Nat) : Bool := decide ((1 ≤ i ∧ i ≤ 8) ∨ (91 ≤ i ∧ i ≤ 106))
theorem thr_at {m : pmI} {t : Int32} : (pmU m.1 113 10 t, m.2).1 113 10 = t := pU_same m.1 113 10 t
theorem m_w (m : pmI) (k : Nat) (x : Int32) : ∃ m', (pmU m.1 114 k x, m.2) = m' ∧ mfr m m' ∧ m'.1 113 = m.1 113 ∧ ∀ b, m'.1 114 b = if b = k then x else m.1 114 b := ⟨_, rfl, mfr_114, rowne (f := m.1) (i := 114) (a := 113) (k := k) (x := x) (by decide), fun b => pU_row m.1 114 k x b⟩
theorem z10 : ¬ z 1 = z 0 := by decide
theorem z01 : ¬ z 0 = z 1 := by decide
theorem zm0 : ¬ z (-1) = z 0 := by decide
def isC (x y : Int) : Prop := (0 ≤ x ∧ x < 8) ∧ 0 ≤ y ∧ y < 8
theorem c_cell {x y : Int} (hx : -2147483648 ≤ x ∧ x < 2147483648) (hy : -2147483648 ≤ y ∧ y < 2147483648) (m : pmI) : (isC x y → fX8_cellFault (z x) (z y) m = some (z 0)) ∧ (¬ isC x y → fX8_cellFault (z x) (z y) m = some (z 1)) := by
  rw [f_cellFault x y hx hy m]
  unfold isC
  exact ⟨fun h => by rw [if_pos h], fun h => by rw [if_neg h]⟩
theorem isC_nat {x y : Int} (h : isC x y) : ∃ c : Nat, c < 64 ∧ 8 * y + x = (c : Int) ∧ x + 8 * y = (c : Int) := by
  unfold isC at h
  exact ⟨(8 * y + x).toNat, by omega, by omega, by omega⟩
section OPS1
variable {m : pmI} {A : Ab} {n : Nat}
theorem c_isOpen (h : repC 1 m A) (w : wfA A) (hn : 20 ≤ n) {c : Nat} (hc : c < 64) : fX6_isOpen_1 n (z (c : Int)) m = some (if aP A c = true ∨ ¬ spot A c = none then z 0 else z 1) := by
  unfold fX6_isOpen_1
  rw [f_holds _ hc, obind, h.1 c hc]
  by_cases hp : aP A c = true
  · rw [if_pos hp, if_neg z10, if_pos (Or.inl hp)]
  · rw [if_neg hp, if_pos rfl, c_slotAt h w hn (by omega), obind]
    cases hs : spot A c with
    | none => rw [oz_n, if_pos rfl, if_neg (fun h => h.elim hp (fun h => h rfl))]
    | some j =>
      have hj := ff_some hs
      have := w.1
      rw [if_neg (zne (by rw [oz_s]; omega)), if_pos (Or.inr (by simp))]
theorem f_bitCount (x : Int64) (m : pmI) : fJ13_bitCount_95d88 x m = some (z (cnt (bt x) 64)) := f_bitCount' x m
theorem c_countProps (h : repC 1 m A) : fX6_countProps_1 m = some (z (cnt (aP A) 64)) := by
  unfold fX6_countProps_1
  rw [f_bitCount, obind, cnt_congr h.1]
def uP (A : Ab) (p : Nat → Bool) : Ab := (p, A.2)
theorem one_eq (a : Int32) : (1 : Int64) <<< (Int32.toInt64 a &&& 63) = one a := rfl
theorem c_placeProp (h : repC 1 m A) {c : Nat} (hc : c < 64) : ∃ m', fX6_placeProp_1 (z (c : Int)) m = some m' ∧ fr cS m m' ∧ repC 1 m' (uP A (fun k => if k = c then true else aP A k)) := by
  refine ⟨_, rfl, fr_pmJ fr_rf (by decide) _ _, ?_⟩
  obtain ⟨h1, h2⟩ := h
  refine ⟨fun k hk => ?_, h2⟩
  show bt (pmU m.2 1 0 (m.2 1 0 ||| one (z (c : Int))) 1 0) k = if k = c then true else aP A k
  rw [pU_same, bt_or, h1 k hk, bt_one c hc k hk]
  by_cases e : k = c
  · rw [if_pos e, decide_eq_true e, Bool.or_true]
  · rw [if_neg e, decide_eq_false e, Bool.or_false]
theorem c_takeProp (h : repC 1 m A) {c : Nat} (hc : c < 64) : ∃ m', fX6_takeProp_1 (z (c : Int)) m = some m' ∧ fr cS m m' ∧ repC 1 m' (uP A (fun k => if k = c then false else aP A k)) := by
  refine ⟨_, rfl, fr_pmJ fr_rf (by decide) _ _, ?_⟩
  obtain ⟨h1, h2⟩ := h
  refine ⟨fun k hk => ?_, h2⟩
  show bt (pmU m.2 1 0 (m.2 1 0 &&& (one (z (c : Int)) ^^^ (18446744073709551615 : Int64))) 1 0) k = if k = c then false else aP A k
  rw [pU_same, bt_and, bt_xor, h1 k hk, bt_one c hc k hk, bt_all k hk]
  by_cases e : k = c
  · rw [if_pos e, decide_eq_true e]
    cases aP A k <;> rfl
  · rw [if_neg e, decide_eq_false e]
    cases aP A k <;> rfl
/-- an inner change of the model: what it answers, what it throws, the state behind it -/
def mRes (m : pmI) (r : Option (Int32 × pmI)) (s : Int × Int × Ab) : Prop := ∃ m', r = some (z s.2.1, m') ∧ m'.1 113 10 = z s.1 ∧ mfr m m' ∧ repR (m'.1 114) s.2.2
def isCb (x y : Int) : Bool := decide (0 ≤ x) && decide (x < 8) && (decide (0 ≤ y) && decide (y < 8))
theorem isCb_t {x y : Int} (h : isC x y) : isCb x y = true := by
  unfold isC at h
  unfold isCb
  simp only [Bool.and_eq_true, decide_eq_true_eq]
  omega
theorem isCb_f {x y : Int} (h : ¬ isC x y) : isCb x y = false := by
  unfold isC at h
  unfold isCb
  rw [← Bool.not_eq_true]
  simp only [Bool.and_eq_true, decide_eq_true_eq]
  omega
def sProp (A : Ab) (x y : Int) : Int × Int × Ab :=
  if isCb x y = true then (if aP A (8 * y + x).toNat = true ∨ ¬ spot A (8 * y + x) = none ∨ cnt (aP A) 64 = 20 then (2, 0, A) else (0, ((cnt (aP A) 64 + 1 : Nat) : Int), uP A (fun k => if k = (8 * y + x).toNat then true else aP A k))) else (1, 0, A)
end OPS1

