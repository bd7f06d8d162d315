/-! the law, call by call: the means (first: what the machine's numbers come to) -/
def m00 : pmI := (fun _ _ => 0, fun _ _ => 0)
abbrev mnD (s c : Nat) : UInt64 := FP.ddiv (FP.i2d (z (s : Int))) (FP.i2d (z (c : Int)))
abbrev mnF (s c : Nat) : UInt32 := FP.fdiv (FP.i2f (z (s : Int))) (FP.i2f (z (c : Int)))
def mnOk (s c : Nat) : Bool := okD (mnD s c) && decide (Op.cmpValue (FP.dcmp (mnD s c) (mnD s c)) .l = z 0)
def dbOk (s c : Nat) : Bool := decide (fX8_doubleBits 40 (mnD s c) m00 = some (UInt64.toInt64 (mnD s c)))
def fbOk (s c : Nat) : Bool := okF (mnF s c) && (okD (FP.f2d (mnF s c)) && (decide (Op.cmpValue (FP.dcmp (FP.f2d (mnF s c)) (FP.f2d (mnF s c))) .l = z 0) && (decide (Op.cmpValue (FP.fcmp (mnF s c) (mnF s c)) .l = z 0) && decide (fX8_floatBits 40 (mnF s c) m00 = some (UInt32.toInt32 (mnF s c))))))
theorem mnOk_all : (List.range 8).all (fun c => (List.range 161).all (fun s => mnOk s (c + 1))) = true := by decide +kernel
theorem dbOk_all : (List.range 8).all (fun c => (List.range 161).all (fun s => dbOk s (c + 1))) = true := by decide +kernel
theorem fbOk_all : (List.range 8).all (fun c => (List.range (c + 2)).all (fun s => fbOk s (c + 1))) = true := by decide +kernel
theorem mn_ok {s c : Nat} (hs : s ≤ 160) (hc : 0 < c ∧ c ≤ 8) : okD (mnD s c) = true ∧ Op.cmpValue (FP.dcmp (mnD s c) (mnD s c)) .l = z 0 := by
  have h := List.all_eq_true.mp (List.all_eq_true.mp mnOk_all (c - 1) (List.mem_range.mpr (by omega))) s (List.mem_range.mpr (by omega))
  rw [show c - 1 + 1 = c by omega] at h
  unfold mnOk at h
  rw [Bool.and_eq_true, decide_eq_true_eq] at h
  exact h
theorem db_ok {s c : Nat} (hs : s ≤ 160) (hc : 0 < c ∧ c ≤ 8) : fX8_doubleBits 40 (mnD s c) m00 = some (UInt64.toInt64 (mnD s c)) := by
  have h := List.all_eq_true.mp (List.all_eq_true.mp dbOk_all (c - 1) (List.mem_range.mpr (by omega))) s (List.mem_range.mpr (by omega))
  rw [show c - 1 + 1 = c by omega] at h
  exact of_decide_eq_true h
theorem fb_ok {s c : Nat} (hs : s ≤ c) (hc : 0 < c ∧ c ≤ 8) : okF (mnF s c) = true ∧ okD (FP.f2d (mnF s c)) = true ∧ Op.cmpValue (FP.dcmp (FP.f2d (mnF s c)) (FP.f2d (mnF s c))) .l = z 0 ∧ Op.cmpValue (FP.fcmp (mnF s c) (mnF s c)) .l = z 0 ∧ fX8_floatBits 40 (mnF s c) m00 = some (UInt32.toInt32 (mnF s c)) := by
  have h := List.all_eq_true.mp (List.all_eq_true.mp fbOk_all (c - 1) (List.mem_range.mpr (by omega))) s (List.mem_range.mpr (by omega))
  rw [show c - 1 + 1 = c by omega] at h
  unfold fbOk at h
  simp only [Bool.and_eq_true, decide_eq_true_eq] at h
  exact h
theorem up18 {n n' : Nat} {m m' : pmI} : ∀ (k k' : Nat) (x : UInt64) (e i : Int32) (r : UInt64 × Int32), k ≤ k' → lX8_doubleBits_l18 n m k x e i = some r → lX8_doubleBits_l18 n' m' k' x e i = some r
  | k + 1, k' + 1, x, e, i, r, hk, h => by
    have h' : bX8_doubleBits_l18 n m (lX8_doubleBits_l18 n m k) x e i = some r := h
    show bX8_doubleBits_l18 n' m' (lX8_doubleBits_l18 n' m' k') x e i = some r
    unfold bX8_doubleBits_l18 at h' ⊢
    by_cases c1 : i < z 16
    · rw [if_pos c1] at h' ⊢
      by_cases c2 : Op.cmpValue (FP.dcmp x 4611686018427387904) .l < z 0
      · rw [if_pos c2] at h' ⊢
        exact h'
      · rw [if_neg c2] at h' ⊢
        by_cases c3 : okD (FP.ddiv x 4611686018427387904) = true
        · rw [if_pos c3] at h' ⊢
          exact up18 k k' _ _ _ r (by omega) h'
        · rw [if_neg c3] at h'
          cases h'
    · rw [if_neg c1] at h' ⊢
      exact h'
theorem up51 {n n' : Nat} {m m' : pmI} : ∀ (k k' : Nat) (x : UInt64) (e i : Int32) (r : UInt64 × Int32), k ≤ k' → lX8_doubleBits_l51 n m k x e i = some r → lX8_doubleBits_l51 n' m' k' x e i = some r
  | k + 1, k' + 1, x, e, i, r, hk, h => by
    have h' : bX8_doubleBits_l51 n m (lX8_doubleBits_l51 n m k) x e i = some r := h
    show bX8_doubleBits_l51 n' m' (lX8_doubleBits_l51 n' m' k') x e i = some r
    unfold bX8_doubleBits_l51 at h' ⊢
    by_cases c1 : i < z 16
    · rw [if_pos c1] at h' ⊢
      by_cases c2 : Op.cmpValue (FP.dcmp x FP.dconst1) .g < z 0
      · rw [if_pos c2] at h' ⊢
        by_cases c3 : okD (FP.dmul x 4611686018427387904) = true
        · rw [if_pos c3] at h' ⊢
          exact up51 k k' _ _ _ r (by omega) h'
        · rw [if_neg c3] at h'
          cases h'
      · rw [if_neg c2] at h' ⊢
        exact h'
    · rw [if_neg c1] at h' ⊢
      exact h'
theorem up15 {n n' : Nat} {m m' : pmI} : ∀ (k k' : Nat) (x : UInt32) (e i : Int32) (r : UInt32 × Int32), k ≤ k' → lX8_floatBits_l15 n m k x e i = some r → lX8_floatBits_l15 n' m' k' x e i = some r
  | k + 1, k' + 1, x, e, i, r, hk, h => by
    have h' : bX8_floatBits_l15 n m (lX8_floatBits_l15 n m k) x e i = some r := h
    show bX8_floatBits_l15 n' m' (lX8_floatBits_l15 n' m' k') x e i = some r
    unfold bX8_floatBits_l15 at h' ⊢
    by_cases c1 : i < z 16
    · rw [if_pos c1] at h' ⊢
      by_cases c2 : Op.cmpValue (FP.fcmp x FP.fconst1) .g < z 0
      · rw [if_pos c2] at h' ⊢
        by_cases c3 : okF (FP.fmul x FP.fconst2) = true
        · rw [if_pos c3] at h' ⊢
          exact up15 k k' _ _ _ r (by omega) h'
        · rw [if_neg c3] at h'
          cases h'
      · rw [if_neg c2] at h' ⊢
        exact h'
    · rw [if_neg c1] at h' ⊢
      exact h'
theorem up_db {n : Nat} {m : pmI} (hn : 40 ≤ n) {x : UInt64} {r : Int64} (h : fX8_doubleBits 40 x m00 = some r) : fX8_doubleBits n x m = some r := by
  unfold fX8_doubleBits at h ⊢
  by_cases c : z 0 < Op.cmpValue (FP.dcmp x FP.dconst0) .g
  · rw [if_pos c] at h ⊢
    cases h1 : lX8_doubleBits_l18 40 m00 40 x (z 1023) (z 0) with
    | none => rw [h1] at h; cases h
    | some w3 =>
      rw [h1, obind] at h
      rw [up18 40 n x _ _ w3 hn h1, obind]
      unfold jX8_doubleBits_48 at h ⊢
      cases h2 : lX8_doubleBits_l51 40 m00 40 w3.1 w3.2 (z 0) with
      | none => rw [h2] at h; cases h
      | some w6 =>
        rw [h2, obind] at h
        rw [up51 40 n _ _ _ w6 hn h2, obind]
        exact h
  · rw [if_neg c] at h ⊢
    exact h
theorem up_fb {n : Nat} {m : pmI} (hn : 40 ≤ n) {x : UInt32} {r : Int32} (h : fX8_floatBits 40 x m00 = some r) : fX8_floatBits n x m = some r := by
  unfold fX8_floatBits at h ⊢
  by_cases c : z 0 < Op.cmpValue (FP.fcmp x FP.fconst0) .g
  · rw [if_pos c] at h ⊢
    cases h1 : lX8_floatBits_l15 40 m00 40 x (z 127) (z 0) with
    | none => rw [h1] at h; cases h
    | some w3 =>
      rw [h1, obind] at h
      rw [up15 40 n x _ _ w3 hn h1, obind]
      exact h
  · rw [if_neg c] at h ⊢
    exact h

