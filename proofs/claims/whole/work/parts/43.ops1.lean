/-! both sides: props, cells, who stands where -/
theorem rowne {f : Nat → Nat → Int32} {i k a : Nat} {x : Int32} (h : a ≠ i) : pmU f i k x a = f a := by
  funext b
  exact pU_ne _ _ _ _ h
theorem rowneJ {f : Nat → Nat → Int64} {i k a : Nat} {x : Int64} (h : a ≠ i) : pmU f i k x a = f a := by
  funext b
  exact pU_ne _ _ _ _ h
/-- what an inner change of the model leaves -/
def mfr (m m' : pmI) : Prop := (∀ i, ¬ (i = 113 ∨ i = 114 ∨ i = 116 ∨ (119 ≤ i ∧ i ≤ 123)) → m'.1 i = m.1 i) ∧ m'.2 = m.2 ∧ ∀ k, ¬ (k = 10 ∨ k = 13 ∨ k = 14) → m'.1 113 k = m.1 113 k
theorem mfr_rf {m : pmI} : mfr m m := ⟨fun _ _ => rfl, rfl, fun _ _ => rfl⟩
theorem mfr_tr {m m1 m2 : pmI} (h1 : mfr m m1) (h2 : mfr m1 m2) : mfr m m2 := ⟨fun i hi => (h2.1 i hi).trans (h1.1 i hi), h2.2.1.trans h1.2.1, fun k hk => (h2.2.2 k hk).trans (h1.2.2 k hk)⟩
theorem mfr_114 {m : pmI} {k : Nat} {x : Int32} : mfr m (pmU m.1 114 k x, m.2) := ⟨fun i hi => rowne (by omega), rfl, fun b _ => by show pmU m.1 114 k x 113 b = m.1 113 b; rw [rowne (by decide)]⟩
theorem mfr_row {m : pmI} {q k : Nat} {x : Int32} (h : q = 114 ∨ q = 116 ∨ (119 ≤ q ∧ q ≤ 123)) : mfr m (pmU m.1 q k x, m.2) := ⟨fun i hi => rowne (by omega), rfl, fun b _ => by show pmU m.1 q k x 113 b = m.1 113 b; rw [rowne (by omega)]⟩
theorem mfr_113 {m : pmI} {k : Nat} {x : Int32} (h : k = 10 ∨ k = 13 ∨ k = 14) : mfr m (pmU m.1 113 k x, m.2) := ⟨fun i hi => rowne (by omega), rfl, fun b hb => by show pmU m.1 113 k x 113 b = _; rw [pU_row, if_neg (by omega)]⟩
/-- .. of the class -/
def cS (i : Nat) : Bool := decide ((1 ≤ i ∧ i ≤ 8) ∨ (91 ≤ i ∧ i ≤ 106))
theorem m_thr0 {m : pmI} {t : Int32} : fX9_isThrown (z 0) t m = some (z 0, (pmU m.1 113 10 (z 0), m.2)) := by
  unfold fX9_isThrown
  rw [if_pos rfl, pmLet_eq, if_pos (Or.inl rfl)]
theorem m_thr1 {m : pmI} {t : Int32} : fX9_isThrown (z 1) t m = some (z 1, (pmU m.1 113 10 t, m.2)) := by
  unfold fX9_isThrown
  rw [if_neg (by decide), pmLet_eq, if_pos (Or.inr rfl)]
theorem thr_at {m : pmI} {t : Int32} : (pmU m.1 113 10 t, m.2).1 113 10 = t := pU_same m.1 113 10 t
theorem m_t0 {m : pmI} (t : Int32) : ∃ m1, fX9_isThrown (z 0) t m = some (z 0, m1) ∧ m1.1 113 10 = z 0 ∧ mfr m m1 ∧ m1.1 114 = m.1 114 := ⟨_, m_thr0, pU_same m.1 113 10 (z 0), mfr_113 (Or.inl rfl), rowne (f := m.1) (i := 113) (a := 114) (k := 10) (x := z 0) (by decide)⟩
theorem m_t1 {m : pmI} (t : Int32) : ∃ m1, fX9_isThrown (z 1) t m = some (z 1, m1) ∧ m1.1 113 10 = t ∧ mfr m m1 ∧ m1.1 114 = m.1 114 := ⟨_, m_thr1, pU_same m.1 113 10 t, mfr_113 (Or.inl rfl), rowne (f := m.1) (i := 113) (a := 114) (k := 10) (x := t) (by decide)⟩
theorem m_w (m : pmI) (k : Nat) (x : Int32) : ∃ m', (pmU m.1 114 k x, m.2) = m' ∧ mfr m m' ∧ m'.1 113 = m.1 113 ∧ ∀ b, m'.1 114 b = if b = k then x else m.1 114 b := ⟨_, rfl, mfr_114, rowne (f := m.1) (i := 114) (a := 113) (k := k) (x := x) (by decide), fun b => pU_row m.1 114 k x b⟩
theorem z10 : ¬ z 1 = z 0 := by decide
theorem z01 : ¬ z 0 = z 1 := by decide
theorem zm0 : ¬ z (-1) = z 0 := by decide
theorem m_isIn {a b c : Int} (h : ((-2147483648 ≤ a ∧ a < 2147483648) ∧ -2147483648 ≤ b ∧ b < 2147483648) ∧ -2147483648 ≤ c ∧ c < 2147483648) (m : pmI) : fX9_isIn (z a) (z b) (z c) m = some (if b ≤ a ∧ a ≤ c then z 1 else z 0) := by
  unfold fX9_isIn
  simp (disch := omega) only [z_lt]
  by_cases h1 : a < b
  · rw [if_pos h1, if_neg (by omega)]
  · rw [if_neg h1]
    by_cases h2 : c < a
    · rw [if_pos h2, if_neg (by omega)]
    · rw [if_neg h2, if_pos (by omega)]
theorem m_in {a b c : Int} (h : (((-2147483648 ≤ a ∧ a < 2147483648) ∧ -2147483648 ≤ b ∧ b < 2147483648) ∧ -2147483648 ≤ c ∧ c < 2147483648) ∧ b ≤ a ∧ a ≤ c) (m : pmI) : fX9_isIn (z a) (z b) (z c) m = some (z 1) := by rw [m_isIn h.1, if_pos h.2]
theorem m_out {a b c : Int} (h : (((-2147483648 ≤ a ∧ a < 2147483648) ∧ -2147483648 ≤ b ∧ b < 2147483648) ∧ -2147483648 ≤ c ∧ c < 2147483648) ∧ ¬ (b ≤ a ∧ a ≤ c)) (m : pmI) : fX9_isIn (z a) (z b) (z c) m = some (z 0) := by rw [m_isIn h.1, if_neg h.2]
def isC (x y : Int) : Prop := (0 ≤ x ∧ x < 8) ∧ 0 ≤ y ∧ y < 8
theorem m_isCell {x y : Int} (hx : -2147483648 ≤ x ∧ x < 2147483648) (hy : -2147483648 ≤ y ∧ y < 2147483648) (m : pmI) : (isC x y → fX9_isCell (z x) (z y) m = some (z 1)) ∧ (¬ isC x y → fX9_isCell (z x) (z y) m = some (z 0)) := by
  unfold fX9_isCell isC
  refine ⟨fun h => ?_, fun h => ?_⟩
  · rw [m_in (by omega), obind, if_neg z10, m_in (by omega), obind, if_neg z10]
  · by_cases h1 : 0 ≤ x ∧ x ≤ 7
    · rw [m_in (by omega), obind, if_neg z10, m_out (by omega), obind, if_pos rfl]
    · rw [m_out (by omega), obind, if_pos rfl]
theorem c_cell {x y : Int} (hx : -2147483648 ≤ x ∧ x < 2147483648) (hy : -2147483648 ≤ y ∧ y < 2147483648) (m : pmI) : (isC x y → fX8_cellFault (z x) (z y) m = some (z 0)) ∧ (¬ isC x y → fX8_cellFault (z x) (z y) m = some (z 1)) := by
  rw [f_cellFault x y hx hy m]
  unfold isC
  exact ⟨fun h => by rw [if_pos h], fun h => by rw [if_neg h]⟩
theorem isC_nat {x y : Int} (h : isC x y) : ∃ c : Nat, c < 64 ∧ 8 * y + x = (c : Int) ∧ x + 8 * y = (c : Int) := by
  unfold isC at h
  exact ⟨(8 * y + x).toNat, by omega, by omega, by omega⟩
section OPS1
variable {m : pmI} {A : Ab} {n : Nat}
theorem m_isProp (h : repR (m.1 114) A) {c : Nat} (hc : c < 64) : fX9_isProp (z (c : Int)) m = some (if aP A c = true then z 1 else z 0) := by
  have h1 := h.1.1 c hc
  unfold fX9_isProp
  rw [z_add, if_pos (okI_z (by omega)), z_natI (by omega), show (8 + (c : Int)).toNat = 8 + c by omega]
  by_cases hp : aP A c = true
  · rw [if_pos hp] at h1
    rw [h1, if_pos rfl, if_pos hp]
  · rw [if_neg hp] at h1
    rw [h1, if_neg z01, if_neg hp]
theorem m_free (h : repR (m.1 114) A) (w : wfA A) (hn : 20 ≤ n) {c : Nat} (hc : c < 64) : fX9_free n (z (c : Int)) m = some (if aP A c = true ∨ ¬ spot A c = none then z 0 else z 1) := by
  unfold fX9_free
  rw [m_isProp h hc, obind]
  by_cases hp : aP A c = true
  · rw [if_pos hp, if_neg z10, if_pos (Or.inl hp)]
  · rw [if_neg hp, if_pos rfl, m_on h w hn (by omega), obind]
    cases hs : spot A c with
    | none => rw [oz_n, if_pos (by decide), if_neg (fun h => h.elim hp (fun h => h rfl))]
    | some j => 
      have hj := ff_some hs
      have := w.1
      rw [if_neg (zge (by rw [oz_s]; omega)), if_pos (Or.inr (by simp))]
theorem c_isOpen (h : repC 1 m A) (w : wfA A) (hn : 20 ≤ n) {c : Nat} (hc : c < 64) : fX6_isOpen_1 n (z (c : Int)) m = some (if aP A c = true ∨ ¬ spot A c = none then z 0 else z 1) := by
  unfold fX6_isOpen_1
  rw [f_holds _ hc, obind, h.1 c hc]
  by_cases hp : aP A c = true
  · rw [if_pos hp, if_neg z10, if_pos (Or.inl hp)]
  · rw [if_neg hp, if_pos rfl, c_slotAt h w hn (by omega), obind]
    cases hs : spot A c with
    | none => rw [oz_n, if_pos rfl, if_neg (fun h => h.elim hp (fun h => h rfl))]
    | some j =>
      have hj := ff_some hs
      have := w.1
      rw [if_neg (zne (by rw [oz_s]; omega)), if_pos (Or.inr (by simp))]
theorem f_bitCount (x : Int64) (m : pmI) : fJ13_bitCount_95d88 x m = some (z (cnt (bt x) 64)) := f_bitCount' x m
theorem c_countProps (h : repC 1 m A) : fX6_countProps_1 m = some (z (cnt (aP A) 64)) := by
  unfold fX6_countProps_1
  rw [f_bitCount, obind, cnt_congr h.1]
def uP (A : Ab) (p : Nat → Bool) : Ab := (p, A.2)
theorem one_eq (a : Int32) : (1 : Int64) <<< (Int32.toInt64 a &&& 63) = one a := rfl
theorem c_placeProp (h : repC 1 m A) {c : Nat} (hc : c < 64) : ∃ m', fX6_placeProp_1 (z (c : Int)) m = some m' ∧ fr cS m m' ∧ repC 1 m' (uP A (fun k => if k = c then true else aP A k)) := by
  refine ⟨_, rfl, fr_pmJ fr_rf (by decide) _ _, ?_⟩
  obtain ⟨h1, h2⟩ := h
  refine ⟨fun k hk => ?_, h2⟩
  show bt (pmU m.2 1 0 (m.2 1 0 ||| one (z (c : Int))) 1 0) k = if k = c then true else aP A k
  rw [pU_same, bt_or, h1 k hk, bt_one c hc k hk]
  by_cases e : k = c
  · rw [if_pos e, decide_eq_true e, Bool.or_true]
  · rw [if_neg e, decide_eq_false e, Bool.or_false]
theorem c_takeProp (h : repC 1 m A) {c : Nat} (hc : c < 64) : ∃ m', fX6_takeProp_1 (z (c : Int)) m = some m' ∧ fr cS m m' ∧ repC 1 m' (uP A (fun k => if k = c then false else aP A k)) := by
  refine ⟨_, rfl, fr_pmJ fr_rf (by decide) _ _, ?_⟩
  obtain ⟨h1, h2⟩ := h
  refine ⟨fun k hk => ?_, h2⟩
  show bt (pmU m.2 1 0 (m.2 1 0 &&& (one (z (c : Int)) ^^^ (18446744073709551615 : Int64))) 1 0) k = if k = c then false else aP A k
  rw [pU_same, bt_and, bt_xor, h1 k hk, bt_one c hc k hk, bt_all k hk]
  by_cases e : k = c
  · rw [if_pos e, decide_eq_true e]
    cases aP A k <;> rfl
  · rw [if_neg e, decide_eq_false e]
    cases aP A k <;> rfl
/-- an inner change of the model: what it answers, what it throws, the state behind it -/
def mRes (m : pmI) (r : Option (Int32 × pmI)) (s : Int × Int × Ab) : Prop := ∃ m', r = some (z s.2.1, m') ∧ m'.1 113 10 = z s.1 ∧ mfr m m' ∧ repR (m'.1 114) s.2.2
def isCb (x y : Int) : Bool := decide (0 ≤ x) && decide (x < 8) && (decide (0 ≤ y) && decide (y < 8))
theorem isCb_t {x y : Int} (h : isC x y) : isCb x y = true := by
  unfold isC at h
  unfold isCb
  simp only [Bool.and_eq_true, decide_eq_true_eq]
  omega
theorem isCb_f {x y : Int} (h : ¬ isC x y) : isCb x y = false := by
  unfold isC at h
  unfold isCb
  rw [← Bool.not_eq_true]
  simp only [Bool.and_eq_true, decide_eq_true_eq]
  omega
def sProp (A : Ab) (x y : Int) : Int × Int × Ab :=
  if isCb x y = true then (if aP A (8 * y + x).toNat = true ∨ ¬ spot A (8 * y + x) = none ∨ cnt (aP A) 64 = 20 then (2, 0, A) else (0, ((cnt (aP A) 64 + 1 : Nat) : Int), uP A (fun k => if k = (8 * y + x).toNat then true else aP A k))) else (1, 0, A)
theorem m_props (h : repR (m.1 114) A) (w : wfA A) (hn : 20 ≤ n) {x y : Int} (hx : -2147483648 ≤ x ∧ x < 2147483648) (hy : -2147483648 ≤ y ∧ y < 2147483648) : mRes m (fX9_props n (z x) (z y) m) (sProp A x y) := by
  unfold fX9_props sProp
  by_cases hc : isC x y
  · obtain ⟨m1, e1, t1, f1, r1⟩ := m_t0 (m := m) (z 1)
    have h1 : repR (m1.1 114) A := (r1 ▸ h)
    rw [(m_isCell hx hy m).1 hc, obind, if_neg z10, if_pos (isCb_t hc)]
    unfold jX9_props_14
    rw [e1, obind]
    dsimp only
    rw [if_pos rfl]
    obtain ⟨c, hc1, hc2, hc3⟩ := isC_nat hc
    rw [z_mul, z_add, hc3, hc2, Int.toNat_natCast, m_free h1 w hn hc1, obind]
    have hcnt : m1.1 114 0 = z (cnt (aP A) 64) := h1.1.2
    have hle := cnt_le (aP A) 64
    by_cases hq : aP A c = true ∨ ¬ spot A c = none ∨ cnt (aP A) 64 = 20
    · rw [if_pos hq]
      have key : mRes m (jX9_props_46 n (z x) (z y) m1) (2, 0, A) := by
        obtain ⟨m2, e2, t2, f2, r2⟩ := m_t1 (m := m1) (z 2)
        unfold jX9_props_46 jX9_props_51
        rw [e2, obind]
        dsimp only
        rw [if_neg z10]
        exact ⟨m2, rfl, t2, mfr_tr f1 f2, (r2 ▸ h1)⟩
      by_cases hf : aP A c = true ∨ ¬ spot A c = none
      · rw [if_pos hf, if_pos rfl]
        exact key
      · have e20 : cnt (aP A) 64 = 20 := by
          rcases hq with hq | hq | hq
          · exact absurd (Or.inl hq) hf
          · exact absurd (Or.inr hq) hf
          · exact hq
        rw [if_neg hf, if_neg z10, if_pos (show m1.1 114 0 = z 20 by rw [hcnt, e20]; rfl)]
        exact key
    · have n20 : ¬ cnt (aP A) 64 = 20 := fun e => hq (Or.inr (Or.inr e))
      have nf : ¬ (aP A c = true ∨ ¬ spot A c = none) := fun hf => hq (Or.elim hf Or.inl (fun hf => Or.inr (Or.inl hf)))
      rw [if_neg hq, if_neg nf, if_neg z10, if_neg (show ¬ m1.1 114 0 = z 20 by rw [hcnt]; exact zne (by omega))]
      obtain ⟨m2, e2, t2, f2, r2⟩ := m_t0 (m := m1) (z 2)
      unfold jX9_props_51
      rw [e2, obind]
      dsimp only
      have hi : (z 8 + z x) + z 8 * z y = z (8 + c) := by
        rw [z_mul, z_add, z_add]
        congr 1
        omega
      rw [if_pos rfl, hi, if_pos (okI_z (by omega)), z_natI (by omega), show (8 + (c : Int)).toNat = 8 + c by omega, pmLet_eq, pmLet_eq]
      have h2 : repR (m2.1 114) A := (r2 ▸ h1)
      have c2 : m2.1 114 0 = z (cnt (aP A) 64) := h2.1.2
      obtain ⟨m3, e3, f3, t3, r3⟩ := m_w m2 (8 + c) (z 1)
      rw [e3]
      obtain ⟨m4, e4, f4, t4, r4⟩ := m_w m3 0 (m3.1 114 0 + z 1)
      rw [e4]
      have c4 : m4.1 114 0 = z ((cnt (aP A) 64 + 1 : Nat) : Int) := by
        rw [r4, if_pos rfl, r3, if_neg (by omega), c2, z_add]
        rfl
      have k4 : ∀ b, ¬ b = 0 → ¬ b = 8 + c → m4.1 114 b = m2.1 114 b := fun b h1 h2 => by rw [r4, if_neg h1, r3, if_neg h2]
      have hP : aP A c = false := Bool.eq_false_iff.mpr (fun e => hq (Or.inl e))
      refine ⟨m4, by rw [c4], by rw [t4, t3]; exact t2, mfr_tr (mfr_tr f1 f2) (mfr_tr f3 f4), ⟨fun k hk => ?_, ?_⟩, rD_fr h2.2.1 w.1 (fun b hb => k4 b (by omega) (by omega)), rF_fr h2.2.2.1 (fun f hf => (w.2.2.2.2.2.1 f hf).1) (fun b h1 h2 => k4 b (by omega) (by omega)), rE_fr h2.2.2.2.1 w.2.2.2.2.2.2.1 (fun b hb => k4 b (by omega) (by omega)), rM_fr h2.2.2.2.2 (fun b h1 h2 => k4 b (by omega) (by omega))⟩
      · show _ = if (if k = c then true else aP A k) = true then z 1 else z 0
        by_cases e : k = c
        · rw [if_pos e, if_pos rfl, r4, if_neg (by omega), r3, if_pos (by omega)]
        · rw [if_neg e, k4 _ (by omega) (by omega)]
          exact h2.1.1 k hk
      · rw [c4]
        show _ = z ((cnt (fun k => if k = c then true else aP A k) 64 : Nat) : Int)
        rw [cnt_set hP hc1]
  · obtain ⟨m1, e1, t1, f1, r1⟩ := m_t1 (m := m) (z 1)
    rw [(m_isCell hx hy m).2 hc, obind, if_pos rfl, if_neg (by rw [isCb_f hc]; decide)]
    unfold jX9_props_14
    rw [e1, obind]
    dsimp only
    rw [if_neg z10]
    exact ⟨m1, rfl, t1, f1, (r1 ▸ h)⟩
end OPS1
