/-! the law, call by call: calls that only answer -/
def lOkQ (m : pmI) (D : Nat → Nat → UInt64) (W W' : Wd) (c : Int) (t : Int32) (o : Option lR) : Prop := ∃ m1 e, o = some (z c, m1, D, e) ∧ e ≤ 1 ∧ cInv m1 W' ∧ mInv m1 W ∧ (c = 0 → m1.2 127 0 = Int32.toInt64 t)
/-- an answer, or an exception -/
def cQ (m : pmI) (W' : Wd) (r : Option ((Int32 ⊕ Nat) × pmI)) (c : Int) (t : Int32) (ex : Nat) : Prop := ∃ m', r = some ((if c = 0 then .inl t else .inr ex), m') ∧ cOut m m' ∧ cInv m' W'
theorem l_helpQ {m : pmI} {D : Nat → Nat → UInt64} {W W' : Wd} {r : Option ((Int32 ⊕ Nat) × pmI)} {c : Int} {t : Int32} {ex : Nat} {kr : Nat → pmI → Option lR} (hc : cQ m W' r c t ex) (hM : mInv m W) (hkr : ∀ m2, ¬ c = 0 → kr ex m2 = some (z c, m2, D, 1)) :
    lOkQ m D W W' c t (r.bind (oT (fun v1 m2 => pmLet (m2.1, (pmU m2.2 127 0 (Int32.toInt64 v1))) fun m3 => some ((z 0), m3, D, 0)) kr)) := by
  obtain ⟨m1, e1, c1, i1⟩ := hc
  by_cases e : c = 0
  · rw [if_pos e] at e1
    rw [e1, obind, oT_l, pmLet_eq]
    refine ⟨(m1.1, pmU m1.2 127 0 (Int32.toInt64 t)), 0, ?_, by omega, cInv_J i1 _, mInv_J (mInv_c hM c1) _, fun _ => pU_same m1.2 127 0 _⟩
    rw [e]
  · rw [if_neg e] at e1
    rw [e1, obind, oT_r, hkr m1 e]
    exact ⟨m1, 1, rfl, by omega, i1, mInv_c hM c1, fun h => absurd h e⟩
def mQ (W W' : Wd) (fm : pmI → Option (Int32 × pmI)) (c : Int) (t : Int32) : Prop := ∀ m1, mInv m1 W → ∃ m2, fm m1 = some (t, m2) ∧ m2.1 113 10 = z c ∧ mOut m1 m2 ∧ mInv m2 W'
theorem law_caseD {self : lSelf} {i5 : Int32} {w k : Nat} {m m1 : pmI} {D : Nat → Nat → UInt64} {W W' : Wd} {t : Int32} {fm : pmI → Option (Int32 × pmI)} (c1 : cInv m1 W') (i1 : mInv m1 W) (hm : mQ W W' fm 0 t) (hB : wB W' (k + 10)) :
    Sgo ((fm m1).bind fun b => if t = b.1 then self (i5 + (z 4)) b.2 D w else some ((z 0), b.2, D, w)) self i5 w k := by
  obtain ⟨m2, e2, t2, o2, i2⟩ := hm m1 i1
  rw [e2, obind]
  dsimp only
  rw [if_pos rfl]
  exact ⟨m2, D, 0, W', rfl, by omega, cInv_m c1 o2, i2, hB⟩
theorem mOut_mfr {m m1 : pmI} (f : mfr m m1) : mOut m m1 := ⟨fun i hi => f.1 i (by omega), f.2.1⟩
theorem mInv_mfr {m m1 : pmI} {W : Wd} (h : mInv m W) (f : mfr m m1) (r : m1.1 114 = m.1 114) : mInv m1 W := mInv_fr h (fun i h1 h2 h3 => by
    by_cases e : i = 114
    · rw [e]; exact r
    · exact f.1 i (by omega)) (fun k hk => f.2.2 k hk)
theorem mQ_set {W : Wd} {m1 : pmI} (h : mInv m1 W) (x : Int) : ∃ m2, (pmU m1.1 113 10 (z x), m1.2) = m2 ∧ m2.1 113 10 = z x ∧ mOut m1 m2 ∧ mInv m2 W ∧ m2.1 114 = m1.1 114 := by
  have f : mfr m1 (pmU m1.1 113 10 (z x), m1.2) := mfr_113 (Or.inl rfl)
  have r : (pmU m1.1 113 10 (z x)) 114 = m1.1 114 := rowne (by decide)
  exact ⟨_, rfl, pU_same m1.1 113 10 (z x), mOut_mfr f, mInv_mfr h f r, r⟩
theorem z_and7 : ∀ k : Nat, k < 64 → z (k : Int) &&& z 7 = z ((k % 8 : Nat) : Int) := by decide +kernel
theorem z_div8 : ∀ k : Nat, k < 64 → z (k : Int) / z 8 = z ((k / 8 : Nat) : Int) := by decide +kernel
theorem z_mod8 : ∀ k : Nat, k < 64 → z (k : Int) - z (k : Int) / z 8 * z 8 = z ((k % 8 : Nat) : Int) := by decide +kernel

