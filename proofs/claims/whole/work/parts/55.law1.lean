/-! the law, call by call: first group -/
/-- how many numbers have been given, at most -/
def wB (W : Wd) (k : Nat) : Prop := aX (wA W) ≤ k ∧ (∀ B, B ∈ wH W → aX B ≤ k) ∧ ∀ B, wS W = some B → aX B ≤ k
theorem wB_up {W : Wd} {k k' : Nat} (h : wB W k) (hk : k ≤ k') : wB W k' := ⟨Nat.le_trans h.1 hk, fun B hB => Nat.le_trans (h.2.1 B hB) hk, fun B hB => Nat.le_trans (h.2.2 B hB) hk⟩
theorem wB_put {W : Wd} {A : Ab} {k k' : Nat} (h : wB W k) (hA : aX A ≤ k') (hk : k ≤ k') : wB (wPut W A) k' := by
  refine ⟨hA, fun B hB => ?_, fun B hB => Nat.le_trans (h.2.2 B hB) hk⟩
  have hB2 : B ∈ wA W :: wH W := List.mem_of_mem_take hB
  rcases List.mem_cons.mp hB2 with rfl | hB3
  · exact Nat.le_trans h.1 hk
  · exact Nat.le_trans (h.2.1 B hB3) hk
abbrev lR : Type := Int32 × pmI × (Nat → Nat → UInt64) × Nat
abbrev lSelf : Type := Int32 → pmI → (Nat → Nat → UInt64) → Nat → Option lR
/-- a call of the law is done: it goes on -/
def Sgo (o : Option lR) (self : lSelf) (i5 : Int32) (w : Nat) (k : Nat) : Prop := ∃ m2 D2 e W2, o = self (i5 + z 4) m2 D2 (w + e) ∧ e ≤ 1 ∧ cInv m2 W2 ∧ mInv m2 W2 ∧ wB W2 (k + 10)
theorem mInv_c {m m' : pmI} {W : Wd} (h : mInv m W) (c : cOut m m') : mInv m' W := mInv_fr h (fun i h1 _ _ => (c i (by omega)).1) (fun k _ => by rw [(c 113 (by omega)).1])
theorem cInv_m {m m' : pmI} {W : Wd} (h : cInv m W) (c : mOut m m') : cInv m' W := cInv_fr h (fun i hi => ⟨c.1 i (by omega), by rw [c.2]⟩)
theorem mInv_J {m : pmI} {W : Wd} (h : mInv m W) (x : Int64) : mInv (m.1, pmU m.2 127 0 x) W := mInv_fr h (fun _ _ _ _ => rfl) (fun _ _ => rfl)
theorem cInv_J {m : pmI} {W : Wd} (h : cInv m W) (x : Int64) : cInv (m.1, pmU m.2 127 0 x) W := cInv_fr h (fun i hi => ⟨rfl, rowneJ (by omega)⟩)
def lOk (m : pmI) (D : Nat → Nat → UInt64) (W W' : Wd) (s : Int × Int) (o : Option lR) : Prop := ∃ m1 e, o = some (z s.1, m1, D, e) ∧ e ≤ 1 ∧ cInv m1 W' ∧ mInv m1 W ∧ (s.1 = 0 → m1.2 127 0 = Int32.toInt64 (z s.2))
theorem l_help {m : pmI} {D : Nat → Nat → UInt64} {W : Wd} {r : Option ((Int32 ⊕ Nat) × pmI)} {s : Int × Int × Ab} {ex : Int → Nat} {kr : Nat → pmI → Option lR} (hc : cRes m W r s ex) (hM : mInv m W) (hkr : ∀ m2, ¬ s.1 = 0 → kr (ex s.1) m2 = some (z s.1, m2, D, 1)) :
    lOk m D W (if s.1 = 0 then wPut W s.2.2 else W) (s.1, s.2.1) (r.bind (oT (fun v1 m2 => pmLet (m2.1, (pmU m2.2 127 0 (Int32.toInt64 v1))) fun m3 => some ((z 0), m3, D, 0)) kr)) := by
  obtain ⟨m1, e1, c1, i1⟩ := hc
  by_cases e : s.1 = 0
  · rw [if_pos e] at e1
    rw [e1, obind, oT_l, pmLet_eq]
    refine ⟨(m1.1, pmU m1.2 127 0 (Int32.toInt64 (z s.2.1))), 0, ?_, by omega, cInv_J i1 _, mInv_J (mInv_c hM c1) _, fun _ => pU_same m1.2 127 0 _⟩
    dsimp only
    rw [e]
  · rw [if_neg e] at e1
    rw [e1, obind, oT_r, hkr m1 e]
    exact ⟨m1, 1, rfl, by omega, i1, mInv_c hM c1, fun h => absurd h e⟩
theorem lg_eq (x : Int64) : lg_cmp x x = z 0 := by
  unfold lg_cmp
  rw [if_neg (show ¬ x > x from fun h => Int64.lt_irrefl h), if_pos rfl]
  rfl
theorem law_case {self : lSelf} {i5 : Int32} {w k : Nat} {m : pmI} {D : Nat → Nat → UInt64} {W W' : Wd} {s : Int × Int} {fl : Option lR} {fm : pmI → Option (Int32 × pmI)} (hl : lOk m D W W' s fl) (hm : ∀ m1, mInv m1 W → ∃ m2, fm m1 = some (z s.2, m2) ∧ m2.1 113 10 = z s.1 ∧ mOut m1 m2 ∧ mInv m2 W') (hB : wB W' (k + 10)) (hs : 0 ≤ s.1 ∧ s.1 < 100) :
    Sgo (fl.bind fun v => (fm v.2.1).bind fun b => (fX9_thrown b.2).bind fun t => if t = v.1 then if v.1 = (z 0) then if (lg_cmp (b.2.2 127 0) (Int32.toInt64 b.1)) = (z 0) then self (i5 + (z 4)) b.2 v.2.2.1 (w + v.2.2.2) else some ((z 0), b.2, v.2.2.1, (w + v.2.2.2)) else self (i5 + (z 4)) b.2 v.2.2.1 (w + v.2.2.2) else some ((z 0), b.2, v.2.2.1, (w + v.2.2.2))) self i5 w k := by
  obtain ⟨m1, e, e1, he, c1, i1, h0⟩ := hl
  obtain ⟨m2, e2, t2, o2, i2⟩ := hm m1 i1
  rw [e1, obind]
  dsimp only
  rw [e2, obind]
  unfold fX9_thrown
  rw [obind]
  dsimp only
  rw [if_pos t2]
  by_cases hz : s.1 = 0
  · rw [if_pos (by rw [hz]), if_pos (by rw [o2.2, h0 hz]; exact lg_eq _)]
    exact ⟨m2, D, e, W', rfl, he, cInv_m c1 o2, i2, hB⟩
  · rw [if_neg (zne (by omega))]
    exact ⟨m2, D, e, W', rfl, he, cInv_m c1 o2, i2, hB⟩
/-- what an inner change may be -/
def sOk (A : Ab) (s : Int × Int × Ab) (N : Int) : Prop := (s.1 = 0 ∧ aX s.2.2 ≤ aX A + 1) ∨ ((1 ≤ s.1 ∧ s.1 ≤ N) ∧ s.2.2 = A ∧ s.2.1 = 0)
theorem sOk0 {A A' : Ab} {t N : Int} (h : aX A' ≤ aX A + 1) : sOk A (0, t, A') N := Or.inl ⟨rfl, h⟩
theorem sOk1 {A : Ab} {c N : Int} (h : 1 ≤ c ∧ c ≤ N) : sOk A (c, 0, A) N := Or.inr ⟨h, rfl, rfl⟩
theorem law_mut {self : lSelf} {i5 : Int32} {w k n : Nat} {m : pmI} {D : Nat → Nat → UInt64} {W : Wd} {s : Int × Int × Ab} {ex : Int → Nat} {N : Int} {r : Option ((Int32 ⊕ Nat) × pmI)} {kr : Nat → pmI → Option lR} {f : pmI → Option (Int32 × pmI)} (hn : 200 ≤ n) (hM : mInv m W) (w0 : wfA (wA W)) (hB : wB W k)
    (hc : cRes m W r s ex) (hkr : ∀ m2, ¬ s.1 = 0 → kr (ex s.1) m2 = some (z s.1, m2, D, 1)) (hin : ∀ m1, repR (m1.1 114) (wA W) → mRes m1 (f m1) s) (hs : sOk (wA W) s N) (hN : N < 100) :
    Sgo ((r.bind (oT (fun v1 m2 => pmLet (m2.1, (pmU m2.2 127 0 (Int32.toInt64 v1))) fun m3 => some ((z 0), m3, D, 0)) kr)).bind fun v => ((fX9_keeps n v.2.1).bind fun v1 => (f v1).bind fun v2 => (fX9_ends n v2.1 v2.2).bind fun v3 => some (v3.1, v3.2)).bind fun b => (fX9_thrown b.2).bind fun t => if t = v.1 then if v.1 = (z 0) then if (lg_cmp (b.2.2 127 0) (Int32.toInt64 b.1)) = (z 0) then self (i5 + (z 4)) b.2 v.2.2.1 (w + v.2.2.2) else some ((z 0), b.2, v.2.2.1, (w + v.2.2.2)) else self (i5 + (z 4)) b.2 v.2.2.1 (w + v.2.2.2) else some ((z 0), b.2, v.2.2.1, (w + v.2.2.2))) self i5 w k := by
  have hr : 0 ≤ s.1 ∧ s.1 < 100 := by
    rcases hs with ⟨h, -⟩ | ⟨h, -⟩ <;> omega
  refine law_case (fm := fun m1 => (fX9_keeps n m1).bind fun v1 => (f v1).bind fun v2 => (fX9_ends n v2.1 v2.2).bind fun v3 => some (v3.1, v3.2)) (l_help hc hM hkr) (fun m1 h1 => ?_) ?_ hr
  · exact m_mut hn h1 w0 hin hr (fun h => by
      rcases hs with ⟨h2, -⟩ | ⟨-, h2⟩
      · exact absurd h2 h
      · exact h2)
  · by_cases e : s.1 = 0
    · rw [if_pos e]
      refine wB_put hB ?_ (by omega)
      rcases hs with ⟨-, h⟩ | ⟨h, -⟩
      · have := hB.1
        omega
      · omega
    · rw [if_neg e]
      exact wB_up hB (by omega)
theorem ok_sProp (A : Ab) (x y : Int) : sOk A (sProp A x y) 2 := by
  unfold sProp
  split
  · split
    · exact sOk1 (by omega)
    · exact sOk0 (Nat.le_succ _)
  · exact sOk1 (by omega)
theorem ok_sTake (A : Ab) (x y : Int) : sOk A (sTake A x y) 2 := by
  unfold sTake
  split
  · split
    · exact sOk0 (Nat.le_succ _)
    · exact sOk1 (by omega)
  · exact sOk1 (by omega)
theorem ok_sAdd (A : Ab) (x y v : Int) : sOk A (sAdd A x y v) 3 := by
  unfold sAdd
  split
  · split
    · split
      · exact sOk1 (by omega)
      · exact sOk0 (Nat.le_refl _)
    · exact sOk1 (by omega)
  · exact sOk1 (by omega)
theorem ok_sRemove (A : Ab) (d : Int) : sOk A (sRemove A d) 1 := by
  unfold sRemove
  split
  · exact sOk1 (by omega)
  · exact sOk0 (Nat.le_succ _)
theorem ok_sRenew (A : Ab) (d : Int) : sOk A (sRenew A d) 1 := by
  unfold sRenew
  split
  · exact sOk1 (by omega)
  · exact sOk0 (Nat.le_succ _)
theorem ok_sPair (A : Ab) (a b : Int) : sOk A (sPair A a b) 3 := by
  unfold sPair
  split
  · split
    · exact sOk1 (by omega)
    · split
      · exact sOk1 (by omega)
      · exact sOk0 (Nat.le_succ _)
  · exact sOk1 (by omega)
  · exact sOk1 (by omega)
theorem ok_sAppend (A : Ab) (f c : Int) : sOk A (sAppend A f c) 3 := by
  unfold sAppend
  split
  · split
    · exact sOk1 (by omega)
    · split
      · exact sOk1 (by omega)
      · exact sOk0 (Nat.le_succ _)
  · exact sOk1 (by omega)
theorem ok_sClear (A : Ab) (f : Int) : sOk A (sClear A f) 1 := by
  unfold sClear
  split
  · exact sOk0 (Nat.le_succ _)
  · exact sOk1 (by omega)
theorem ok_sOpen (A : Ab) (x y : Int) : sOk A (sOpen A x y) 2 := by
  unfold sOpen
  split
  · split
    · exact sOk1 (by omega)
    · exact sOk0 (Nat.le_succ _)
  · exact sOk1 (by omega)
theorem cd1 {A : Ab} {s : Int × Int × Ab} (h : sOk A s 1) (h0 : ¬ s.1 = 0) : s.1 = 1 := by
  rcases h with ⟨h, -⟩ | ⟨h, -⟩ <;> omega
theorem cd2 {A : Ab} {s : Int × Int × Ab} (h : sOk A s 2) (h0 : ¬ s.1 = 0) : s.1 = 1 ∨ s.1 = 2 := by
  rcases h with ⟨h, -⟩ | ⟨h, -⟩ <;> omega
theorem cd3 {A : Ab} {s : Int × Int × Ab} (h : sOk A s 3) (h0 : ¬ s.1 = 0) : s.1 = 1 ∨ s.1 = 2 ∨ s.1 = 3 := by
  rcases h with ⟨h, -⟩ | ⟨h, -⟩ <;> omega
section LAW1
variable {E : pmEv0} {n : Nat} {self : lSelf} {i5 : Int32} {m : pmI} {D : Nat → Nat → UInt64} {w k : Nat} {W : Wd}
theorem law_addProp (hn : 200 ≤ n) (h : cInv m W) (hM : mInv m W) (hB : wB W k) (hk : k < 900000) (q1 : okI (i5 + (z 1)) E.1 = true) (q2 : okI (i5 + (z 2)) E.1 = true) : Sgo (jL_law_99998_272 E n self i5 m D w) self i5 w k := by
  unfold jL_law_99998_272
  obtain ⟨x, hx, ex⟩ := z_of (E.2.1 (Int32.toNatClampNeg (i5 + (z 1))))
  obtain ⟨y, hy, ey⟩ := z_of (E.2.1 (Int32.toNatClampNeg (i5 + (z 2))))
  simp only [q1, q2, and_self, if_true, ex, ey]
  unfold fL_addProp_0_127 fX9_addProp
  exact law_mut (f := fX9_props n (z x) (z y)) (s := sProp (wA W) x y) hn hM h.2.1 hB (c_addProp (n := n) h (by omega) hx hy) (fun m2 h0 => by rcases cd2 (ok_sProp (wA W) x y) h0 with e | e <;> (rw [e]; rfl)) (fun m1 h1 => m_props (n := n) h1 h.2.1 (by omega) hx hy) (ok_sProp _ x y) (by omega)
theorem law_removeProp (hn : 200 ≤ n) (h : cInv m W) (hM : mInv m W) (hB : wB W k) (hk : k < 900000) (q1 : okI (i5 + (z 1)) E.1 = true) (q2 : okI (i5 + (z 2)) E.1 = true) : Sgo (jL_law_99998_340 E n self i5 m D w) self i5 w k := by
  unfold jL_law_99998_340
  obtain ⟨x, hx, ex⟩ := z_of (E.2.1 (Int32.toNatClampNeg (i5 + (z 1))))
  obtain ⟨y, hy, ey⟩ := z_of (E.2.1 (Int32.toNatClampNeg (i5 + (z 2))))
  simp only [q1, q2, and_self, if_true, ex, ey]
  unfold fL_removeProp_0_127 fX9_removeProp
  exact law_mut (f := fX9_takes (z x) (z y)) (s := sTake (wA W) x y) hn hM h.2.1 hB (c_removeProp h hx hy) (fun m2 h0 => by rcases cd2 (ok_sTake (wA W) x y) h0 with e | e <;> (rw [e]; rfl)) (fun m1 h1 => m_takes h1 h.2.1 hx hy) (ok_sTake _ x y) (by omega)
theorem law_removeDancer (hn : 200 ≤ n) (h : cInv m W) (hM : mInv m W) (hB : wB W k) (hk : k < 900000) (q1 : okI (i5 + (z 1)) E.1 = true) : Sgo (jL_law_99998_657 E n self i5 m D w) self i5 w k := by
  unfold jL_law_99998_657
  obtain ⟨x, hx, ex⟩ := z_of (E.2.1 (Int32.toNatClampNeg (i5 + (z 1))))
  simp only [q1, and_self, if_true, ex]
  unfold fL_removeDancer_0_127 fX9_removeDancer
  exact law_mut (f := fX9_removes n (z x)) (s := sRemove (wA W) x) hn hM h.2.1 hB (c_removeDancer (n := n) h (by omega) hx) (fun m2 h0 => by obtain e := cd1 (ok_sRemove (wA W) x) h0; rw [e]; rfl) (fun m1 h1 => m_removes (n := n) h1 h.2.1 (by omega) hx) (ok_sRemove _ x) (by omega)
theorem law_pair (hn : 200 ≤ n) (h : cInv m W) (hM : mInv m W) (hB : wB W k) (hk : k < 900000) (q1 : okI (i5 + (z 1)) E.1 = true) (q2 : okI (i5 + (z 2)) E.1 = true) : Sgo (jL_law_99998_713 E n self i5 m D w) self i5 w k := by
  unfold jL_law_99998_713
  obtain ⟨x, hx, ex⟩ := z_of (E.2.1 (Int32.toNatClampNeg (i5 + (z 1))))
  obtain ⟨y, hy, ey⟩ := z_of (E.2.1 (Int32.toNatClampNeg (i5 + (z 2))))
  simp only [q1, q2, and_self, if_true, ex, ey]
  unfold fL_pair_0_127 fX9_pair
  exact law_mut (f := fX9_pairs n (z x) (z y)) (s := sPair (wA W) x y) hn hM h.2.1 hB (c_pair (n := n) h (by omega) hx hy) (fun m2 h0 => by rcases cd3 (ok_sPair (wA W) x y) h0 with e | e | e <;> (rw [e]; rfl)) (fun m1 h1 => m_pairs (n := n) h1 h.2.1 (by omega) hx hy) (ok_sPair _ x y) (by omega)
theorem law_renewNails (hn : 200 ≤ n) (h : cInv m W) (hM : mInv m W) (hB : wB W k) (hk : k < 900000) (q1 : okI (i5 + (z 1)) E.1 = true) : Sgo (jL_law_99998_837 E n self i5 m D w) self i5 w k := by
  unfold jL_law_99998_837
  obtain ⟨x, hx, ex⟩ := z_of (E.2.1 (Int32.toNatClampNeg (i5 + (z 1))))
  simp only [q1, and_self, if_true, ex]
  unfold fL_renewNails_0_127 fX9_renewNails
  exact law_mut (f := fX9_renews n (z x)) (s := sRenew (wA W) x) hn hM h.2.1 hB (c_renewNails (n := n) h (by omega) hx) (fun m2 h0 => by obtain e := cd1 (ok_sRenew (wA W) x) h0; rw [e]; rfl) (fun m1 h1 => m_renews (n := n) h1 h.2.1 (by omega) hx) (ok_sRenew _ x) (by omega)
theorem law_addMove (hn : 200 ≤ n) (h : cInv m W) (hM : mInv m W) (hB : wB W k) (hk : k < 900000) (q1 : okI (i5 + (z 1)) E.1 = true) (q2 : okI (i5 + (z 2)) E.1 = true) : Sgo (jL_law_99998_1211 E n self i5 m D w) self i5 w k := by
  unfold jL_law_99998_1211
  obtain ⟨x, hx, ex⟩ := z_of (E.2.1 (Int32.toNatClampNeg (i5 + (z 1))))
  obtain ⟨y, hy, ey⟩ := z_of ((Int32.toUInt32 (E.2.1 (Int32.toNatClampNeg (i5 + (z 2)))) % 65536).toInt32)
  simp only [q1, q2, and_self, if_true, ex, ey]
  unfold fL_addMove_0_127 fX9_addMove
  exact law_mut (f := fX9_appends (z x) (z y)) (s := sAppend (wA W) x y) hn hM h.2.1 hB (c_addMove (n := n) h (by omega) hx hy) (fun m2 h0 => by rcases cd3 (ok_sAppend (wA W) x y) h0 with e | e | e <;> (rw [e]; rfl)) (fun m1 h1 => m_appends h1 h.2.1 hx hy) (ok_sAppend _ x y) (by omega)
theorem law_clearFigure (hn : 200 ≤ n) (h : cInv m W) (hM : mInv m W) (hB : wB W k) (hk : k < 900000) (q1 : okI (i5 + (z 1)) E.1 = true) : Sgo (jL_law_99998_1281 E n self i5 m D w) self i5 w k := by
  unfold jL_law_99998_1281
  obtain ⟨x, hx, ex⟩ := z_of (E.2.1 (Int32.toNatClampNeg (i5 + (z 1))))
  simp only [q1, and_self, if_true, ex]
  unfold fL_clearFigure_0_127 fX9_clearFigure
  exact law_mut (f := fX9_clears n (z x)) (s := sClear (wA W) x) hn hM h.2.1 hB (c_clearFigure h hx) (fun m2 h0 => by obtain e := cd1 (ok_sClear (wA W) x) h0; rw [e]; rfl) (fun m1 h1 => m_clears (n := n) h1 h.2.1 (by omega) hx) (ok_sClear _ x) (by omega)
theorem law_addExit (hn : 200 ≤ n) (h : cInv m W) (hM : mInv m W) (hB : wB W k) (hk : k < 900000) (q1 : okI (i5 + (z 1)) E.1 = true) (q2 : okI (i5 + (z 2)) E.1 = true) : Sgo (jL_law_99998_1769 E n self i5 m D w) self i5 w k := by
  unfold jL_law_99998_1769
  obtain ⟨x, hx, ex⟩ := z_of (E.2.1 (Int32.toNatClampNeg (i5 + (z 1))))
  obtain ⟨y, hy, ey⟩ := z_of (E.2.1 (Int32.toNatClampNeg (i5 + (z 2))))
  simp only [q1, q2, and_self, if_true, ex, ey]
  unfold fL_addExit_0_127 fX9_addExit
  exact law_mut (f := fX9_opens n (z x) (z y)) (s := sOpen (wA W) x y) hn hM h.2.1 hB (c_addExit (n := n) h (by omega) hx hy) (fun m2 h0 => by rcases cd2 (ok_sOpen (wA W) x y) h0 with e | e <;> (rw [e]; rfl)) (fun m1 h1 => m_opens (n := n) h1 h.2.1 (by omega) hx hy) (ok_sOpen _ x y) (by omega)
theorem law_addDancer (hn : 200 ≤ n) (h : cInv m W) (hM : mInv m W) (hB : wB W k) (hk : k < 900000) (q1 : okI (i5 + (z 1)) E.1 = true) (q2 : okI (i5 + (z 2)) E.1 = true) (q3 : okI (i5 + (z 3)) E.1 = true) : Sgo (jL_law_99998_577 E n self i5 m D w) self i5 w k := by
  unfold jL_law_99998_577
  obtain ⟨x, hx, ex⟩ := z_of (E.2.1 (Int32.toNatClampNeg (i5 + (z 1))))
  obtain ⟨y, hy, ey⟩ := z_of (E.2.1 (Int32.toNatClampNeg (i5 + (z 2))))
  obtain ⟨v, hv, ev⟩ := z_of (E.2.1 (Int32.toNatClampNeg (i5 + (z 3))))
  simp only [q1, q2, q3, and_self, if_true, ex, ey, ev]
  have hX := hB.1
  unfold fL_addDancer_0_127 fX9_addDancer
  exact law_mut (f := fX9_adds n (z x) (z y) (z v)) (s := sAdd (wA W) x y v) hn hM h.2.1 hB ((fun a b c => c_addDancer (n := n) h (by omega) a b c (by omega)) hx hy hv) (fun m2 h0 => by rcases cd3 (ok_sAdd (wA W) x y v) h0 with e | e | e <;> (rw [e]; rfl)) (fun m1 h1 => m_adds (n := n) h1 h.2.1 (by omega) hx hy hv) (ok_sAdd _ x y v) (by omega)
end LAW1
