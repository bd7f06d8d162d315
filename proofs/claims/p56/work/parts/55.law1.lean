/-! the law, call by call: first group -/
/-- how many numbers have been given, at most -/
def wB (W : Wd) (k : Nat) : Prop := aX (wA W) ≤ k ∧ (∀ B, B ∈ wH W → aX B ≤ k) ∧ ∀ B, wS W = some B → aX B ≤ k
theorem wB_up {W : Wd} {k k' : Nat} (h : wB W k) (hk : k ≤ k') : wB W k' := ⟨Nat.le_trans h.1 hk, fun B hB => Nat.le_trans (h.2.1 B hB) hk, fun B hB => Nat.le_trans (h.2.2 B hB) hk⟩
theorem wB_put {W : Wd} {A : Ab} {k k' : Nat} (h : wB W k) (hA : aX A ≤ k') (hk : k ≤ k') : wB (wPut W A) k' := by
  refine ⟨hA, fun B hB => ?_, fun B hB => Nat.le_trans (h.2.2 B hB) hk⟩
  have hB2 : B ∈ wA W :: wH W := List.mem_of_mem_take hB
  rcases List.mem_cons.mp hB2 with rfl | hB3
  · exact Nat.le_trans h.1 hk
  · exact Nat.le_trans (h.2.1 B hB3) hk
abbrev lR : Type := Int32 × pmI × (Nat → Nat → UInt64) × Nat
abbrev lSelf : Type := Int32 → pmI → (Nat → Nat → UInt64) → Nat → Option lR
/-- a call of the law is done: it goes on -/
def Sgo (o : Option lR) (self : lSelf) (i5 : Int32) (w : Nat) (k : Nat) : Prop := ∃ m2 D2 e W2, o = self (i5 + z 4) m2 D2 (w + e) ∧ e ≤ 1 ∧ cInv m2 W2 ∧ mInv m2 W2 ∧ wB W2 (k + 10)
theorem mInv_c {m m' : pmI} {W : Wd} (h : mInv m W) (c : cOut m m') : mInv m' W := mInv_fr h (fun i h1 _ _ => (c i (by omega)).1) (fun k _ => by rw [(c 113 (by omega)).1])
theorem cInv_m {m m' : pmI} {W : Wd} (h : cInv m W) (c : mOut m m') : cInv m' W := cInv_fr h (fun i hi => ⟨c.1 i (by omega), by rw [c.2]⟩)
theorem mInv_J {m : pmI} {W : Wd} (h : mInv m W) (x : Int64) : mInv (m.1, pmU m.2 127 0 x) W := mInv_fr h (fun _ _ _ _ => rfl) (fun _ _ => rfl)
theorem cInv_J {m : pmI} {W : Wd} (h : cInv m W) (x : Int64) : cInv (m.1, pmU m.2 127 0 x) W := cInv_fr h (fun i hi => ⟨rfl, rowneJ (by omega)⟩)
def lOk (m : pmI) (D : Nat → Nat → UInt64) (W W' : Wd) (s : Int × Int) (o : Option lR) : Prop := ∃ m1 e, o = some (z s.1, m1, D, e) ∧ e ≤ 1 ∧ cInv m1 W' ∧ mInv m1 W ∧ (s.1 = 0 → m1.2 127 0 = Int32.toInt64 (z s.2))
theorem l_help {m : pmI} {D : Nat → Nat → UInt64} {W : Wd} {r : Option ((Int32 ⊕ Nat) × pmI)} {s : Int × Int × Ab} {ex : Int → Nat} {kr : Nat → pmI → Option lR} (hc : cRes m W r s ex) (hM : mInv m W) (hkr : ∀ m2, ¬ s.1 = 0 → kr (ex s.1) m2 = some (z s.1, m2, D, 1)) :
    lOk m D W (if s.1 = 0 then wPut W s.2.2 else W) (s.1, s.2.1) (r.bind (oT (fun v1 m2 => pmLet (m2.1, (pmU m2.2 127 0 (Int32.toInt64 v1))) fun m3 => some ((z 0), m3, D, 0)) kr)) := by
  obtain ⟨m1, e1, c1, i1⟩ := hc
  by_cases e : s.1 = 0
  · rw [if_pos e] at e1
    rw [e1, obind, oT_l, pmLet_eq]
    refine ⟨(m1.1, pmU m1.2 127 0 (Int32.toInt64 (z s.2.1))), 0, ?_, by omega, cInv_J i1 _, mInv_J (mInv_c hM c1) _, fun _ => pU_same m1.2 127 0 _⟩
    dsimp only
    rw [e]
  · rw [if_neg e] at e1
    rw [e1, obind, oT_r, hkr m1 e]
    exact ⟨m1, 1, rfl, by omega, i1, mInv_c hM c1, fun h => absurd h e⟩
theorem lg_eq (x : Int64) : lg_cmp x x = z 0 := by
  unfold lg_cmp
  rw [if_neg (show ¬ x > x from fun h => Int64.lt_irrefl h), if_pos rfl]
  rfl
/-- what an inner change may be -/
def sOk (A : Ab) (s : Int × Int × Ab) (N : Int) : Prop := (s.1 = 0 ∧ aX s.2.2 ≤ aX A + 1) ∨ ((1 ≤ s.1 ∧ s.1 ≤ N) ∧ s.2.2 = A ∧ s.2.1 = 0)
theorem sOk0 {A A' : Ab} {t N : Int} (h : aX A' ≤ aX A + 1) : sOk A (0, t, A') N := Or.inl ⟨rfl, h⟩
theorem sOk1 {A : Ab} {c N : Int} (h : 1 ≤ c ∧ c ≤ N) : sOk A (c, 0, A) N := Or.inr ⟨h, rfl, rfl⟩
theorem ok_sProp (A : Ab) (x y : Int) : sOk A (sProp A x y) 2 := by
  unfold sProp
  split
  · split
    · exact sOk1 (by omega)
    · exact sOk0 (Nat.le_succ _)
  · exact sOk1 (by omega)
theorem ok_sTake (A : Ab) (x y : Int) : sOk A (sTake A x y) 2 := by
  unfold sTake
  split
  · split
    · exact sOk0 (Nat.le_succ _)
    · exact sOk1 (by omega)
  · exact sOk1 (by omega)
theorem ok_sAdd (A : Ab) (x y v : Int) : sOk A (sAdd A x y v) 3 := by
  unfold sAdd
  split
  · split
    · split
      · exact sOk1 (by omega)
      · exact sOk0 (Nat.le_refl _)
    · exact sOk1 (by omega)
  · exact sOk1 (by omega)
theorem ok_sRemove (A : Ab) (d : Int) : sOk A (sRemove A d) 1 := by
  unfold sRemove
  split
  · exact sOk1 (by omega)
  · exact sOk0 (Nat.le_succ _)
theorem ok_sRenew (A : Ab) (d : Int) : sOk A (sRenew A d) 1 := by
  unfold sRenew
  split
  · exact sOk1 (by omega)
  · exact sOk0 (Nat.le_succ _)
theorem ok_sPair (A : Ab) (a b : Int) : sOk A (sPair A a b) 3 := by
  unfold sPair
  split
  · split
    · exact sOk1 (by omega)
    · split
      · exact sOk1 (by omega)
      · exact sOk0 (Nat.le_succ _)
  · exact sOk1 (by omega)
  · exact sOk1 (by omega)
theorem ok_sAppend (A : Ab) (f c : Int) : sOk A (sAppend A f c) 3 := by
  unfold sAppend
  split
  · split
    · exact sOk1 (by omega)
    · split
      · exact sOk1 (by omega)
      · exact sOk0 (Nat.le_succ _)
  · exact sOk1 (by omega)
theorem ok_sClear (A : Ab) (f : Int) : sOk A (sClear A f) 1 := by
  unfold sClear
  split
  · exact sOk0 (Nat.le_succ _)
  · exact sOk1 (by omega)
theorem ok_sOpen (A : Ab) (x y : Int) : sOk A (sOpen A x y) 2 := by
  unfold sOpen
  split
  · split
    · exact sOk1 (by omega)
    · exact sOk0 (Nat.le_succ _)
  · exact sOk1 (by omega)
theorem cd1 {A : Ab} {s : Int × Int × Ab} (h : sOk A s 1) (h0 : ¬ s.1 = 0) : s.1 = 1 := by
  rcases h with ⟨h, -⟩ | ⟨h, -⟩ <;> omega
theorem cd2 {A : Ab} {s : Int × Int × Ab} (h : sOk A s 2) (h0 : ¬ s.1 = 0) : s.1 = 1 ∨ s.1 = 2 := by
  rcases h with ⟨h, -⟩ | ⟨h, -⟩ <;> omega
theorem cd3 {A : Ab} {s : Int × Int × Ab} (h : sOk A s 3) (h0 : ¬ s.1 = 0) : s.1 = 1 ∨ s.1 = 2 ∨ s.1 = 3 := by
  rcases h with ⟨h, -⟩ | ⟨h, -⟩ <;> omega

