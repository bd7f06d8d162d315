/-! the whole of either side, between two calls -/
abbrev Wd : Type := Ab × List Ab × Option Ab × (Nat × (Nat → Nat)) × (Nat × (Nat → Nat)) × Int × Int
abbrev wA (W : Wd) : Ab := W.1
abbrev wH (W : Wd) : List Ab := W.2.1
abbrev wS (W : Wd) : Option Ab := W.2.2.1
abbrev wT (W : Wd) : Nat := W.2.2.2.1.1
abbrev wTf (W : Wd) : Nat → Nat := W.2.2.2.1.2
abbrev wL (W : Wd) : Nat := W.2.2.2.2.1.1
abbrev wLf (W : Wd) : Nat → Nat := W.2.2.2.2.1.2
abbrev wE (W : Wd) : Int := W.2.2.2.2.2.1
abbrev wF (W : Wd) : Int := W.2.2.2.2.2.2
/-- another state, the one of before kept -/
def wPut (W : Wd) (A : Ab) : Wd := (A, (wA W :: wH W).take 8, W.2.2)
def cSv (m : pmI) : Option Ab → Prop
  | none => m.1 0 10 = z 0
  | some B => m.1 0 10 = z 1 ∧ wfA B ∧ repC 9 m B
def cInv (m : pmI) (W : Wd) : Prop := repC 1 m (wA W) ∧ wfA (wA W) ∧ cHist m (wH W) ∧ cSv m (wS W) ∧
  (wT W ≤ 60 ∧ m.1 107 1 = z (wT W) ∧ ∀ k, k < wT W → m.1 108 k = z (wTf W k) ∧ wTf W k < 65536) ∧
  (wL W ≤ 12 ∧ m.1 111 1 = z (wL W) ∧ ∀ k, k < wL W → m.1 112 k = z (wLf W k) ∧ wLf W k < 65536) ∧
  (m.1 0 11 = z (wE W) ∧ -1 ≤ wE W ∧ wE W ≤ 100) ∧ (m.1 0 12 = z (wF W) ∧ -1 ≤ wF W ∧ wF W ≤ 100)
def mSv (m : pmI) : Option Ab → Prop
  | none => m.1 113 15 = z 0
  | some B => m.1 113 15 = z 1 ∧ repR (m.1 117) B
def mInv (m : pmI) (W : Wd) : Prop := repR (m.1 114) (wA W) ∧ mHist m (wH W) ∧ mSv m (wS W) ∧
  (m.1 113 21 = z (wT W) ∧ ∀ k, k < wT W → m.1 125 k = z (wTf W k)) ∧
  (m.1 113 18 = z (wL W) ∧ ∀ k, k < wL W → m.1 124 k = z (wLf W k)) ∧
  m.1 113 11 = z (wE W) ∧ m.1 113 12 = z (wF W)
theorem cSv_fr {m m' : pmI} {o : Option Ab} (h : cSv m o) (e : ∀ i, i = 0 ∨ (9 ≤ i ∧ i ≤ 16) → m'.1 i = m.1 i ∧ m'.2 i = m.2 i) : cSv m' o := by
  cases o with
  | none => exact (congrFun (e 0 (Or.inl rfl)).1 10).trans h
  | some B => exact ⟨(congrFun (e 0 (Or.inl rfl)).1 10).trans h.1, h.2.1, repC_fr h.2.2 (fun i h1 h2 => e i (by omega))⟩
/-- the class's side stays where its rows stay -/
theorem cInv_fr {m m' : pmI} {W : Wd} (h : cInv m W) (e : ∀ i, i ≤ 90 ∨ i = 107 ∨ i = 108 ∨ i = 111 ∨ i = 112 → m'.1 i = m.1 i ∧ m'.2 i = m.2 i) : cInv m' W := by
  obtain ⟨h1, h2, h3, h4, h5, h6, h7, h8⟩ := h
  refine ⟨repC_fr h1 (fun i _ _ => e i (by omega)), h2, cHist_fr h3 (fun i _ _ => e i (by omega)), cSv_fr h4 (fun i hi => e i (by omega)), ?_, ?_, ?_, ?_⟩
  · rw [(e 107 (by omega)).1, (e 108 (by omega)).1]; exact h5
  · rw [(e 111 (by omega)).1, (e 112 (by omega)).1]; exact h6
  · rw [(e 0 (by omega)).1]; exact h7
  · rw [(e 0 (by omega)).1]; exact h8
/-- .. and with another state -/
theorem cInv_st {m m' : pmI} {W : Wd} {A : Ab} (h : cInv m W) (f : fr cS m m') (hA : repC 1 m' A) (wA' : wfA A) : cInv m' (A, W.2) := by
  have e : ∀ i, ¬ ((1 ≤ i ∧ i ≤ 8) ∨ (91 ≤ i ∧ i ≤ 106)) → m'.1 i = m.1 i ∧ m'.2 i = m.2 i := fun i hi => f i (decide_eq_false hi)
  obtain ⟨h1, h2, h3, h4, h5, h6, h7, h8⟩ := h
  refine ⟨hA, wA', cHist_fr h3 (fun i _ _ => e i (by omega)), cSv_fr h4 (fun i hi => e i (by omega)), ?_, ?_, ?_, ?_⟩
  · rw [(e 107 (by omega)).1, (e 108 (by omega)).1]; exact h5
  · rw [(e 111 (by omega)).1, (e 112 (by omega)).1]; exact h6
  · rw [(e 0 (by omega)).1]; exact h7
  · rw [(e 0 (by omega)).1]; exact h8
theorem mSv_fr {m m' : pmI} {o : Option Ab} (h : mSv m o) (e : m'.1 113 15 = m.1 113 15) (e2 : m'.1 117 = m.1 117) : mSv m' o := by
  cases o with
  | none => exact e.trans h
  | some B =>
    refine ⟨e.trans h.1, ?_⟩
    rw [e2]
    exact h.2
theorem mInv_fr {m m' : pmI} {W : Wd} (h : mInv m W) (e : ∀ i, 114 ≤ i → i ≤ 125 → ¬ (i = 115 ∨ i = 116 ∨ (119 ≤ i ∧ i ≤ 123)) → m'.1 i = m.1 i) (e3 : ∀ k, ¬ (k = 10 ∨ k = 13 ∨ k = 14) → m'.1 113 k = m.1 113 k) : mInv m' W := by
  obtain ⟨h1, h2, h3, h4, h5, h6, h7⟩ := h
  refine ⟨by rw [e 114 (by omega) (by omega) (by omega)]; exact h1, mHist_fr h2 (e 118 (by omega) (by omega) (by omega)) (e3 9 (by omega)), mSv_fr h3 (e3 15 (by omega)) (e 117 (by omega) (by omega) (by omega)), ?_, ?_, ?_, ?_⟩
  · rw [e3 21 (by omega), e 125 (by omega) (by omega) (by omega)]; exact h4
  · rw [e3 18 (by omega), e 124 (by omega) (by omega) (by omega)]; exact h5
  · rw [e3 11 (by omega)]; exact h6
  · rw [e3 12 (by omega)]; exact h7
/-- the class keeps the state of before -/
theorem c_remember {m : pmI} {W : Wd} (h : cInv m W) : ∃ m', fX8_remember m = some m' ∧ cInv m' (wPut W (wA W)) ∧ ∀ i, ¬ (25 ≤ i ∧ i ≤ 90) → m'.1 i = m.1 i ∧ m'.2 i = m.2 i := by
  obtain ⟨h1, h2, h3, h4, h5, h6, h7, h8⟩ := h
  obtain ⟨m1, e1, o1, g1⟩ := c_push (o := 1) (by omega) h1 h2 h3 (r := fX2_push_25_1 m) (fun nx hx hm => push_1 hx hm)
  unfold fX8_remember
  rw [e1, obind]
  refine ⟨m1, rfl, ⟨repC_fr h1 (fun i _ _ => o1 i (by omega)), h2, g1, cSv_fr h4 (fun i hi => o1 i (by omega)), ?_, ?_, ?_, ?_⟩, o1⟩
  · show wT W ≤ 60 ∧ _ ∧ _
    rw [(o1 107 (by omega)).1, (o1 108 (by omega)).1]; exact h5
  · show wL W ≤ 12 ∧ _ ∧ _
    rw [(o1 111 (by omega)).1, (o1 112 (by omega)).1]; exact h6
  · rw [(o1 0 (by omega)).1]; exact h7
  · rw [(o1 0 (by omega)).1]; exact h8
/-- what a call of the model leaves of the other side -/
def mOut (m m' : pmI) : Prop := (∀ i, i < 113 ∨ 127 ≤ i → m'.1 i = m.1 i) ∧ m'.2 = m.2
