/-! the law, call by call: partner, figureLength, isFree, unpair, removeExit, positions, undo, save, restore -/
section LAW3
variable {E : pmEv0} {n : Nat} {self : lSelf} {i5 : Int32} {m : pmI} {D : Nat → Nat → UInt64} {w k : Nat} {W : Wd}
/-- the class's side with its states anew -/
theorem cInv_mk {m m' : pmI} {W : Wd} {A : Ab} {hs : List Ab} {sv : Option Ab} (h : cInv m W) (e : ∀ i, i = 107 ∨ i = 108 ∨ i = 111 ∨ i = 112 → m'.1 i = m.1 i) (e1 : m'.1 0 11 = m.1 0 11) (e2 : m'.1 0 12 = m.1 0 12) (hA : repC 1 m' A) (hw : wfA A) (hh : cHist m' hs) (hv : cSv m' sv) : cInv m' (A, hs, sv, W.2.2.2) := by
  obtain ⟨h1, h2, h3, h4, h5, h6, h7, h8⟩ := h
  refine ⟨hA, hw, hh, hv, ?_, ?_, ?_, ?_⟩
  · rw [e 107 (by omega), e 108 (by omega)]; exact h5
  · rw [e 111 (by omega), e 112 (by omega)]; exact h6
  · rw [e1]; exact h7
  · rw [e2]; exact h8
theorem mInv_mk {m m' : pmI} {W : Wd} {A : Ab} {hs : List Ab} {sv : Option Ab} (h : mInv m W) (e4 : m'.1 124 = m.1 124) (e5 : m'.1 125 = m.1 125) (e : ∀ k, k = 11 ∨ k = 12 ∨ k = 18 ∨ k = 21 → m'.1 113 k = m.1 113 k) (hA : repR (m'.1 114) A) (hh : mHist m' hs) (hv : mSv m' sv) : mInv m' (A, hs, sv, W.2.2.2) := by
  obtain ⟨h1, h2, h3, h4, h5, h6, h7⟩ := h
  refine ⟨hA, hh, hv, ?_, ?_, ?_, ?_⟩
  · rw [e 21 (by omega), e5]; exact h4
  · rw [e 18 (by omega), e4]; exact h5
  · rw [e 11 (by omega)]; exact h6
  · rw [e 12 (by omega)]; exact h7
end LAW3

