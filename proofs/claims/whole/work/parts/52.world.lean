/-! the whole of either side, between two calls -/
abbrev Wd : Type := Ab × List Ab × Option Ab × (Nat × (Nat → Nat)) × (Nat × (Nat → Nat)) × Int × Int
abbrev wA (W : Wd) : Ab := W.1
abbrev wH (W : Wd) : List Ab := W.2.1
abbrev wS (W : Wd) : Option Ab := W.2.2.1
abbrev wT (W : Wd) : Nat := W.2.2.2.1.1
abbrev wTf (W : Wd) : Nat → Nat := W.2.2.2.1.2
abbrev wL (W : Wd) : Nat := W.2.2.2.2.1.1
abbrev wLf (W : Wd) : Nat → Nat := W.2.2.2.2.1.2
abbrev wE (W : Wd) : Int := W.2.2.2.2.2.1
abbrev wF (W : Wd) : Int := W.2.2.2.2.2.2
/-- another state, the one of before kept -/
def wPut (W : Wd) (A : Ab) : Wd := (A, (wA W :: wH W).take 8, W.2.2)
def cSv (m : pmI) : Option Ab → Prop
  | none => m.1 0 10 = z 0
  | some B => m.1 0 10 = z 1 ∧ wfA B ∧ repC 9 m B
def cInv (m : pmI) (W : Wd) : Prop := repC 1 m (wA W) ∧ wfA (wA W) ∧ cHist m (wH W) ∧ cSv m (wS W) ∧
  (wT W ≤ 60 ∧ m.1 107 1 = z (wT W) ∧ ∀ k, k < wT W → m.1 108 k = z (wTf W k) ∧ wTf W k < 65536) ∧
  (wL W ≤ 12 ∧ m.1 111 1 = z (wL W) ∧ ∀ k, k < wL W → m.1 112 k = z (wLf W k) ∧ wLf W k < 65536) ∧
  (m.1 0 11 = z (wE W) ∧ -1 ≤ wE W ∧ wE W ≤ 100) ∧ (m.1 0 12 = z (wF W) ∧ -1 ≤ wF W ∧ wF W ≤ 100)
def mSv (m : pmI) : Option Ab → Prop
  | none => m.1 113 15 = z 0
  | some B => m.1 113 15 = z 1 ∧ repR (m.1 117) B
def mInv (m : pmI) (W : Wd) : Prop := repR (m.1 114) (wA W) ∧ mHist m (wH W) ∧ mSv m (wS W) ∧
  (m.1 113 21 = z (wT W) ∧ ∀ k, k < wT W → m.1 125 k = z (wTf W k)) ∧
  (m.1 113 18 = z (wL W) ∧ ∀ k, k < wL W → m.1 124 k = z (wLf W k)) ∧
  m.1 113 11 = z (wE W) ∧ m.1 113 12 = z (wF W)
theorem cSv_fr {m m' : pmI} {o : Option Ab} (h : cSv m o) (e : ∀ i, i = 0 ∨ (9 ≤ i ∧ i ≤ 16) → m'.1 i = m.1 i ∧ m'.2 i = m.2 i) : cSv m' o := by
  cases o with
  | none => exact (congrFun (e 0 (Or.inl rfl)).1 10).trans h
  | some B => exact ⟨(congrFun (e 0 (Or.inl rfl)).1 10).trans h.1, h.2.1, repC_fr h.2.2 (fun i h1 h2 => e i (by omega))⟩
/-- the class's side stays where its rows stay -/
theorem cInv_fr {m m' : pmI} {W : Wd} (h : cInv m W) (e : ∀ i, i ≤ 90 ∨ i = 107 ∨ i = 108 ∨ i = 111 ∨ i = 112 → m'.1 i = m.1 i ∧ m'.2 i = m.2 i) : cInv m' W := by
  obtain ⟨h1, h2, h3, h4, h5, h6, h7, h8⟩ := h
  refine ⟨repC_fr h1 (fun i _ _ => e i (by omega)), h2, cHist_fr h3 (fun i _ _ => e i (by omega)), cSv_fr h4 (fun i hi => e i (by omega)), ?_, ?_, ?_, ?_⟩
  · rw [(e 107 (by omega)).1, (e 108 (by omega)).1]; exact h5
  · rw [(e 111 (by omega)).1, (e 112 (by omega)).1]; exact h6
  · rw [(e 0 (by omega)).1]; exact h7
  · rw [(e 0 (by omega)).1]; exact h8
/-- .. and with another state -/
theorem cInv_st {m m' : pmI} {W : Wd} {A : Ab} (h : cInv m W) (f : fr cS m m') (hA : repC 1 m' A) (wA' : wfA A) : cInv m' (A, W.2) := by
  have e : ∀ i, ¬ ((1 ≤ i ∧ i ≤ 8) ∨ (91 ≤ i ∧ i ≤ 106)) → m'.1 i = m.1 i ∧ m'.2 i = m.2 i := fun i hi => f i (decide_eq_false hi)
  obtain ⟨h1, h2, h3, h4, h5, h6, h7, h8⟩ := h
  refine ⟨hA, wA', cHist_fr h3 (fun i _ _ => e i (by omega)), cSv_fr h4 (fun i hi => e i (by omega)), ?_, ?_, ?_, ?_⟩
  · rw [(e 107 (by omega)).1, (e 108 (by omega)).1]; exact h5
  · rw [(e 111 (by omega)).1, (e 112 (by omega)).1]; exact h6
  · rw [(e 0 (by omega)).1]; exact h7
  · rw [(e 0 (by omega)).1]; exact h8
theorem mSv_fr {m m' : pmI} {o : Option Ab} (h : mSv m o) (e : m'.1 113 15 = m.1 113 15) (e2 : m'.1 117 = m.1 117) : mSv m' o := by
  cases o with
  | none => exact e.trans h
  | some B =>
    refine ⟨e.trans h.1, ?_⟩
    rw [e2]
    exact h.2
theorem mInv_fr {m m' : pmI} {W : Wd} (h : mInv m W) (e : ∀ i, 114 ≤ i → i ≤ 125 → ¬ (i = 115 ∨ i = 116 ∨ (119 ≤ i ∧ i ≤ 123)) → m'.1 i = m.1 i) (e3 : ∀ k, ¬ (k = 10 ∨ k = 13 ∨ k = 14) → m'.1 113 k = m.1 113 k) : mInv m' W := by
  obtain ⟨h1, h2, h3, h4, h5, h6, h7⟩ := h
  refine ⟨by rw [e 114 (by omega) (by omega) (by omega)]; exact h1, mHist_fr h2 (e 118 (by omega) (by omega) (by omega)) (e3 9 (by omega)), mSv_fr h3 (e3 15 (by omega)) (e 117 (by omega) (by omega) (by omega)), ?_, ?_, ?_, ?_⟩
  · rw [e3 21 (by omega), e 125 (by omega) (by omega) (by omega)]; exact h4
  · rw [e3 18 (by omega), e 124 (by omega) (by omega) (by omega)]; exact h5
  · rw [e3 11 (by omega)]; exact h6
  · rw [e3 12 (by omega)]; exact h7
/-- the class keeps the state of before -/
theorem c_remember {m : pmI} {W : Wd} (h : cInv m W) : ∃ m', fX8_remember m = some m' ∧ cInv m' (wPut W (wA W)) ∧ ∀ i, ¬ (25 ≤ i ∧ i ≤ 90) → m'.1 i = m.1 i ∧ m'.2 i = m.2 i := by
  obtain ⟨h1, h2, h3, h4, h5, h6, h7, h8⟩ := h
  obtain ⟨m1, e1, o1, g1⟩ := c_push (o := 1) (by omega) h1 h2 h3 (r := fX2_push_25_1 m) (fun nx hx hm => push_1 hx hm)
  unfold fX8_remember
  rw [e1, obind]
  refine ⟨m1, rfl, ⟨repC_fr h1 (fun i _ _ => o1 i (by omega)), h2, g1, cSv_fr h4 (fun i hi => o1 i (by omega)), ?_, ?_, ?_, ?_⟩, o1⟩
  · show wT W ≤ 60 ∧ _ ∧ _
    rw [(o1 107 (by omega)).1, (o1 108 (by omega)).1]; exact h5
  · show wL W ≤ 12 ∧ _ ∧ _
    rw [(o1 111 (by omega)).1, (o1 112 (by omega)).1]; exact h6
  · rw [(o1 0 (by omega)).1]; exact h7
  · rw [(o1 0 (by omega)).1]; exact h8
theorem m_keeps {m : pmI} {n : Nat} (hn : 200 ≤ n) : ∃ m', fX9_keeps n m = some m' ∧ m'.2 = m.2 ∧ (∀ i, ¬ i = 113 → ¬ i = 115 → m'.1 i = m.1 i) ∧ (∀ k, ¬ k = 10 → m'.1 113 k = m.1 113 k) ∧ ∀ b, b < 188 → m'.1 115 b = m.1 114 b := by
  obtain ⟨m1, e1, j1, o1, r1⟩ := m_cp_114_115 (n := n) (m := m) hn (u := 0) (v := 0) (by omega) (by omega)
  unfold fX9_keeps
  rw [show z 0 = z ((0 : Nat) : Int) from rfl, e1, obind]
  obtain ⟨m2, e2, j2, o2, r2⟩ := w_1 m1 113 10 (z ((0 : Nat) : Int))
  rw [e2]
  refine ⟨m2, rfl, j2.trans j1, fun i h1 h2 => (o2 i h1).trans (o1 i h2), fun k hk => by rw [r2, if_neg hk, o1 113 (by decide)], fun b hb => ?_⟩
  rw [o2 115 (by decide), r1, if_pos (by omega), show 0 + (b - 0) = b by omega]
theorem m_ends {m : pmI} {n : Nat} {A : Ab} {hs : List Ab} (hn : 200 ≤ n) (h0 : m.1 113 10 = z 0) (hA : repR (m.1 115) A) (w : wfA A) (hh : mHist m hs) (t : Int32) : ∃ m', fX9_ends n t m = some (t, m') ∧ m'.2 = m.2 ∧ (∀ i, ¬ i = 113 → ¬ i = 118 → m'.1 i = m.1 i) ∧ (∀ k, ¬ k = 9 → m'.1 113 k = m.1 113 k) ∧ mHist m' ((A :: hs).take 8) := by
  obtain ⟨g1, g2, g3⟩ := hh
  have last : ∀ (m : pmI) (l : Nat), l < 8 → m.1 113 9 = z (l : Int) → repR (m.1 115) A → ∃ m', jX9_ends_65 n t m = some (t, m') ∧ m'.2 = m.2 ∧ (∀ i, ¬ i = 113 → ¬ i = 118 → m'.1 i = m.1 i) ∧ (∀ k, ¬ k = 9 → m'.1 113 k = m.1 113 k) ∧ m'.1 113 9 = z ((l + 1 : Nat) : Int) ∧ repR (fun b => m'.1 118 (188 * l + b)) A ∧ ∀ b, b < 188 * l → m'.1 118 b = m.1 118 b := fun m l hl h9 hA => by
    obtain ⟨m1, e1, j1, o1, r1⟩ := m_cp_115_118 (n := n) (m := m) hn (u := 0) (v := 188 * l) (by omega) (by omega)
    unfold jX9_ends_65
    rw [h9, z_mul, show (188 : Int) * (l : Int) = ((188 * l : Nat) : Int) by omega, show z 0 = z ((0 : Nat) : Int) from rfl, e1, obind, pmLet_eq]
    obtain ⟨m2, e2, j2, o2, r2⟩ := w_1 m1 113 9 (m1.1 113 9 + z 1)
    rw [e2]
    refine ⟨m2, rfl, j2.trans j1, fun i h1 h2 => (o2 i h1).trans (o1 i h2), fun k hk => by rw [r2, if_neg hk, o1 113 (by decide)], ?_, repR_fr hA w (fun b hb => ?_), fun b hb => ?_⟩
    · rw [r2, if_pos rfl, o1 113 (by decide), h9, z_add]
      rfl
    · rw [o2 118 (by decide), r1, if_pos (by omega), show 0 + (188 * l + b - 188 * l) = b by omega]
    · rw [o2 118 (by decide), r1, if_neg (by omega)]
  unfold fX9_ends
  rw [if_pos h0]
  by_cases e8 : hs.length = 8
  · rw [if_pos (show m.1 113 9 = z 8 by rw [g1, e8]; rfl)]
    have L := forI (lX9_ends_l20 n t) 8 (fun i s => 1 ≤ i ∧ s.2 = m.2 ∧ (∀ a, ¬ a = 118 → s.1 a = m.1 a) ∧ ∀ b, s.1 118 b = if b < 188 * (i - 1) then m.1 118 (b + 188) else m.1 118 b) (fun r => ∃ s, r = some s ∧ s.2 = m.2 ∧ (∀ a, ¬ a = 118 → s.1 a = m.1 a) ∧ ∀ b, s.1 118 b = if b < 188 * 7 then m.1 118 (b + 188) else m.1 118 b) (fun q i s hi hs => by
      obtain ⟨s0, s1, s2, s3⟩ := hs
      obtain ⟨t1, y1, j1, o1, r1⟩ := m_cp_118_118 (n := n) (m := s) hn (u := 188 * i) (v := 188 * (i - 1)) (by omega) (by omega) (by omega)
      refine ⟨t1, ⟨by omega, j1.trans s1, fun a ha => (o1 a ha).trans (s2 a ha), fun b => ?_⟩, ?_⟩
      · rw [r1]
        by_cases h : 188 * (i - 1) ≤ b ∧ b < 188 * (i - 1) + 188
        · rw [if_pos h, s3, if_neg (by omega), if_pos (by omega), show 188 * i + (b - 188 * (i - 1)) = b + 188 by omega]
        · rw [if_neg h, s3]
          by_cases h2 : b < 188 * (i - 1)
          · rw [if_pos h2, if_pos (by omega)]
          · rw [if_neg h2, if_neg (by omega)]
      · show bX9_ends_l20 n t (lX9_ends_l20 n t q) (z (i : Int)) s = _
        unfold bX9_ends_l20
        rw [if_pos (zlt (by omega)), z_sub, z_mul, z_mul, show (188 : Int) * (i : Int) = ((188 * i : Nat) : Int) by omega, show (188 : Int) * ((i : Int) - 1) = ((188 * (i - 1) : Nat) : Int) by omega, y1, obind, z_add]) (fun q s hs => by
      obtain ⟨s0, s1, s2, s3⟩ := hs
      refine ⟨s, ?_, s1, s2, s3⟩
      show bX9_ends_l20 n t (lX9_ends_l20 n t q) (z ((8 : Nat) : Int)) s = _
      unfold bX9_ends_l20
      rw [if_neg (zge (by omega))]) 7 1 n m (by omega) (by omega) ⟨Nat.le_refl _, rfl, fun _ _ => rfl, fun b => by rw [if_neg (by omega)]⟩
    obtain ⟨m1, e1, j1, o1, r1⟩ := L
    rw [show z 1 = z ((1 : Nat) : Int) from rfl, e1, obind, pmLet_eq]
    obtain ⟨m2, e2, j2, o2, r2⟩ := w_1 m1 113 9 (m1.1 113 9 - z ((1 : Nat) : Int))
    rw [e2]
    obtain ⟨m3, e3, j3, o3, f3, c3, a3, k3⟩ := last m2 7 (by omega) (by rw [r2, if_pos rfl, o1 113 (by decide), g1, e8, z_sub]; rfl) (by rw [o2 115 (by decide), o1 115 (by decide)]; exact hA)
    refine ⟨m3, e3, by rw [j3, j2, j1], fun i h1 h2 => by rw [o3 i h1 h2, o2 i h1, o1 i h2], fun k hk => by rw [f3 k hk, r2, if_neg hk, o1 113 (by decide)], ?_, ?_, fun j B hj => ?_⟩
    · rw [c3, List.length_take, List.length_cons, e8]
      rfl
    · rw [List.length_take]; omega
    · rw [List.length_take, List.length_cons, e8, show min 8 (8 + 1) - 1 - j = 7 - j by omega]
      match j, hj with
      | 0, hj =>
        have hj' : some A = some B := hj
        cases hj'
        exact ⟨w, a3⟩
      | j + 1, hj =>
        rw [List.getElem?_take] at hj
        split at hj
        · rename_i hj8
          obtain ⟨q1, q2⟩ := g3 j B hj
          rw [e8] at q2
          refine ⟨q1, repR_fr q2 q1 (fun b hb => ?_)⟩
          show m3.1 118 (188 * (7 - (j + 1)) + b) = m.1 118 (188 * (8 - 1 - j) + b)
          rw [k3 _ (by omega), o2 118 (by decide), r1, if_pos (by omega), show 188 * (7 - (j + 1)) + b + 188 = 188 * (8 - 1 - j) + b by omega]
        · cases hj
  · rw [if_neg (show ¬ m.1 113 9 = z 8 by rw [g1]; exact zne (by omega))]
    obtain ⟨m3, e3, j3, o3, f3, c3, a3, k3⟩ := last m hs.length (by omega) g1 hA
    refine ⟨m3, e3, j3, o3, f3, ?_, ?_, fun j B hj => ?_⟩
    · rw [c3, List.length_take, List.length_cons, Nat.min_eq_right (by omega)]
    · rw [List.length_take]; omega
    · rw [List.length_take, List.length_cons, Nat.min_eq_right (by omega), show hs.length + 1 - 1 - j = hs.length - j by omega]
      match j, hj with
      | 0, hj =>
        have hj' : some A = some B := hj
        cases hj'
        exact ⟨w, a3⟩
      | j + 1, hj =>
        rw [List.getElem?_take] at hj
        split at hj
        · rename_i hj8
          have hjl : j < hs.length := by
            rcases Nat.lt_or_ge j hs.length with h | h
            · exact h
            · rw [List.getElem?_cons_succ, List.getElem?_eq_none h] at hj; cases hj
          obtain ⟨q1, q2⟩ := g3 j B hj
          refine ⟨q1, repR_fr q2 q1 (fun b hb => ?_)⟩
          show m3.1 118 (188 * (hs.length - (j + 1)) + b) = m.1 118 (188 * (hs.length - 1 - j) + b)
          rw [k3 _ (by omega), show hs.length - (j + 1) = hs.length - 1 - j by omega]
        · cases hj
theorem m_ends0 {m : pmI} {n : Nat} {c : Int} (h : m.1 113 10 = z c) (hc : 0 < c ∧ c < 100) (t : Int32) : fX9_ends n t m = some (z 0, m) := by
  unfold fX9_ends
  rw [if_neg (show ¬ m.1 113 10 = z 0 by rw [h]; exact zne (by omega))]
/-- what a call of the model leaves of the other side -/
def mOut (m m' : pmI) : Prop := (∀ i, i < 113 ∨ 127 ≤ i → m'.1 i = m.1 i) ∧ m'.2 = m.2
/-- a call of the model that changes, if nothing is thrown -/
theorem m_mut {m : pmI} {n : Nat} {W : Wd} {f : pmI → Option (Int32 × pmI)} {s : Int × Int × Ab} (hn : 200 ≤ n) (h : mInv m W) (w : wfA (wA W)) (hin : ∀ m1, repR (m1.1 114) (wA W) → mRes m1 (f m1) s) (hs : 0 ≤ s.1 ∧ s.1 < 100) (hb : ¬ s.1 = 0 → s.2.2 = wA W ∧ s.2.1 = 0) :
    ∃ m', ((fX9_keeps n m).bind fun v1 => (f v1).bind fun v2 => (fX9_ends n v2.1 v2.2).bind fun v3 => some (v3.1, v3.2)) = some (z s.2.1, m') ∧ m'.1 113 10 = z s.1 ∧ mOut m m' ∧ mInv m' (if s.1 = 0 then wPut W s.2.2 else W) := by
  obtain ⟨m1, e1, j1, o1, f1, k1⟩ := m_keeps (m := m) hn
  obtain ⟨h1, h2, h3, h4, h5, h6, h7⟩ := h
  have r1 : repR (m1.1 114) (wA W) := by rw [o1 114 (by decide) (by decide)]; exact h1
  obtain ⟨m2, e2, t2, ⟨a2, b2, c2⟩, r2⟩ := hin m1 r1
  rw [e1, obind, e2, obind]
  dsimp only
  have g115 : repR (m2.1 115) (wA W) := by
    rw [a2 115 (by decide)]
    exact repR_fr h1 w (fun b hb => k1 b hb)
  have hh : mHist m2 (wH W) := mHist_fr (mHist_fr h2 (o1 118 (by decide) (by decide)) (f1 9 (by decide))) (a2 118 (by decide)) (c2 9 (by decide))
  have hsv : mSv m2 (wS W) := mSv_fr (mSv_fr h3 (f1 15 (by decide)) (o1 117 (by decide) (by decide))) (c2 15 (by decide)) (a2 117 (by decide))
  by_cases e : s.1 = 0
  · rw [if_pos e]
    rw [e] at t2
    obtain ⟨m3, e3, j3, o3, f3, g3⟩ := m_ends (n := n) hn t2 g115 w hh (z s.2.1)
    rw [e3, obind]
    refine ⟨m3, rfl, by rw [f3 10 (by decide), e]; exact t2, ⟨fun i hi => by rw [o3 i (by omega) (by omega), a2 i (by omega), o1 i (by omega) (by omega)], by rw [j3, b2, j1]⟩, ?_, g3, mSv_fr hsv (f3 15 (by decide)) (o3 117 (by decide) (by decide)), ?_, ?_, ?_, ?_⟩
    · rw [o3 114 (by decide) (by decide)]; exact r2
    · rw [f3 21 (by decide), c2 21 (by decide), f1 21 (by decide), o3 125 (by decide) (by decide), a2 125 (by decide), o1 125 (by decide) (by decide)]; exact h4
    · rw [f3 18 (by decide), c2 18 (by decide), f1 18 (by decide), o3 124 (by decide) (by decide), a2 124 (by decide), o1 124 (by decide) (by decide)]; exact h5
    · rw [f3 11 (by decide), c2 11 (by decide), f1 11 (by decide)]; exact h6
    · rw [f3 12 (by decide), c2 12 (by decide), f1 12 (by decide)]; exact h7
  · obtain ⟨y1, y2⟩ := hb e
    rw [if_neg e, m_ends0 t2 (by omega), obind, y2]
    rw [y1] at r2
    refine ⟨m2, rfl, t2, ⟨fun i hi => by rw [a2 i (by omega), o1 i (by omega) (by omega)], by rw [b2, j1]⟩, r2, hh, hsv, ?_, ?_, ?_, ?_⟩
    · rw [c2 21 (by decide), f1 21 (by decide), a2 125 (by decide), o1 125 (by decide) (by decide)]; exact h4
    · rw [c2 18 (by decide), f1 18 (by decide), a2 124 (by decide), o1 124 (by decide) (by decide)]; exact h5
    · rw [c2 11 (by decide), f1 11 (by decide)]; exact h6
    · rw [c2 12 (by decide), f1 12 (by decide)]; exact h7
