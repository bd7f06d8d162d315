/-! the states of before: the model copies, the class has a ring (written by wip/whole/gen_hist.py) -/
theorem j_push {m : pmI} {nx ln : Nat} (hx : nx < 8) (hl : ln ≤ 8) (h1 : m.1 25 1 = z (nx : Int)) (h2 : m.1 25 2 = z (ln : Int)) : ∃ m', jX2_push_25_1_18 m = some m' ∧ m'.2 = m.2 ∧ (∀ a, a ≠ 25 → m'.1 a = m.1 a) ∧ m'.1 25 1 = z (((nx + 1) % 8 : Nat) : Int) ∧ m'.1 25 2 = z ((min (ln + 1) 8 : Nat) : Int) := by
  have key : ∀ (s1 : Nat), ∃ m', jX2_push_25_1_40 (z (s1 : Int)) m = some m' ∧ m'.2 = m.2 ∧ (∀ a, a ≠ 25 → m'.1 a = m.1 a) ∧ m'.1 25 1 = z (s1 : Int) ∧ m'.1 25 2 = z ((min (ln + 1) 8 : Nat) : Int) := fun s1 => by
    unfold jX2_push_25_1_40
    obtain ⟨m1, e1, j1, o1, r1⟩ := w_1 m 25 1 (z (s1 : Int))
    rw [pmLet_eq, e1]
    have c2 : m1.1 25 2 = z (ln : Int) := by rw [r1, if_neg (by decide), h2]
    by_cases e : ln < 8
    · rw [if_pos (show m1.1 25 2 < z 8 by rw [c2]; exact zlt (by omega))]
      obtain ⟨m2, e2, j2, o2, r2⟩ := w_1 m1 25 2 (m1.1 25 2 + z 1)
      rw [e2]
      refine ⟨m2, rfl, j2.trans j1, fun a ha => (o2 a ha).trans (o1 a ha), by rw [r2, if_neg (by decide), r1, if_pos rfl], ?_⟩
      rw [r2, if_pos rfl, c2, z_add]
      congr 1
      omega
    · rw [if_neg (show ¬ m1.1 25 2 < z 8 by rw [c2]; exact zge (by omega))]
      obtain ⟨m2, e2, j2, o2, r2⟩ := w_1 m1 25 2 (z 8)
      rw [e2]
      refine ⟨m2, rfl, j2.trans j1, fun a ha => (o2 a ha).trans (o1 a ha), by rw [r2, if_neg (by decide), r1, if_pos rfl], ?_⟩
      rw [r2, if_pos rfl]
      congr 1
      omega
  unfold jX2_push_25_1_18
  rw [h1, z_add]
  by_cases e : nx + 1 < 8
  · rw [if_pos (zlt (by omega)), show (nx : Int) + 1 = (((nx + 1) % 8 : Nat) : Int) by omega]
    exact key _
  · rw [if_neg (zge (by omega)), show z 0 = z ((((nx + 1) % 8 : Nat)) : Int) by rw [show (nx + 1) % 8 = 0 by omega]; rfl]
    exact key _
theorem push_1 {m : pmI} {nx : Nat} (hx : nx < 8) (h1 : m.1 25 1 = z (nx : Int)) : fX2_push_25_1 m = (cpF (27 + 8 * nx) 1 m).bind fun v => jX2_push_25_1_18 v := by
  unfold fX2_push_25_1
  rcases (show nx = 0 ∨ nx = 1 ∨ nx = 2 ∨ nx = 3 ∨ nx = 4 ∨ nx = 5 ∨ nx = 6 ∨ nx = 7 by omega) with rfl | rfl | rfl | rfl | rfl | rfl | rfl | rfl
  · rw [h1, if_pos (show z ((0 : Nat) : Int) = z 0 from rfl)]
    unfold fX2_placeAt_25_k0
    rw [obind, if_pos rfl, cp_27_1]
  · rw [h1, if_neg (show ¬ z ((1 : Nat) : Int) = z 0 by decide), if_pos (show z ((1 : Nat) : Int) = z 1 from rfl)]
    unfold fX2_placeAt_25_k1
    rw [obind, if_pos rfl, cp_35_1]
  · rw [h1, if_neg (show ¬ z ((2 : Nat) : Int) = z 0 by decide), if_neg (show ¬ z ((2 : Nat) : Int) = z 1 by decide), if_pos (show z ((2 : Nat) : Int) = z 2 from rfl)]
    unfold fX2_placeAt_25_k2
    rw [obind, if_pos rfl, cp_43_1]
  · rw [h1, if_neg (show ¬ z ((3 : Nat) : Int) = z 0 by decide), if_neg (show ¬ z ((3 : Nat) : Int) = z 1 by decide), if_neg (show ¬ z ((3 : Nat) : Int) = z 2 by decide), if_pos (show z ((3 : Nat) : Int) = z 3 from rfl)]
    unfold fX2_placeAt_25_k3
    rw [obind, if_pos rfl, cp_51_1]
  · rw [h1, if_neg (show ¬ z ((4 : Nat) : Int) = z 0 by decide), if_neg (show ¬ z ((4 : Nat) : Int) = z 1 by decide), if_neg (show ¬ z ((4 : Nat) : Int) = z 2 by decide), if_neg (show ¬ z ((4 : Nat) : Int) = z 3 by decide), if_pos (show z ((4 : Nat) : Int) = z 4 from rfl)]
    unfold fX2_placeAt_25_k4
    rw [obind, if_pos rfl, cp_59_1]
  · rw [h1, if_neg (show ¬ z ((5 : Nat) : Int) = z 0 by decide), if_neg (show ¬ z ((5 : Nat) : Int) = z 1 by decide), if_neg (show ¬ z ((5 : Nat) : Int) = z 2 by decide), if_neg (show ¬ z ((5 : Nat) : Int) = z 3 by decide), if_neg (show ¬ z ((5 : Nat) : Int) = z 4 by decide), if_pos (show z ((5 : Nat) : Int) = z 5 from rfl)]
    unfold fX2_placeAt_25_k5
    rw [obind, if_pos rfl, cp_67_1]
  · rw [h1, if_neg (show ¬ z ((6 : Nat) : Int) = z 0 by decide), if_neg (show ¬ z ((6 : Nat) : Int) = z 1 by decide), if_neg (show ¬ z ((6 : Nat) : Int) = z 2 by decide), if_neg (show ¬ z ((6 : Nat) : Int) = z 3 by decide), if_neg (show ¬ z ((6 : Nat) : Int) = z 4 by decide), if_neg (show ¬ z ((6 : Nat) : Int) = z 5 by decide), if_pos (show z ((6 : Nat) : Int) = z 6 from rfl)]
    unfold fX2_placeAt_25_k6
    rw [obind, if_pos rfl, cp_75_1]
  · rw [h1, if_neg (show ¬ z ((7 : Nat) : Int) = z 0 by decide), if_neg (show ¬ z ((7 : Nat) : Int) = z 1 by decide), if_neg (show ¬ z ((7 : Nat) : Int) = z 2 by decide), if_neg (show ¬ z ((7 : Nat) : Int) = z 3 by decide), if_neg (show ¬ z ((7 : Nat) : Int) = z 4 by decide), if_neg (show ¬ z ((7 : Nat) : Int) = z 5 by decide), if_neg (show ¬ z ((7 : Nat) : Int) = z 6 by decide), if_pos (show z ((7 : Nat) : Int) = z 7 from rfl)]
    unfold fX2_placeAt_25_k7
    rw [obind, if_pos rfl, cp_83_1]
theorem push_17 {m : pmI} {nx : Nat} (hx : nx < 8) (h1 : m.1 25 1 = z (nx : Int)) : fX2_push_25_17 m = (cpF (27 + 8 * nx) 17 m).bind fun v => jX2_push_25_17_18 v := by
  unfold fX2_push_25_17
  rcases (show nx = 0 ∨ nx = 1 ∨ nx = 2 ∨ nx = 3 ∨ nx = 4 ∨ nx = 5 ∨ nx = 6 ∨ nx = 7 by omega) with rfl | rfl | rfl | rfl | rfl | rfl | rfl | rfl
  · rw [h1, if_pos (show z ((0 : Nat) : Int) = z 0 from rfl)]
    unfold fX2_placeAt_25_k0
    rw [obind, if_pos rfl, cp_27_17]
  · rw [h1, if_neg (show ¬ z ((1 : Nat) : Int) = z 0 by decide), if_pos (show z ((1 : Nat) : Int) = z 1 from rfl)]
    unfold fX2_placeAt_25_k1
    rw [obind, if_pos rfl, cp_35_17]
  · rw [h1, if_neg (show ¬ z ((2 : Nat) : Int) = z 0 by decide), if_neg (show ¬ z ((2 : Nat) : Int) = z 1 by decide), if_pos (show z ((2 : Nat) : Int) = z 2 from rfl)]
    unfold fX2_placeAt_25_k2
    rw [obind, if_pos rfl, cp_43_17]
  · rw [h1, if_neg (show ¬ z ((3 : Nat) : Int) = z 0 by decide), if_neg (show ¬ z ((3 : Nat) : Int) = z 1 by decide), if_neg (show ¬ z ((3 : Nat) : Int) = z 2 by decide), if_pos (show z ((3 : Nat) : Int) = z 3 from rfl)]
    unfold fX2_placeAt_25_k3
    rw [obind, if_pos rfl, cp_51_17]
  · rw [h1, if_neg (show ¬ z ((4 : Nat) : Int) = z 0 by decide), if_neg (show ¬ z ((4 : Nat) : Int) = z 1 by decide), if_neg (show ¬ z ((4 : Nat) : Int) = z 2 by decide), if_neg (show ¬ z ((4 : Nat) : Int) = z 3 by decide), if_pos (show z ((4 : Nat) : Int) = z 4 from rfl)]
    unfold fX2_placeAt_25_k4
    rw [obind, if_pos rfl, cp_59_17]
  · rw [h1, if_neg (show ¬ z ((5 : Nat) : Int) = z 0 by decide), if_neg (show ¬ z ((5 : Nat) : Int) = z 1 by decide), if_neg (show ¬ z ((5 : Nat) : Int) = z 2 by decide), if_neg (show ¬ z ((5 : Nat) : Int) = z 3 by decide), if_neg (show ¬ z ((5 : Nat) : Int) = z 4 by decide), if_pos (show z ((5 : Nat) : Int) = z 5 from rfl)]
    unfold fX2_placeAt_25_k5
    rw [obind, if_pos rfl, cp_67_17]
  · rw [h1, if_neg (show ¬ z ((6 : Nat) : Int) = z 0 by decide), if_neg (show ¬ z ((6 : Nat) : Int) = z 1 by decide), if_neg (show ¬ z ((6 : Nat) : Int) = z 2 by decide), if_neg (show ¬ z ((6 : Nat) : Int) = z 3 by decide), if_neg (show ¬ z ((6 : Nat) : Int) = z 4 by decide), if_neg (show ¬ z ((6 : Nat) : Int) = z 5 by decide), if_pos (show z ((6 : Nat) : Int) = z 6 from rfl)]
    unfold fX2_placeAt_25_k6
    rw [obind, if_pos rfl, cp_75_17]
  · rw [h1, if_neg (show ¬ z ((7 : Nat) : Int) = z 0 by decide), if_neg (show ¬ z ((7 : Nat) : Int) = z 1 by decide), if_neg (show ¬ z ((7 : Nat) : Int) = z 2 by decide), if_neg (show ¬ z ((7 : Nat) : Int) = z 3 by decide), if_neg (show ¬ z ((7 : Nat) : Int) = z 4 by decide), if_neg (show ¬ z ((7 : Nat) : Int) = z 5 by decide), if_neg (show ¬ z ((7 : Nat) : Int) = z 6 by decide), if_pos (show z ((7 : Nat) : Int) = z 7 from rfl)]
    unfold fX2_placeAt_25_k7
    rw [obind, if_pos rfl, cp_83_17]
theorem j17 : jX2_push_25_17_18 = jX2_push_25_1_18 := rfl
theorem pop40 {m : pmI} {nx : Nat} (hx : nx < 8) (h1 : m.1 25 1 = z (nx : Int)) (s1 : Int32) : jX2_popInto_25_1_40 s1 m = cpF 1 (27 + 8 * nx) (pmU m.1 25 2 s1, m.2) := by
  unfold jX2_popInto_25_1_40
  obtain ⟨m2, e2, j2, o2, r2⟩ := w_1 m 25 2 s1
  rw [pmLet_eq, e2]
  have c1 : m2.1 25 1 = z (nx : Int) := by rw [r2, if_neg (by decide), h1]
  rcases (show nx = 0 ∨ nx = 1 ∨ nx = 2 ∨ nx = 3 ∨ nx = 4 ∨ nx = 5 ∨ nx = 6 ∨ nx = 7 by omega) with rfl | rfl | rfl | rfl | rfl | rfl | rfl | rfl
  · rw [c1, if_pos (show z ((0 : Nat) : Int) = z 0 from rfl)]
    unfold fX2_placeAt_25_k0
    rw [obind, if_pos rfl, cp_1_27]
    cases cpF 1 27 m2 <;> rfl
  · rw [c1, if_neg (show ¬ z ((1 : Nat) : Int) = z 0 by decide), if_pos (show z ((1 : Nat) : Int) = z 1 from rfl)]
    unfold fX2_placeAt_25_k1
    rw [obind, if_pos rfl, cp_1_35]
    cases cpF 1 35 m2 <;> rfl
  · rw [c1, if_neg (show ¬ z ((2 : Nat) : Int) = z 0 by decide), if_neg (show ¬ z ((2 : Nat) : Int) = z 1 by decide), if_pos (show z ((2 : Nat) : Int) = z 2 from rfl)]
    unfold fX2_placeAt_25_k2
    rw [obind, if_pos rfl, cp_1_43]
    cases cpF 1 43 m2 <;> rfl
  · rw [c1, if_neg (show ¬ z ((3 : Nat) : Int) = z 0 by decide), if_neg (show ¬ z ((3 : Nat) : Int) = z 1 by decide), if_neg (show ¬ z ((3 : Nat) : Int) = z 2 by decide), if_pos (show z ((3 : Nat) : Int) = z 3 from rfl)]
    unfold fX2_placeAt_25_k3
    rw [obind, if_pos rfl, cp_1_51]
    cases cpF 1 51 m2 <;> rfl
  · rw [c1, if_neg (show ¬ z ((4 : Nat) : Int) = z 0 by decide), if_neg (show ¬ z ((4 : Nat) : Int) = z 1 by decide), if_neg (show ¬ z ((4 : Nat) : Int) = z 2 by decide), if_neg (show ¬ z ((4 : Nat) : Int) = z 3 by decide), if_pos (show z ((4 : Nat) : Int) = z 4 from rfl)]
    unfold fX2_placeAt_25_k4
    rw [obind, if_pos rfl, cp_1_59]
    cases cpF 1 59 m2 <;> rfl
  · rw [c1, if_neg (show ¬ z ((5 : Nat) : Int) = z 0 by decide), if_neg (show ¬ z ((5 : Nat) : Int) = z 1 by decide), if_neg (show ¬ z ((5 : Nat) : Int) = z 2 by decide), if_neg (show ¬ z ((5 : Nat) : Int) = z 3 by decide), if_neg (show ¬ z ((5 : Nat) : Int) = z 4 by decide), if_pos (show z ((5 : Nat) : Int) = z 5 from rfl)]
    unfold fX2_placeAt_25_k5
    rw [obind, if_pos rfl, cp_1_67]
    cases cpF 1 67 m2 <;> rfl
  · rw [c1, if_neg (show ¬ z ((6 : Nat) : Int) = z 0 by decide), if_neg (show ¬ z ((6 : Nat) : Int) = z 1 by decide), if_neg (show ¬ z ((6 : Nat) : Int) = z 2 by decide), if_neg (show ¬ z ((6 : Nat) : Int) = z 3 by decide), if_neg (show ¬ z ((6 : Nat) : Int) = z 4 by decide), if_neg (show ¬ z ((6 : Nat) : Int) = z 5 by decide), if_pos (show z ((6 : Nat) : Int) = z 6 from rfl)]
    unfold fX2_placeAt_25_k6
    rw [obind, if_pos rfl, cp_1_75]
    cases cpF 1 75 m2 <;> rfl
  · rw [c1, if_neg (show ¬ z ((7 : Nat) : Int) = z 0 by decide), if_neg (show ¬ z ((7 : Nat) : Int) = z 1 by decide), if_neg (show ¬ z ((7 : Nat) : Int) = z 2 by decide), if_neg (show ¬ z ((7 : Nat) : Int) = z 3 by decide), if_neg (show ¬ z ((7 : Nat) : Int) = z 4 by decide), if_neg (show ¬ z ((7 : Nat) : Int) = z 5 by decide), if_neg (show ¬ z ((7 : Nat) : Int) = z 6 by decide), if_pos (show z ((7 : Nat) : Int) = z 7 from rfl)]
    unfold fX2_placeAt_25_k7
    rw [obind, if_pos rfl, cp_1_83]
    cases cpF 1 83 m2 <;> rfl
/-- the class's ring -/
def cHist (m : pmI) (hs : List Ab) : Prop := ∃ nx : Nat, nx < 8 ∧ m.1 25 1 = z (nx : Int) ∧ m.1 25 2 = z (hs.length : Int) ∧ hs.length ≤ 8 ∧ ∀ (j : Nat) (B : Ab), hs[j]? = some B → wfA B ∧ repC (27 + 8 * ((nx + 7 - j) % 8)) m B
theorem cHist_fr {m m' : pmI} {hs : List Ab} (h : cHist m hs) (e : ∀ i, 25 ≤ i → i ≤ 90 → m'.1 i = m.1 i ∧ m'.2 i = m.2 i) : cHist m' hs := by
  obtain ⟨nx, h1, h2, h3, h4, h5⟩ := h
  refine ⟨nx, h1, by rw [(e 25 (by omega) (by omega)).1]; exact h2, by rw [(e 25 (by omega) (by omega)).1]; exact h3, h4, fun j B hj => ⟨(h5 j B hj).1, repC_fr (h5 j B hj).2 (fun i h6 h7 => e i (by omega) (by omega))⟩⟩
theorem c_push {o : Nat} (ho : o + 8 ≤ 25) {m : pmI} {A : Ab} {hs : List Ab} (h : repC o m A) (w : wfA A) (hh : cHist m hs) {r : Option pmI} (hr : ∀ nx : Nat, nx < 8 → m.1 25 1 = z (nx : Int) → r = (cpF (27 + 8 * nx) o m).bind fun v => jX2_push_25_1_18 v) : ∃ m', r = some m' ∧ (∀ i, ¬ (25 ≤ i ∧ i ≤ 90) → m'.1 i = m.1 i ∧ m'.2 i = m.2 i) ∧ cHist m' ((A :: hs).take 8) := by
  obtain ⟨nx, h1, h2, h3, h4, h5⟩ := hh
  obtain ⟨m1, e1, g1, o1⟩ := c_copy (q := 27 + 8 * nx) (o := o) (by omega) h w
  obtain ⟨m2, e2, j2, o2, t1, t2⟩ := j_push (m := m1) h1 h4 (by rw [(o1 25 (by omega)).1]; exact h2) (by rw [(o1 25 (by omega)).1]; exact h3)
  refine ⟨m2, by rw [hr nx h1 h2, e1, obind, e2], fun i hi => ⟨by rw [o2 i (by omega), (o1 i (by omega)).1], by rw [j2, (o1 i (by omega)).2]⟩, (nx + 1) % 8, by omega, t1, ?_, ?_, fun j B hj => ?_⟩
  · rw [t2, List.length_take, List.length_cons]
    congr 2
    omega
  · rw [List.length_take]
    omega
  · match j, hj with
    | 0, hj =>
      have hj' : some A = some B := hj
      cases hj'
      refine ⟨w, repC_fr (show repC (27 + 8 * (((nx + 1) % 8 + 7 - 0) % 8)) m1 A by rw [show ((nx + 1) % 8 + 7 - 0) % 8 = nx by omega]; exact g1) (fun i h6 h7 => ⟨o2 i (by omega), by rw [j2]⟩)⟩
    | j + 1, hj =>
      rw [List.getElem?_take] at hj
      split at hj
      · rename_i hj8
        have hj' : hs[j]? = some B := hj
        obtain ⟨q1, q2⟩ := h5 j B hj'
        have e : ((nx + 1) % 8 + 7 - (j + 1)) % 8 = (nx + 7 - j) % 8 := by omega
        rw [e]
        have hne : ¬ (nx + 7 - j) % 8 = nx := by omega
        refine ⟨q1, repC_fr q2 (fun i h6 h7 => ⟨by rw [o2 i (by omega), (o1 i (by omega)).1], by rw [j2, (o1 i (by omega)).2]⟩)⟩
      · cases hj
theorem c_pop {m : pmI} {A : Ab} {hs : List Ab} (hh : cHist m (A :: hs)) : ∃ m', fX2_popInto_25_1 m = some m' ∧ (∀ i, ¬ (1 ≤ i ∧ i ≤ 8) → i ≠ 25 → m'.1 i = m.1 i ∧ m'.2 i = m.2 i) ∧ cHist m' hs ∧ repC 1 m' A ∧ m'.1 25 2 = z (hs.length : Int) := by
  obtain ⟨nx, h1, h2, h3, h4, h5⟩ := hh
  rw [List.length_cons] at h3 h4
  have key : ∀ nx' : Nat, nx' < 8 → (nx + 7) % 8 = nx' → ∃ m', jX2_popInto_25_1_19 (z (nx' : Int)) m = some m' ∧ (∀ i, ¬ (1 ≤ i ∧ i ≤ 8) → i ≠ 25 → m'.1 i = m.1 i ∧ m'.2 i = m.2 i) ∧ cHist m' hs ∧ repC 1 m' A ∧ m'.1 25 2 = z (hs.length : Int) := fun nx' hx he => by
    unfold jX2_popInto_25_1_19
    obtain ⟨m1, e1, j1, o1, r1⟩ := w_1 m 25 1 (z (nx' : Int))
    have c2 : m1.1 25 2 = z ((hs.length + 1 : Nat) : Int) := by rw [r1, if_neg (by decide), h3]
    rw [pmLet_eq, e1, if_pos (show z 0 < m1.1 25 2 by rw [c2]; exact zlt (by omega)), pop40 hx (by rw [r1, if_pos rfl])]
    obtain ⟨m2, e2, j2, o2, r2⟩ := w_1 m1 25 2 (m1.1 25 2 - z 1)
    rw [e2]
    have q0 := h5 0 A rfl
    rw [show (nx + 7 - 0) % 8 = nx' by omega] at q0
    have q2 : repC (27 + 8 * nx') m2 A := repC_fr q0.2 (fun i h6 h7 => ⟨by rw [o2 i (by omega), o1 i (by omega)], by rw [j2, j1]⟩)
    obtain ⟨m3, e3, g3, o3⟩ := c_copy (q := 1) (o := 27 + 8 * nx') (by omega) q2 q0.1
    have c3 : m3.1 25 2 = z (hs.length : Int) := by
      rw [(o3 25 (by omega)).1, r2, if_pos rfl, c2, z_sub]
      congr 1
      omega
    refine ⟨m3, e3, fun i hi h25 => ⟨by rw [(o3 i (by omega)).1, o2 i h25, o1 i h25], by rw [(o3 i (by omega)).2, j2, j1]⟩, ⟨nx', hx, by rw [(o3 25 (by omega)).1, r2, if_neg (by decide), r1, if_pos rfl], c3, by omega, fun j B hj => ?_⟩, g3, c3⟩
    obtain ⟨y1, y2⟩ := h5 (j + 1) B hj
    have hjl : j < hs.length := by
      rcases Nat.lt_or_ge j hs.length with h | h
      · exact h
      · rw [List.getElem?_eq_none h] at hj; cases hj
    rw [show (nx + 7 - (j + 1)) % 8 = (nx' + 7 - j) % 8 by omega] at y2
    exact ⟨y1, repC_fr y2 (fun i h6 h7 => ⟨by rw [(o3 i (by omega)).1, o2 i (by omega), o1 i (by omega)], by rw [(o3 i (by omega)).2, j2, j1]⟩)⟩
  unfold fX2_popInto_25_1
  by_cases e : 0 < nx
  · rw [if_pos (show z 0 < m.1 25 1 by rw [h2]; exact zlt (by omega)), h2, z_sub, show (nx : Int) - 1 = ((nx - 1 : Nat) : Int) by omega]
    exact key (nx - 1) (by omega) (by omega)
  · rw [if_neg (show ¬ z 0 < m.1 25 1 by rw [h2]; exact zge (by omega))]
    exact key 7 (by omega) (by omega)
/-- the model's row of the states of before -/
def mHist (m : pmI) (hs : List Ab) : Prop := m.1 113 9 = z (hs.length : Int) ∧ hs.length ≤ 8 ∧ ∀ (j : Nat) (B : Ab), hs[j]? = some B → wfA B ∧ repR (fun b => m.1 118 (188 * (hs.length - 1 - j) + b)) B
theorem mHist_fr {m m' : pmI} {hs : List Ab} (h : mHist m hs) (e : m'.1 118 = m.1 118) (e9 : m'.1 113 9 = m.1 113 9) : mHist m' hs := by
  unfold mHist at h ⊢
  rw [e, e9]
  exact h

