/-! programs: the model does a command -/
section MDOES
variable {n T : Nat} {t : Nat → Nat} {A : Ab} {m : pmI}
/-- thrown, or the change made -/
def MStp (m : pmI) (s : Int × Int × Ab) (r : Option (Int32 × pmI)) : Prop := ∃ v m', r = some (v, m') ∧ mfr m m' ∧ ((¬ s.1 = 0 ∧ ¬ m'.1 113 10 = z 0) ∨ (s.1 = 0 ∧ m'.1 113 10 = z 0 ∧ repR (m'.1 114) s.2.2))
theorem MStp_of {s : Int × Int × Ab} {r : Option (Int32 × pmI)} {N : Int} (h : mRes m r s) (hs : sOk A s N) (hN : N < 100) : MStp m s (r.bind fun v => some (v.1, v.2)) := by
  obtain ⟨m', e, t1, f, r1⟩ := h
  refine ⟨z s.2.1, m', by rw [e, obind], f, ?_⟩
  rcases hs with ⟨a, -⟩ | ⟨a, -⟩
  · exact Or.inr ⟨a, by rw [t1, a], r1⟩
  · exact Or.inl ⟨by omega, by rw [t1]; exact zne (by omega)⟩
theorem m_13 (m : pmI) (x : Int32) : ∃ m2, (pmU m.1 113 13 x, m.2) = m2 ∧ mfr m m2 ∧ (m2.1 113 10 = m.1 113 10 ∧ m2.1 114 = m.1 114) := by
  obtain ⟨m2, e2, j2, o2, r2⟩ := w_1 m 113 13 x
  exact ⟨m2, e2, ⟨fun i hi => o2 i (by omega), j2, fun k hk => by rw [r2, if_neg (by omega)]⟩, by rw [r2, if_neg (by decide)], o2 114 (by decide)⟩
def mX (m : pmI) (T : Nat) (t : Nat → Nat) : Prop := ∀ k, k < T → m.1 125 k = z (t k : Int)
theorem mX_f {m1 : pmI} (h : mX m T t) (f : mfr m m1) : mX m1 T t := fun k hk => by rw [f.1 125 (by decide)]; exact h k hk
theorem m_tellL (ht : tOk T t) {f : Nat} (hf : f < 6) : ∀ (d p q : Nat) (m : pmI) (B : Ab), d < q → p + d ≤ T → mX m T t → repR (m.1 114) B → wfA B → aFl B f ≤ 12 → m.1 113 10 = z 0 → (∀ i, p ≤ i → i < p + d → ¬ mvIx (t i : Int) = none) → ∃ m', lX9_tells_l12 n (z (f : Int)) (z ((p + d : Nat) : Int)) q (z (p : Int)) m = some m' ∧ mfr m m' ∧ ((aFl B f + d ≤ 12 ∧ m'.1 113 10 = z 0 ∧ repR (m'.1 114) (tellL t f d p B)) ∨ (¬ aFl B f + d ≤ 12 ∧ ¬ m'.1 113 10 = z 0)) := by
  have hT := ht.1
  intro d
  induction d with
  | zero =>
    intro p q m B hq hp hm hB w hfl h0 hmv
    obtain ⟨q, rfl⟩ : ∃ j, q = j + 1 := ⟨q - 1, by omega⟩
    show ∃ m', bX9_tells_l12 n (z (f : Int)) (z ((p + 0 : Nat) : Int)) (lX9_tells_l12 n (z (f : Int)) (z ((p + 0 : Nat) : Int)) q) (z (p : Int)) m = _ ∧ _
    unfold bX9_tells_l12
    rw [if_neg (zge (by omega))]
    exact ⟨m, rfl, mfr_rf, Or.inl ⟨hfl, h0, hB⟩⟩
  | succ d ih =>
    intro p q m B hq hp hm hB w hfl h0 hmv
    obtain ⟨q, rfl⟩ : ∃ j, q = j + 1 := ⟨q - 1, by omega⟩
    obtain ⟨v, hv⟩ := Option.ne_none_iff_exists'.mp (hmv p (Nat.le_refl _) (by omega))
    have hb := ht.2 p (by omega)
    obtain ⟨m1, e1, t1, f1, r1⟩ := m_appends (f := (f : Int)) (c := (t p : Int)) hB w (by omega) (by omega)
    have hs : sAppend B (f : Int) (t p : Int) = if aFl B f = 12 then (3, 0, B) else (0, ((aFl B f + 1 : Nat) : Int), uFg B (fun g => if g = f then aFl B f + 1 else aFl B g) (fun g b => if g = f ∧ b = aFl B f then v else aFm B g b)) := by
      unfold sAppend
      rw [if_pos (figB_t (by omega)), hv, Int.toNat_natCast]
    obtain ⟨m2, e2, f2, q2⟩ : ∃ m2, (pmU m1.1 113 13 (z (sAppend B (f : Int) (t p : Int)).2.1), m1.2) = m2 ∧ mfr m1 m2 ∧ (m2.1 113 10 = m1.1 113 10 ∧ m2.1 114 = m1.1 114) := m_13 m1 _
    have step : lX9_tells_l12 n (z (f : Int)) (z ((p + (d + 1) : Nat) : Int)) (q + 1) (z (p : Int)) m = lX9_tells_l12 n (z (f : Int)) (z ((p + (d + 1) : Nat) : Int)) q (z ((p + 1 : Nat) : Int)) m2 := by
      show bX9_tells_l12 n (z (f : Int)) (z ((p + (d + 1) : Nat) : Int)) (lX9_tells_l12 n (z (f : Int)) (z ((p + (d + 1) : Nat) : Int)) q) (z (p : Int)) m = _
      unfold bX9_tells_l12
      rw [if_pos (zlt (by omega)), if_pos h0, if_pos (okI_z (by omega)), z_nat (by omega), hm p (by omega), e1, obind, pmLet_eq, e2, show z 1 = z (1 : Int) from rfl, z_add]
      rfl
    rw [step]
    by_cases h12 : aFl B f = 12
    · rw [if_pos h12] at hs
      rw [hs] at t1
      obtain ⟨q, rfl⟩ : ∃ j, q = j + 1 := ⟨q - 1, by omega⟩
      have hn0 : ¬ m2.1 113 10 = z 0 := by
        rw [q2.1, t1]
        exact zne (by omega)
      refine ⟨m2, ?_, mfr_tr f1 f2, Or.inr ⟨by omega, hn0⟩⟩
      show bX9_tells_l12 n (z (f : Int)) (z ((p + (d + 1) : Nat) : Int)) (lX9_tells_l12 n (z (f : Int)) (z ((p + (d + 1) : Nat) : Int)) q) (z ((p + 1 : Nat) : Int)) m2 = _
      unfold bX9_tells_l12
      rw [if_neg hn0]
      split <;> rfl
    · rw [if_neg h12] at hs
      rw [hs] at t1 r1
      have w1 := wf_append w hf h12 (mvIx_some hv).1
      have e9 : aFl (uFg B (fun g => if g = f then aFl B f + 1 else aFl B g) (fun g b => if g = f ∧ b = aFl B f then v else aFm B g b)) f = aFl B f + 1 := if_pos rfl
      obtain ⟨m3, e3, f3, h3⟩ := ih (p + 1) q m2 _ (by omega) (by omega) (mX_f (mX_f hm f1) f2) (by rw [q2.2]; exact r1) w1 (by rw [e9]; omega) (by rw [q2.1]; exact t1) (fun i a b => hmv i (by omega) (by omega))
      rw [show p + 1 + d = p + (d + 1) by omega] at e3
      rw [e9] at h3
      refine ⟨m3, e3, mfr_tr f1 (mfr_tr f2 f3), ?_⟩
      have et : tellL t f (d + 1) p B = tellL t f d (p + 1) (uFg B (fun g => if g = f then aFl B f + 1 else aFl B g) (fun g b => if g = f ∧ b = aFl B f then v else aFm B g b)) := by
        show tellL t f d (p + 1) (uFg B (fun g => if g = f then aFl B f + 1 else aFl B g) (fun g b => if g = f ∧ b = aFl B f then (mvIx (t p : Int)).getD 0 else aFm B g b)) = _
        rw [hv]
        rfl
      rw [et]
      rcases h3 with ⟨a, b⟩ | ⟨a, b⟩
      · exact Or.inl ⟨by omega, b⟩
      · exact Or.inr ⟨by omega, b⟩
theorem m_tell (hn : 100 ≤ n) (ht : tOk T t) (hm : mX m T t) (h : repR (m.1 114) A) (w : wfA A) {f p q : Nat} (hf : f ≤ 99) (hpq : p ≤ q) (hq : q ≤ T) (hmv : ∀ i, p ≤ i → i < q → ¬ mvIx (t i : Int) = none) : MStp m (sTell t A f p q) ((fX9_tells n (z (f : Int)) (z (p : Int)) (z (q : Int)) m).bind fun v44 => some (v44.1, v44.2)) := by
  have hT := ht.1
  obtain ⟨m1, e1, t1, f1, r1⟩ := m_clears (n := n) (f := (f : Int)) h w (by omega) (by omega)
  obtain ⟨m2, e2, f2, q2⟩ : ∃ m2, (pmU m1.1 113 13 (z (sClear A (f : Int)).2.1), m1.2) = m2 ∧ mfr m1 m2 ∧ (m2.1 113 10 = m1.1 113 10 ∧ m2.1 114 = m1.1 114) := m_13 m1 _
  unfold fX9_tells sTell
  rw [e1, obind, pmLet_eq]
  dsimp only
  rw [e2]
  have hc : sClear A (f : Int) = if figB (f : Int) = true then (0, ((aFl A f : Nat) : Int), uFg A (fun g => if g = f then 0 else aFl A g) (aFm A)) else (1, 0, A) := rfl
  by_cases hg : 0 ≤ (f : Int) ∧ (f : Int) < 6
  · have hf6 : f < 6 := by omega
    rw [if_pos (figB_t hg)] at hc
    rw [hc] at t1 r1
    rw [if_pos (figB_t hg)]
    have e9 : aFl (uFg A (fun g => if g = f then 0 else aFl A g) (aFm A)) f = 0 := if_pos rfl
    obtain ⟨m3, e3, f3, h3⟩ := m_tellL (n := n) ht hf6 (q - p) p n m2 _ (by omega) (by omega) (mX_f (mX_f hm f1) f2) (by rw [q2.2]; exact r1) (wf_clear w hf6) (by rw [e9]; omega) (by rw [q2.1]; exact t1) (fun i a b => hmv i a (by omega))
    rw [show p + (q - p) = q by omega] at e3
    rw [e9] at h3
    refine ⟨m3.1 113 13, m3, by rw [e3, obind, obind], mfr_tr f1 (mfr_tr f2 f3), ?_⟩
    rcases h3 with ⟨a, b⟩ | ⟨a, b⟩
    · rw [if_pos (by omega)]
      exact Or.inr ⟨rfl, b⟩
    · rw [if_neg (by omega)]
      exact Or.inl ⟨show ¬ (3 : Int) = 0 by decide, b⟩
  · have hb : ¬ figB (f : Int) = true := by rw [figB_f hg]; decide
    rw [if_neg hb] at hc
    rw [hc] at t1
    rw [if_neg hb]
    have hn0 : ¬ m2.1 113 10 = z 0 := by
      rw [q2.1, t1]
      exact zne (by omega)
    refine ⟨m2.1 113 13, m2, ?_, mfr_tr f1 f2, Or.inl ⟨show ¬ (1 : Int) = 0 by decide, hn0⟩⟩
    obtain ⟨j, rfl⟩ : ∃ j, n = j + 1 := ⟨n - 1, by omega⟩
    have e : lX9_tells_l12 (j + 1) (z (f : Int)) (z (q : Int)) (j + 1) (z (p : Int)) m2 = some m2 := by
      show bX9_tells_l12 (j + 1) (z (f : Int)) (z (q : Int)) (lX9_tells_l12 (j + 1) (z (f : Int)) (z (q : Int)) j) (z (p : Int)) m2 = _
      unfold bX9_tells_l12
      rw [if_neg hn0]
      split <;> rfl
    rw [e, obind, obind]
theorem m_does (hn : 700000 ≤ n) (ht : tOk T t) (hm : mX m T t) (h : repR (m.1 114) A) (w : wfA A) {i k : Nat} {as : List Nat} (hi : i < 10) (hc : CmOk T t (k, as)) (h126 : m.1 126 (5 * i) = z ((kd k : Nat) : Int)) (h127 : ∀ j, j < as.length → m.1 126 (5 * i + 1 + j) = z ((as.getD j 0 : Nat) : Int)) : MStp m (sCmd t A (k, as)) (fX9_does n (z ((5 * i : Nat) : Int)) m) := by
  have g0 : as.getD 0 0 ≤ 99 := CmOk_g hc 0
  have g1 : as.getD 1 0 ≤ 99 := CmOk_g hc 1
  have g2 : as.getD 2 0 ≤ 99 := CmOk_g hc 2
  have hl : as.length = na (sp k) := hc.2.1
  have o1 : (z ((5 * i : Nat) : Int) + z 1) = z ((5 * i + 1 + 0 : Nat) : Int) := by rw [show z 1 = z (1 : Int) from rfl, z_add]; rfl
  have o2 : (z ((5 * i : Nat) : Int) + z 2) = z ((5 * i + 1 + 1 : Nat) : Int) := by rw [show z 2 = z (2 : Int) from rfl, z_add]; rfl
  have o3 : (z ((5 * i : Nat) : Int) + z 3) = z ((5 * i + 1 + 2 : Nat) : Int) := by rw [show z 3 = z (3 : Int) from rfl, z_add]; rfl
  have n0 := z_nat (k := 5 * i) (by omega)
  have n1 := z_nat (k := 5 * i + 1 + 0) (by omega)
  have n2 := z_nat (k := 5 * i + 1 + 1) (by omega)
  have n3 := z_nat (k := 5 * i + 1 + 2) (by omega)
  have hk : k = 0 ∨ k = 1 ∨ k = 2 ∨ k = 3 ∨ k = 4 ∨ k = 5 ∨ k = 6 ∨ k = 7 ∨ k = 8 := by
    have : k < 9 := hc.1
    omega
  unfold fX9_does
  rw [o1, o2, o3, if_pos ⟨okI_z (by omega), okI_z (by omega), okI_z (by omega), okI_z (by omega)⟩, n0, n1, n2, n3, h126]
  rcases hk with rfl | rfl | rfl | rfl | rfl | rfl | rfl | rfl | rfl
  · rw [if_neg (show ¬ z ((kd 0 : Nat) : Int) = z 97 by decide), if_neg (show ¬ z ((kd 0 : Nat) : Int) = z 98 by decide), if_neg (show ¬ z ((kd 0 : Nat) : Int) = z 99 by decide), if_neg (show ¬ z ((kd 0 : Nat) : Int) = z 100 by decide), if_neg (show ¬ z ((kd 0 : Nat) : Int) = z 101 by decide), if_neg (show ¬ z ((kd 0 : Nat) : Int) = z 102 by decide), if_neg (show ¬ z ((kd 0 : Nat) : Int) = z 103 by decide), if_neg (show ¬ z ((kd 0 : Nat) : Int) = z 104 by decide), if_neg (show ¬ z ((kd 0 : Nat) : Int) = z 105 by decide), if_neg (show ¬ z ((kd 0 : Nat) : Int) = z 106 by decide), if_neg (show ¬ z ((kd 0 : Nat) : Int) = z 107 by decide), if_neg (show ¬ z ((kd 0 : Nat) : Int) = z 108 by decide), if_neg (show ¬ z ((kd 0 : Nat) : Int) = z 109 by decide), if_neg (show ¬ z ((kd 0 : Nat) : Int) = z 110 by decide), if_neg (show ¬ z ((kd 0 : Nat) : Int) = z 111 by decide), if_pos (show z ((kd 0 : Nat) : Int) = z 112 from rfl)]
    have q0 := h127 0 (by rw [hl]; decide)
    have q1 := h127 1 (by rw [hl]; decide)
    rw [q0, q1]
    exact MStp_of (A := A) (m_props (n := n) (x := ((as.getD 0 0 : Nat) : Int)) (y := ((as.getD 1 0 : Nat) : Int)) h w (by omega) (by omega) (by omega)) (ok_sProp A _ _) (by omega)
  · rw [if_neg (show ¬ z ((kd 1 : Nat) : Int) = z 97 by decide), if_neg (show ¬ z ((kd 1 : Nat) : Int) = z 98 by decide), if_neg (show ¬ z ((kd 1 : Nat) : Int) = z 99 by decide), if_pos (show z ((kd 1 : Nat) : Int) = z 100 from rfl)]
    have q0 := h127 0 (by rw [hl]; decide)
    have q1 := h127 1 (by rw [hl]; decide)
    have q2 := h127 2 (by rw [hl]; decide)
    rw [q0, q1, q2]
    exact MStp_of (A := A) (m_adds (n := n) (x := ((as.getD 0 0 : Nat) : Int)) (y := ((as.getD 1 0 : Nat) : Int)) (v := ((as.getD 2 0 : Nat) : Int)) h w (by omega) (by omega) (by omega) (by omega)) (ok_sAdd A _ _ _) (by omega)
  · rw [if_pos (show z ((kd 2 : Nat) : Int) = z 97 from rfl)]
    have q0 := h127 0 (by rw [hl]; decide)
    have q1 := h127 1 (by rw [hl]; decide)
    rw [q0, q1]
    exact MStp_of (A := A) (m_pairs (n := n) (a := ((as.getD 0 0 : Nat) : Int)) (b := ((as.getD 1 0 : Nat) : Int)) h w (by omega) (by omega) (by omega)) (ok_sPair A _ _) (by omega)
  · rw [if_neg (show ¬ z ((kd 3 : Nat) : Int) = z 97 by decide), if_neg (show ¬ z ((kd 3 : Nat) : Int) = z 98 by decide), if_neg (show ¬ z ((kd 3 : Nat) : Int) = z 99 by decide), if_neg (show ¬ z ((kd 3 : Nat) : Int) = z 100 by decide), if_neg (show ¬ z ((kd 3 : Nat) : Int) = z 101 by decide), if_pos (show z ((kd 3 : Nat) : Int) = z 102 from rfl)]
    have q0 := h127 0 (by rw [hl]; decide)
    have q1 := h127 1 (by rw [hl]; decide)
    have q2 := h127 2 (by rw [hl]; decide)
    rw [q0, q1, q2]
    exact m_tell (n := n) (by omega) ht hm h w g0 (hc.2.2.2 rfl).1.1 (hc.2.2.2 rfl).1.2 (hc.2.2.2 rfl).2
  · rw [if_neg (show ¬ z ((kd 4 : Nat) : Int) = z 97 by decide), if_neg (show ¬ z ((kd 4 : Nat) : Int) = z 98 by decide), if_neg (show ¬ z ((kd 4 : Nat) : Int) = z 99 by decide), if_neg (show ¬ z ((kd 4 : Nat) : Int) = z 100 by decide), if_pos (show z ((kd 4 : Nat) : Int) = z 101 from rfl)]
    have q0 := h127 0 (by rw [hl]; decide)
    have q1 := h127 1 (by rw [hl]; decide)
    rw [q0, q1]
    exact MStp_of (A := A) (m_performs (n := n) (f := ((as.getD 0 0 : Nat) : Int)) (d := ((as.getD 1 0 : Nat) : Int)) h w (by omega) (by omega) (by omega)) (sPerf_ok w _ _) (by omega)
  · rw [if_neg (show ¬ z ((kd 5 : Nat) : Int) = z 97 by decide), if_neg (show ¬ z ((kd 5 : Nat) : Int) = z 98 by decide), if_neg (show ¬ z ((kd 5 : Nat) : Int) = z 99 by decide), if_neg (show ¬ z ((kd 5 : Nat) : Int) = z 100 by decide), if_neg (show ¬ z ((kd 5 : Nat) : Int) = z 101 by decide), if_neg (show ¬ z ((kd 5 : Nat) : Int) = z 102 by decide), if_neg (show ¬ z ((kd 5 : Nat) : Int) = z 103 by decide), if_neg (show ¬ z ((kd 5 : Nat) : Int) = z 104 by decide), if_neg (show ¬ z ((kd 5 : Nat) : Int) = z 105 by decide), if_neg (show ¬ z ((kd 5 : Nat) : Int) = z 106 by decide), if_neg (show ¬ z ((kd 5 : Nat) : Int) = z 107 by decide), if_neg (show ¬ z ((kd 5 : Nat) : Int) = z 108 by decide), if_neg (show ¬ z ((kd 5 : Nat) : Int) = z 109 by decide), if_neg (show ¬ z ((kd 5 : Nat) : Int) = z 110 by decide), if_neg (show ¬ z ((kd 5 : Nat) : Int) = z 111 by decide), if_neg (show ¬ z ((kd 5 : Nat) : Int) = z 112 by decide), if_neg (show ¬ z ((kd 5 : Nat) : Int) = z 113 by decide), if_neg (show ¬ z ((kd 5 : Nat) : Int) = z 114 by decide), if_neg (show ¬ z ((kd 5 : Nat) : Int) = z 115 by decide), if_neg (show ¬ z ((kd 5 : Nat) : Int) = z 116 by decide), if_neg (show ¬ z ((kd 5 : Nat) : Int) = z 117 by decide), if_neg (show ¬ z ((kd 5 : Nat) : Int) = z 118 by decide), if_pos (show z ((kd 5 : Nat) : Int) = z 119 from rfl)]
    have q0 := h127 0 (by rw [hl]; decide)
    have q1 := h127 1 (by rw [hl]; decide)
    have q2 := h127 2 (by rw [hl]; decide)
    rw [q0, q1, q2]
    exact MStp_of (A := A) (m_walks (n := n) (d := ((as.getD 0 0 : Nat) : Int)) (x := ((as.getD 1 0 : Nat) : Int)) (y := ((as.getD 2 0 : Nat) : Int)) h w hn (by omega) (by omega) (by omega)) (sWalk_ok A _ _ _) (by omega)
  · rw [if_neg (show ¬ z ((kd 6 : Nat) : Int) = z 97 by decide), if_neg (show ¬ z ((kd 6 : Nat) : Int) = z 98 by decide), if_neg (show ¬ z ((kd 6 : Nat) : Int) = z 99 by decide), if_neg (show ¬ z ((kd 6 : Nat) : Int) = z 100 by decide), if_neg (show ¬ z ((kd 6 : Nat) : Int) = z 101 by decide), if_neg (show ¬ z ((kd 6 : Nat) : Int) = z 102 by decide), if_neg (show ¬ z ((kd 6 : Nat) : Int) = z 103 by decide), if_neg (show ¬ z ((kd 6 : Nat) : Int) = z 104 by decide), if_neg (show ¬ z ((kd 6 : Nat) : Int) = z 105 by decide), if_neg (show ¬ z ((kd 6 : Nat) : Int) = z 106 by decide), if_neg (show ¬ z ((kd 6 : Nat) : Int) = z 107 by decide), if_neg (show ¬ z ((kd 6 : Nat) : Int) = z 108 by decide), if_neg (show ¬ z ((kd 6 : Nat) : Int) = z 109 by decide), if_neg (show ¬ z ((kd 6 : Nat) : Int) = z 110 by decide), if_neg (show ¬ z ((kd 6 : Nat) : Int) = z 111 by decide), if_neg (show ¬ z ((kd 6 : Nat) : Int) = z 112 by decide), if_neg (show ¬ z ((kd 6 : Nat) : Int) = z 113 by decide), if_neg (show ¬ z ((kd 6 : Nat) : Int) = z 114 by decide), if_neg (show ¬ z ((kd 6 : Nat) : Int) = z 115 by decide), if_neg (show ¬ z ((kd 6 : Nat) : Int) = z 116 by decide), if_neg (show ¬ z ((kd 6 : Nat) : Int) = z 117 by decide), if_neg (show ¬ z ((kd 6 : Nat) : Int) = z 118 by decide), if_neg (show ¬ z ((kd 6 : Nat) : Int) = z 119 by decide), if_pos (show z ((kd 6 : Nat) : Int) = z 120 from rfl)]
    have q0 := h127 0 (by rw [hl]; decide)
    have q1 := h127 1 (by rw [hl]; decide)
    rw [q0, q1]
    exact MStp_of (A := A) (m_opens (n := n) (x := ((as.getD 0 0 : Nat) : Int)) (y := ((as.getD 1 0 : Nat) : Int)) h w (by omega) (by omega) (by omega)) (ok_sOpen A _ _) (by omega)
  · rw [if_neg (show ¬ z ((kd 7 : Nat) : Int) = z 97 by decide), if_neg (show ¬ z ((kd 7 : Nat) : Int) = z 98 by decide), if_neg (show ¬ z ((kd 7 : Nat) : Int) = z 99 by decide), if_neg (show ¬ z ((kd 7 : Nat) : Int) = z 100 by decide), if_neg (show ¬ z ((kd 7 : Nat) : Int) = z 101 by decide), if_neg (show ¬ z ((kd 7 : Nat) : Int) = z 102 by decide), if_neg (show ¬ z ((kd 7 : Nat) : Int) = z 103 by decide), if_neg (show ¬ z ((kd 7 : Nat) : Int) = z 104 by decide), if_neg (show ¬ z ((kd 7 : Nat) : Int) = z 105 by decide), if_neg (show ¬ z ((kd 7 : Nat) : Int) = z 106 by decide), if_neg (show ¬ z ((kd 7 : Nat) : Int) = z 107 by decide), if_neg (show ¬ z ((kd 7 : Nat) : Int) = z 108 by decide), if_neg (show ¬ z ((kd 7 : Nat) : Int) = z 109 by decide), if_pos (show z ((kd 7 : Nat) : Int) = z 110 from rfl)]
    have q0 := h127 0 (by rw [hl]; decide)
    rw [q0]
    exact MStp_of (A := A) (m_renews (n := n) (d := ((as.getD 0 0 : Nat) : Int)) h w (by omega) (by omega)) (ok_sRenew A _) (by omega)
  · rw [if_neg (show ¬ z ((kd 8 : Nat) : Int) = z 97 by decide), if_neg (show ¬ z ((kd 8 : Nat) : Int) = z 98 by decide), if_neg (show ¬ z ((kd 8 : Nat) : Int) = z 99 by decide), if_neg (show ¬ z ((kd 8 : Nat) : Int) = z 100 by decide), if_neg (show ¬ z ((kd 8 : Nat) : Int) = z 101 by decide), if_neg (show ¬ z ((kd 8 : Nat) : Int) = z 102 by decide), if_neg (show ¬ z ((kd 8 : Nat) : Int) = z 103 by decide), if_neg (show ¬ z ((kd 8 : Nat) : Int) = z 104 by decide), if_neg (show ¬ z ((kd 8 : Nat) : Int) = z 105 by decide), if_neg (show ¬ z ((kd 8 : Nat) : Int) = z 106 by decide), if_neg (show ¬ z ((kd 8 : Nat) : Int) = z 107 by decide), if_pos (show z ((kd 8 : Nat) : Int) = z 108 from rfl)]
    exact MStp_of (A := A) (m_allLeave (n := n) h w hn) (sLeave_ok A) (by omega)
end MDOES
