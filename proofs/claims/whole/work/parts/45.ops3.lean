/-! the model: who parts, goes, pairs, gets nails -/
section OPS3
variable {m : pmI} {A : Ab} {n : Nat}
theorem mr_of (h : repR (m.1 114) A) {k j : Nat} (hk : k < aC A) (w1 : aC A ≤ 8) (hj : j < 4) : fX9_of (z (k : Int)) (z (j : Int)) m = some (m.1 114 (72 + 4 * k + j)) := m_of h (by omega) hj
theorem m_parts (h : repR (m.1 114) A) (w : wfA A) (hn : 20 ≤ n) {k : Nat} (hk : k < aC A) : ∃ m', fX9_parts n (z (k : Int)) m = some m' ∧ mfr m m' ∧ m'.1 113 = m.1 113 ∧ repR (m'.1 114) (uPa A (pSep A k)) := by
  have w1 := w.1
  have w3 := w.2.2.1
  have hx := w.2.1
  have hp := (h.2.1.2.2 k hk).2.2.2
  unfold fX9_parts
  rw [show z 3 = z ((3 : Nat) : Int) from rfl, mr_of h hk w1 (by decide), obind, hp]
  unfold pSep
  by_cases e : aPa A k = -1
  · rw [e, if_neg (zge (by omega)), if_pos rfl]
    exact ⟨m, rfl, mfr_rf, rfl, h⟩
  · obtain ⟨j, j1, j2, j3, j4⟩ := slot_pa w hk e
    have j5 := (slot_lt j3).2
    have j6 := w3 j j1
    rw [if_neg e, if_pos (zlt (by omega)), obind, z_sub, show aPa A k + 1 - 1 = aPa A k by omega, m_at h w hn (by omega), obind, j3, oz_s]
    obtain ⟨m1, e1, f1, t1, r1⟩ := m_sets (k := j) (j := 3) (by omega) (by omega) (z 0) m
    rw [e1, obind]
    obtain ⟨m2, e2, f2, t2, r2⟩ := m_sets (k := k) (j := 3) (by omega) (by omega) (z 0) m1
    rw [e2, obind]
    have kk : ∀ b, ¬ b = 72 + 4 * k + 3 → ¬ b = 72 + 4 * j + 3 → m2.1 114 b = m.1 114 b := fun b h1 h2 => by rw [r2, if_neg h1, r1, if_neg h2]
    refine ⟨m2, rfl, mfr_tr f1 f2, t2.trans t1, rP_fr (A := A) h.1 (kk _ (by omega) (by omega)) (fun b h1 h2 => kk b (by omega) (by omega)), ⟨(kk _ (by omega) (by omega)).trans h.2.1.1, (kk _ (by omega) (by omega)).trans h.2.1.2.1, fun i hi => ?_⟩, rF_fr (A := A) h.2.2.1 (fun f hf => (w.2.2.2.2.2.1 f hf).1) (fun b h1 h2 => kk b (by omega) (by omega)), rE_fr (A := A) h.2.2.2.1 w.2.2.2.2.2.2.1 (fun b hb => kk b (by omega) (by omega)), rM_fr (A := A) h.2.2.2.2 (fun b h1 h2 => kk b (by omega) (by omega))⟩
    have hi' : i < aC A := hi
    obtain ⟨g1, g2, g3, g4⟩ := h.2.1.2.2 i hi'
    refine ⟨(kk _ (by omega) (by omega)).trans g1, (kk _ (by omega) (by omega)).trans g2, (kk _ (by omega) (by omega)).trans g3, ?_⟩
    show _ = z ((if i = k then -1 else if some i = some j then -1 else aPa A i) + 1)
    by_cases e1 : i = k
    · rw [if_pos e1, r2, if_pos (by omega)]
      rfl
    · rw [if_neg e1, r2, if_neg (by omega), r1]
      by_cases e2 : i = j
      · rw [if_pos (by omega), if_pos (by rw [e2])]
        rfl
      · rw [if_neg (by omega), if_neg (fun h => e2 (Option.some.inj h))]
        exact g4
theorem m_goes (h : repR (m.1 114) A) (w : wfA A) (hn : 60 ≤ n) {k : Nat} (hk : k < aC A) : ∃ m', fX9_goes n (z (k : Int)) m = some m' ∧ mfr m m' ∧ m'.1 113 = m.1 113 ∧ repR (m'.1 114) (uGone A k) := by
  have w1 := w.1
  unfold fX9_goes
  rw [show z 2 = z ((2 : Nat) : Int) from rfl, mr_of h hk w1 (by decide), obind, (h.2.1.2.2 k hk).2.2.1, pmLet_eq]
  obtain ⟨m1, e1, f1, t1, r1⟩ := m_w m 6 (m.1 114 6 + z (aNa A k))
  rw [e1]
  have c1 : m1.1 114 1 = z (aC A) := by rw [r1, if_neg (by omega), h.2.1.1]
  have loop : ∃ m2, lX9_goes_l23 n n (z 72 + z 4 * z (k : Int)) m1 = some m2 ∧ mfr m1 m2 ∧ m2.1 113 = m1.1 113 ∧ ∀ b, m2.1 114 b = if 72 + 4 * k ≤ b ∧ b < 72 + 4 * (aC A - 1) then m1.1 114 (b + 4) else m1.1 114 b := by
    have L := forI (lX9_goes_l23 n) (72 + 4 * (aC A - 1)) (fun i s => 72 + 4 * k ≤ i ∧ mfr m1 s ∧ s.1 113 = m1.1 113 ∧ ∀ b, s.1 114 b = if 72 + 4 * k ≤ b ∧ b < i then m1.1 114 (b + 4) else m1.1 114 b) (fun r => ∃ m2, r = some m2 ∧ mfr m1 m2 ∧ m2.1 113 = m1.1 113 ∧ ∀ b, m2.1 114 b = if 72 + 4 * k ≤ b ∧ b < 72 + 4 * (aC A - 1) then m1.1 114 (b + 4) else m1.1 114 b) (fun q i s hi hs => by
      obtain ⟨s0, s1, s2, s3⟩ := hs
      have d1 : s.1 114 1 = z (aC A) := by rw [s3, if_neg (by omega), c1]
      obtain ⟨s', e', f', t', r'⟩ := m_w s i (s.1 114 (i + 4))
      refine ⟨s', ⟨by omega, mfr_tr s1 f', t'.trans s2, fun b => ?_⟩, ?_⟩
      · rw [r']
        by_cases eb : b = i
        · subst eb
          rw [if_pos rfl, if_pos (by omega), s3, if_neg (by omega)]
        · rw [if_neg eb, s3]
          by_cases hb : 72 + 4 * k ≤ b ∧ b < i
          · rw [if_pos hb, if_pos (by omega)]
          · rw [if_neg hb, if_neg (by omega)]
      · show bX9_goes_l23 n (lX9_goes_l23 n q) (z (i : Int)) s = _
        unfold bX9_goes_l23
        rw [d1, z_sub, z_mul, z_add, if_pos (zlt (by omega)), z_add, if_pos ⟨okI_z (by omega), okI_z (by omega)⟩, pmLet_eq, z_natI (by omega), z_natI (by omega), show ((i : Int) + 4).toNat = i + 4 by omega, Int.toNat_natCast, e', z_add]) (fun q s hs => by
      obtain ⟨s0, s1, s2, s3⟩ := hs
      have d1 : s.1 114 1 = z (aC A) := by rw [s3, if_neg (by omega), c1]
      refine ⟨s, ?_, s1, s2, s3⟩
      show bX9_goes_l23 n (lX9_goes_l23 n q) (z ((72 + 4 * (aC A - 1) : Nat) : Int)) s = _
      unfold bX9_goes_l23
      rw [d1, z_sub, z_mul, z_add, if_neg (zge (by omega))]) (72 + 4 * (aC A - 1) - (72 + 4 * k)) (72 + 4 * k) n m1 (by omega) (by omega) ⟨by omega, mfr_rf, rfl, fun b => by rw [if_neg (by omega)]⟩
    rw [z_mul, z_add, show (72 : Int) + 4 * (k : Int) = ((72 + 4 * k : Nat) : Int) by omega]
    exact L
  obtain ⟨m2, e2, f2, t2, r2⟩ := loop
  rw [e2, obind, pmLet_eq]
  have c2 : m2.1 114 1 = z (aC A) := by rw [r2, if_neg (by omega), c1]
  obtain ⟨m3, e3, f3, t3, r3⟩ := m_w m2 1 (m2.1 114 1 - z 1)
  rw [e3]
  have c3 : m3.1 114 1 = z ((aC A - 1 : Nat) : Int) := by
    rw [r3, if_pos rfl, c2, z_sub]
    congr 1
    omega
  have loop : ∃ m4, lX9_goes_l72 n n (z 0) m3 = some m4 ∧ mfr m3 m4 ∧ m4.1 113 = m3.1 113 ∧ ∀ b, ¬ (72 + 4 * (aC A - 1) ≤ b ∧ b < 76 + 4 * (aC A - 1)) → m4.1 114 b = m3.1 114 b := by
    have L := forI (lX9_goes_l72 n) 4 (fun i s => mfr m3 s ∧ s.1 113 = m3.1 113 ∧ ∀ b, ¬ (72 + 4 * (aC A - 1) ≤ b ∧ b < 76 + 4 * (aC A - 1)) → s.1 114 b = m3.1 114 b) (fun r => ∃ m4, r = some m4 ∧ mfr m3 m4 ∧ m4.1 113 = m3.1 113 ∧ ∀ b, ¬ (72 + 4 * (aC A - 1) ≤ b ∧ b < 76 + 4 * (aC A - 1)) → m4.1 114 b = m3.1 114 b) (fun q i s hi hs => by
      obtain ⟨s1, s2, s3⟩ := hs
      have d1 : s.1 114 1 = z ((aC A - 1 : Nat) : Int) := by rw [s3 _ (by omega), c3]
      obtain ⟨s', e', f', t', r'⟩ := m_sets (k := aC A - 1) (j := i) (by omega) hi (z 0) s
      refine ⟨s', ⟨mfr_tr s1 f', t'.trans s2, fun b hb => ?_⟩, ?_⟩
      · rw [r', if_neg (by omega), s3 b hb]
      · show bX9_goes_l72 n (lX9_goes_l72 n q) (z (i : Int)) s = _
        unfold bX9_goes_l72
        rw [if_pos (zlt (by omega)), d1, e', obind, z_add]) (fun q s hs => by
      obtain ⟨s1, s2, s3⟩ := hs
      refine ⟨s, ?_, s1, s2, s3⟩
      show bX9_goes_l72 n (lX9_goes_l72 n q) (z ((4 : Nat) : Int)) s = _
      unfold bX9_goes_l72
      rw [if_neg (zge (by omega))]) 4 0 n m3 (by omega) (by omega) ⟨mfr_rf, rfl, fun b _ => rfl⟩
    exact L
  obtain ⟨m4, e4, f4, t4, r4⟩ := loop
  rw [e4, obind]
  have kk : ∀ b, ¬ (72 ≤ b ∧ b < 104) → ¬ b = 1 → ¬ b = 6 → m4.1 114 b = m.1 114 b := fun b h1 h2 h3 => by rw [r4 _ (by omega), r3, if_neg h2, r2, if_neg (by omega), r1, if_neg h3]
  refine ⟨m4, rfl, mfr_tr (mfr_tr f1 f2) (mfr_tr f3 f4), by rw [t4, t3, t2, t1], rP_fr (A := A) h.1 (kk _ (by omega) (by omega) (by omega)) (fun b h1 h2 => kk b (by omega) (by omega) (by omega)), ⟨(r4 _ (by omega)).trans c3, (kk _ (by omega) (by omega) (by omega)).trans h.2.1.2.1, fun i hi => ?_⟩, rF_fr (A := A) h.2.2.1 (fun f hf => (w.2.2.2.2.2.1 f hf).1) (fun b h1 h2 => kk b (by omega) (by omega) (by omega)), rE_fr (A := A) h.2.2.2.1 w.2.2.2.2.2.2.1 (fun b hb => kk b (by omega) (by omega) (by omega)), ⟨(kk _ (by omega) (by omega) (by omega)).trans h.2.2.2.2.1, (kk _ (by omega) (by omega) (by omega)).trans h.2.2.2.2.2.1, (kk _ (by omega) (by omega) (by omega)).trans h.2.2.2.2.2.2.1, ?_⟩⟩
  · have hi' : i < aC A - 1 := hi
    have hr : ∀ j, j < 4 → m4.1 114 (72 + 4 * i + j) = if i < k then m.1 114 (72 + 4 * i + j) else m.1 114 (72 + 4 * (i + 1) + j) := fun j hj => by
      rw [r4 _ (by omega), r3, if_neg (by omega), r2]
      by_cases e : i < k
      · rw [if_neg (by omega), if_pos e, r1, if_neg (by omega)]
      · rw [if_pos (by omega), if_neg e, r1, if_neg (by omega), show 72 + 4 * i + j + 4 = 72 + 4 * (i + 1) + j by omega]
    show m4.1 114 (72 + 4 * i + 0) = z ((sh k (aNu A) i : Nat) : Int) ∧ m4.1 114 (72 + 4 * i + 1) = z ((sh k (aCe A) i : Nat) : Int) ∧ m4.1 114 (72 + 4 * i + 2) = z ((sh k (aNa A) i : Nat) : Int) ∧ m4.1 114 (72 + 4 * i + 3) = z (sh k (aPa A) i + 1)
    rw [hr 0 (by omega), hr 1 (by omega), hr 2 (by omega), hr 3 (by omega)]
    unfold sh
    by_cases e : i < k
    · rw [if_pos e, if_pos e, if_pos e, if_pos e, if_pos e, if_pos e, if_pos e, if_pos e]
      exact h.2.1.2.2 i (by omega)
    · rw [if_neg e, if_neg e, if_neg e, if_neg e, if_neg e, if_neg e, if_neg e, if_neg e]
      exact h.2.1.2.2 (i + 1) (by omega)
  · show m4.1 114 6 = aGo A + z (aNa A k)
    rw [r4 _ (by omega), r3, if_neg (by omega), r2, if_neg (by omega), r1, if_pos rfl, h.2.2.2.2.2.2.2]
theorem wf_pa {A : Ab} (w : wfA A) (k : Nat) : aC (uPa A (pSep A k)) = aC A ∧ aNa (uPa A (pSep A k)) = aNa A := ⟨rfl, rfl⟩
/-- parted, the state is still sound -/
theorem wf_sep {A : Ab} (w : wfA A) {k : Nat} (hk : k < aC A) : wfA (uPa A (pSep A k)) := by
  obtain ⟨w1, w2, w3, w4, w5, w6⟩ := w
  refine ⟨w1, w2, w3, w4, fun i hi => ?_, w6⟩
  have hi' : i < aC A := hi
  show pSep A k i = -1 ∨ ∃ j, j < aC A ∧ ¬ j = i ∧ pSep A k i = (aNu A j : Int) ∧ pSep A k j = (aNu A i : Int)
  have w0 : wfA A := ⟨w1, w2, w3, w4, w5, w6⟩
  unfold pSep
  by_cases e : aPa A k = -1
  · rw [if_pos e]
    exact w5 i hi'
  · rw [if_neg e]
    obtain ⟨j, j1, j2, j3, j4⟩ := slot_pa w0 hk e
    rw [j3]
    by_cases e1 : i = k
    · exact Or.inl (if_pos e1)
    · by_cases e2 : i = j
      · left
        rw [if_neg e1, if_pos (by rw [e2])]
      · rw [if_neg e1, if_neg (fun h => e2 (Option.some.inj h))]
        rcases w5 i hi' with h | ⟨t, t1, t2, t3, t4⟩
        · exact Or.inl h
        · refine Or.inr ⟨t, t1, t2, t3, ?_⟩
          have n1 : ¬ t = k := fun h => by
            subst h
            have h5 := slot_at w0 hi'
            rw [← t4, j3] at h5
            exact e2 (Option.some.inj h5).symm
          have n2 : ¬ t = j := fun h => by
            subst h
            have h5 := slot_at w0 hi'
            rw [← t4, j4, slot_at w0 hk] at h5
            exact e1 (Option.some.inj h5).symm
          rw [if_neg n1, if_neg (fun h => n2 (Option.some.inj h))]
          exact t4
theorem m_removes (h : repR (m.1 114) A) (w : wfA A) (hn : 60 ≤ n) {d : Int} (hd : -2147483648 ≤ d ∧ d < 2147483648) : mRes m (fX9_removes n (z d) m) (sRemove A d) := by
  have w1 := w.1
  unfold fX9_removes sRemove
  rw [m_at h w (by omega) hd, obind]
  cases hs : slot A d with
  | none =>
    obtain ⟨m1, e1, t1, f1, r1⟩ := m_t1 (m := m) (z 1)
    rw [oz_n, if_pos (zlt (by omega))]
    unfold jX9_removes_16
    rw [e1, obind]
    dsimp only
    rw [if_neg z10]
    exact ⟨m1, rfl, t1, f1, (r1 ▸ h)⟩
  | some k =>
    have hk := (slot_lt hs).1
    obtain ⟨m1, e1, t1, f1, r1⟩ := m_t0 (m := m) (z 1)
    have h1 : repR (m1.1 114) A := (r1 ▸ h)
    rw [oz_s, if_neg (zge (by omega))]
    unfold jX9_removes_16
    rw [e1, obind]
    dsimp only
    obtain ⟨m2, e2, f2, t2, r2⟩ := m_parts (n := n) h1 w (by omega) hk
    obtain ⟨m3, e3, f3, t3, r3⟩ := m_goes r2 (wf_sep w hk) hn (show k < aC (uPa A (pSep A k)) from hk)
    rw [if_pos rfl, e2, obind, e3, obind, r3.2.1.1]
    refine ⟨m3, ?_, by rw [t3, t2]; exact t1, mfr_tr f1 (mfr_tr f2 f3), r3⟩
    show some (z ((aC A - 1 : Nat) : Int), m3) = some (z ((aC A : Int) - 1), m3)
    rw [show ((aC A - 1 : Nat) : Int) = (aC A : Int) - 1 by omega]
theorem m_renews (h : repR (m.1 114) A) (w : wfA A) (hn : 20 ≤ n) {d : Int} (hd : -2147483648 ≤ d ∧ d < 2147483648) : mRes m (fX9_renews n (z d) m) (sRenew A d) := by
  have w1 := w.1
  unfold fX9_renews sRenew
  rw [m_at h w hn hd, obind]
  cases hs : slot A d with
  | none =>
    obtain ⟨m1, e1, t1, f1, r1⟩ := m_t1 (m := m) (z 1)
    rw [oz_n, if_pos (zlt (by omega))]
    unfold jX9_renews_16
    rw [e1, obind]
    dsimp only
    rw [if_neg z10]
    exact ⟨m1, rfl, t1, f1, (r1 ▸ h)⟩
  | some k =>
    have hk := (slot_lt hs).1
    obtain ⟨m1, e1, t1, f1, r1⟩ := m_t0 (m := m) (z 1)
    have h1 : repR (m1.1 114) A := (r1 ▸ h)
    rw [oz_s, if_neg (zge (by omega))]
    unfold jX9_renews_16
    rw [e1, obind]
    dsimp only
    rw [if_pos rfl, show z 2 = z ((2 : Nat) : Int) from rfl, mr_of h1 hk w1 (by decide), obind, (h1.2.1.2.2 k hk).2.2.1, pmLet_eq]
    obtain ⟨m2, e2, f2, t2, r2⟩ := m_w m1 5 (m1.1 114 5 + (z 20 - z (aNa A k)))
    rw [e2]
    obtain ⟨m3, e3, f3, t3, r3⟩ := m_sets (k := k) (j := 2) (by omega) (by omega) (z 20) m2
    rw [e3, obind]
    have kk : ∀ b, ¬ b = 72 + 4 * k + 2 → ¬ b = 5 → m3.1 114 b = m1.1 114 b := fun b h1 h2 => by rw [r3, if_neg h1, r2, if_neg h2]
    refine ⟨m3, rfl, by rw [t3, t2]; exact t1, mfr_tr f1 (mfr_tr f2 f3), rP_fr (A := A) h1.1 (kk _ (by omega) (by omega)) (fun b h1 h2 => kk b (by omega) (by omega)), ⟨(kk _ (by omega) (by omega)).trans h1.2.1.1, (kk _ (by omega) (by omega)).trans h1.2.1.2.1, fun i hi => ?_⟩, rF_fr (A := A) h1.2.2.1 (fun f hf => (w.2.2.2.2.2.1 f hf).1) (fun b h1 h2 => kk b (by omega) (by omega)), rE_fr (A := A) h1.2.2.2.1 w.2.2.2.2.2.2.1 (fun b hb => kk b (by omega) (by omega)), ⟨(kk _ (by omega) (by omega)).trans h1.2.2.2.2.1, (kk _ (by omega) (by omega)).trans h1.2.2.2.2.2.1, ?_, (kk _ (by omega) (by omega)).trans h1.2.2.2.2.2.2.2⟩⟩
    · have hi' : i < aC A := hi
      obtain ⟨g1, g2, g3, g4⟩ := h1.2.1.2.2 i hi'
      refine ⟨(kk _ (by omega) (by omega)).trans g1, (kk _ (by omega) (by omega)).trans g2, ?_, (kk _ (by omega) (by omega)).trans g4⟩
      show _ = z (((if i = k then 20 else aNa A i : Nat)) : Int)
      by_cases e : i = k
      · rw [if_pos e, r3, if_pos (by omega)]
        rfl
      · rw [if_neg e]
        exact (kk _ (by omega) (by omega)).trans g3
    · show m3.1 114 5 = aGi A + (z 20 - z (aNa A k))
      rw [r3, if_neg (by omega), r2, if_pos rfl, h1.2.2.2.2.2.2.1]
theorem wf_pair (w : wfA A) {i j : Nat} (hi : i < aC A) (hj : j < aC A) (hij : ¬ i = j) (pi : aPa A i = -1) (pj : aPa A j = -1) : wfA (uPa A (pPair A i j (aNu A i) (aNu A j))) := by
  obtain ⟨w1, w2, w3, w4, w5, w6⟩ := w
  have w0 : wfA A := ⟨w1, w2, w3, w4, w5, w6⟩
  refine ⟨w1, w2, w3, w4, fun k hk => ?_, w6⟩
  have hk' : k < aC A := hk
  show pPair A i j (aNu A i) (aNu A j) k = -1 ∨ ∃ t, t < aC A ∧ ¬ t = k ∧ pPair A i j (aNu A i) (aNu A j) k = (aNu A t : Int) ∧ pPair A i j (aNu A i) (aNu A j) t = (aNu A k : Int)
  unfold pPair
  by_cases e1 : k = j
  · refine Or.inr ⟨i, hi, fun h => hij (h.trans e1), if_pos e1, ?_⟩
    rw [if_neg hij, if_pos rfl, e1]
  · by_cases e2 : k = i
    · refine Or.inr ⟨j, hj, fun h => e1 h.symm, by rw [if_neg e1, if_pos e2], ?_⟩
      rw [if_pos rfl, e2]
    · rw [if_neg e1, if_neg e2]
      rcases w5 k hk' with h | ⟨t, t1, t2, t3, t4⟩
      · exact Or.inl h
      · refine Or.inr ⟨t, t1, t2, t3, ?_⟩
        have n1 : ¬ t = j := fun h => by rw [h, pj] at t4; omega
        have n2 : ¬ t = i := fun h => by rw [h, pi] at t4; omega
        rw [if_neg n1, if_neg n2]
        exact t4
end OPS3
/-- a loop that counts -/
theorem cntl (l : Nat → Int32 → Int32 → Option Int32) (len : Nat) (P : Nat → Bool) (hs : ∀ k i (c : Nat), i < len → l (k + 1) (z (c : Int)) (z (i : Int)) = l k (z ((c + (if P i = true then 1 else 0) : Nat) : Int)) (z ((i : Int) + 1))) (he : ∀ k (c : Nat), l (k + 1) (z (c : Int)) (z (len : Int)) = some (z (c : Int))) :
    ∀ (d i k : Nat), i + d = len → d < k → l k (z ((cnt P i : Nat) : Int)) (z (i : Int)) = some (z ((cnt P len : Nat) : Int))
  | 0, i, k + 1, h1, _ => by
    obtain rfl : i = len := by omega
    exact he k _
  | d + 1, i, k + 1, h1, h2 => by
    rw [hs k i _ (by omega)]
    exact cntl l len P hs he d (i + 1) k (by omega) (by omega)
theorem suml (l : Nat → Int32 → Int32 → Option Int32) (len : Nat) (f : Nat → Nat) (hs : ∀ k i (c : Nat), i < len → l (k + 1) (z (c : Int)) (z (i : Int)) = l k (z ((c + f i : Nat) : Int)) (z ((i : Int) + 1))) (he : ∀ k (c : Nat), l (k + 1) (z (c : Int)) (z (len : Int)) = some (z (c : Int))) :
    ∀ (d i k : Nat), i + d = len → d < k → l k (z ((nsum f i : Nat) : Int)) (z (i : Int)) = some (z ((nsum f len : Nat) : Int))
  | 0, i, k + 1, h1, _ => by
    obtain rfl : i = len := by omega
    exact he k _
  | d + 1, i, k + 1, h1, h2 => by
    rw [hs k i _ (by omega)]
    exact suml l len f hs he d (i + 1) k (by omega) (by omega)
theorem z_half : ∀ k : Nat, k ≤ 8 → z (k : Int) / z 2 = z ((k / 2 : Nat) : Int) := by decide +kernel
section OPS3
variable {m : pmI} {A : Ab} {n : Nat}
theorem pa_rg (w : wfA A) {i : Nat} (hi : i < aC A) : aPa A i = -1 ∨ (0 ≤ aPa A i ∧ aPa A i < 1000000) := by
  have w2 := w.2.1
  rcases w.2.2.2.2.1 i hi with h | ⟨j, j1, -, j3, -⟩
  · exact Or.inl h
  · have := w.2.2.1 j j1
    omega
theorem m_cntW (h : repR (m.1 114) A) (w : wfA A) (hn : 20 ≤ n) : lX9_paired_l4 n m n (z 0) (z 0) = some (z ((cnt (fun k => decide (¬ aPa A k = -1)) (aC A) : Nat) : Int)) := by
  have w1 := w.1
  refine cntl (lX9_paired_l4 n m) (aC A) (fun k => decide (¬ aPa A k = -1)) (fun k i c hi => ?_) (fun k c => ?_) (aC A) 0 n (by omega) (by omega)
  · show bX9_paired_l4 n m (lX9_paired_l4 n m k) _ _ = _
    unfold bX9_paired_l4
    have hp := pa_rg w hi
    rw [h.2.1.1, if_pos (zlt (by omega)), show z 3 = z ((3 : Nat) : Int) from rfl, mr_of h hi w1 (by decide), obind, (h.2.1.2.2 i hi).2.2.2, z_add, z_add, z_add]
    by_cases e : aPa A i = -1
    · rw [if_neg (zge (by omega)), if_neg (by rw [decide_eq_true_eq]; exact fun h => h e)]
      rfl
    · rw [if_pos (zlt (by omega)), if_pos (decide_eq_true e)]
      rfl
  · show bX9_paired_l4 n m (lX9_paired_l4 n m k) _ _ = _
    unfold bX9_paired_l4
    rw [h.2.1.1, if_neg (zge (by omega))]
theorem m_cntP (h : repR (m.1 114) A) (w : wfA A) (hn : 20 ≤ n) : lX9_pairs_l113 n m n (z 0) (z 0) = some (z ((cnt (fun k => decide (¬ aPa A k = -1)) (aC A) : Nat) : Int)) := by
  have w1 := w.1
  refine cntl (lX9_pairs_l113 n m) (aC A) (fun k => decide (¬ aPa A k = -1)) (fun k i c hi => ?_) (fun k c => ?_) (aC A) 0 n (by omega) (by omega)
  · show bX9_pairs_l113 n m (lX9_pairs_l113 n m k) _ _ = _
    unfold bX9_pairs_l113
    have hp := pa_rg w hi
    rw [h.2.1.1, if_pos (zlt (by omega)), show z 3 = z ((3 : Nat) : Int) from rfl, mr_of h hi w1 (by decide), obind, (h.2.1.2.2 i hi).2.2.2, z_add, z_add, z_add]
    by_cases e : aPa A i = -1
    · rw [if_neg (zge (by omega)), if_neg (by rw [decide_eq_true_eq]; exact fun h => h e)]
      rfl
    · rw [if_pos (zlt (by omega)), if_pos (decide_eq_true e)]
      rfl
  · show bX9_pairs_l113 n m (lX9_pairs_l113 n m k) _ _ = _
    unfold bX9_pairs_l113
    rw [h.2.1.1, if_neg (zge (by omega))]
theorem m_pairs (h : repR (m.1 114) A) (w : wfA A) (hn : 20 ≤ n) {a b : Int} (ha : -2147483648 ≤ a ∧ a < 2147483648) (hb : -2147483648 ≤ b ∧ b < 2147483648) : mRes m (fX9_pairs n (z a) (z b) m) (sPair A a b) := by
  have w1 := w.1
  have w2 := w.2.1
  have bad : ∀ u v, mRes m (jX9_pairs_23 n (z a) (z b) u v m) (1, 0, A) := fun u v => by
    obtain ⟨m1, e1, t1, f1, r1⟩ := m_t1 (m := m) (z 1)
    unfold jX9_pairs_23 jX9_pairs_28
    rw [e1, obind]
    dsimp only
    rw [if_neg z10]
    exact ⟨m1, rfl, t1, f1, (r1 ▸ h)⟩
  unfold fX9_pairs sPair
  rw [m_at h w hn ha, obind, m_at h w hn hb, obind]
  cases hs : slot A a with
  | none =>
    rw [oz_n, if_pos (zlt (by omega))]
    exact bad _ _
  | some i =>
    have hi := slot_lt hs
    rw [oz_s, if_neg (zge (by omega))]
    cases hs2 : slot A b with
    | none =>
      rw [oz_n, if_pos (zlt (by omega))]
      exact bad _ _
    | some j =>
      have hj := slot_lt hs2
      rw [oz_s, if_neg (zge (by omega))]
      obtain ⟨m1, e1, t1, f1, r1⟩ := m_t0 (m := m) (z 1)
      have h1 : repR (m1.1 114) A := (r1 ▸ h)
      unfold jX9_pairs_28
      rw [e1, obind]
      dsimp only
      rw [if_pos rfl]
      by_cases hij : i = j
      · rw [if_pos (by rw [hij]), if_pos hij]
        obtain ⟨m2, e2, t2, f2, r2⟩ := m_t1 (m := m1) (z 2)
        unfold jX9_pairs_47
        rw [e2, obind]
        dsimp only
        rw [if_neg z10]
        exact ⟨m2, rfl, t2, mfr_tr f1 f2, (r2 ▸ h1)⟩
      · rw [if_neg (zne (by omega)), if_neg hij]
        obtain ⟨m2, e2, t2, f2, r2⟩ := m_t0 (m := m1) (z 2)
        have h2 : repR (m2.1 114) A := (r2 ▸ h1)
        unfold jX9_pairs_47
        rw [e2, obind]
        dsimp only
        have pi := pa_rg w hi.1
        have pj := pa_rg w hj.1
        rw [if_pos rfl, show z 3 = z ((3 : Nat) : Int) from rfl, mr_of h2 hi.1 w1 (by decide), obind, mr_of h2 hj.1 w1 (by decide), (h2.2.1.2.2 i hi.1).2.2.2]
        have bad : mRes m (jX9_pairs_74 n (z a) (z b) (z (i : Int)) (z (j : Int)) m2) (3, 0, A) := by
          obtain ⟨m3, e3, t3, f3, r3⟩ := m_t1 (m := m2) (z 3)
          unfold jX9_pairs_74 jX9_pairs_79
          rw [e3, obind]
          dsimp only
          rw [if_neg z10]
          exact ⟨m3, rfl, t3, mfr_tr f1 (mfr_tr f2 f3), (r3 ▸ h2)⟩
        by_cases e3 : aPa A i = -1
        · rw [e3, if_neg (zge (by omega)), obind, (h2.2.1.2.2 j hj.1).2.2.2]
          by_cases e4 : aPa A j = -1
          · rw [e4, if_neg (zge (by omega)), if_neg (by simp)]
            obtain ⟨m3, e5, t3, f3, r3⟩ := m_t0 (m := m2) (z 3)
            have h3 : repR (m3.1 114) A := (r3 ▸ h2)
            unfold jX9_pairs_79
            rw [e5, obind]
            dsimp only
            obtain ⟨m4, e6, f4, t4, r4⟩ := m_sets (k := i) (j := 3) (by omega) (by omega) (z b + z 1) m3
            obtain ⟨m5, e7, f5, t5, r5⟩ := m_sets (k := j) (j := 3) (by omega) (by omega) (z a + z 1) m4
            rw [if_pos rfl, show z 3 = z ((3 : Nat) : Int) from rfl, e6, obind, e7, obind]
            have kk : ∀ q, ¬ q = 72 + 4 * i + 3 → ¬ q = 72 + 4 * j + 3 → m5.1 114 q = m3.1 114 q := fun q h1 h2 => by rw [r5, if_neg h2, r4, if_neg h1]
            have h5 : repR (m5.1 114) (uPa A (pPair A i j a b)) := by
              refine ⟨rP_fr (A := A) h3.1 (kk _ (by omega) (by omega)) (fun q h1 h2 => kk q (by omega) (by omega)), ⟨(kk _ (by omega) (by omega)).trans h3.2.1.1, (kk _ (by omega) (by omega)).trans h3.2.1.2.1, fun t ht => ?_⟩, rF_fr (A := A) h3.2.2.1 (fun f hf => (w.2.2.2.2.2.1 f hf).1) (fun q h1 h2 => kk q (by omega) (by omega)), rE_fr (A := A) h3.2.2.2.1 w.2.2.2.2.2.2.1 (fun q hb => kk q (by omega) (by omega)), rM_fr (A := A) h3.2.2.2.2 (fun q h1 h2 => kk q (by omega) (by omega))⟩
              have ht' : t < aC A := ht
              obtain ⟨g1, g2, g3, g4⟩ := h3.2.1.2.2 t ht'
              refine ⟨(kk _ (by omega) (by omega)).trans g1, (kk _ (by omega) (by omega)).trans g2, (kk _ (by omega) (by omega)).trans g3, ?_⟩
              show _ = z ((if t = j then a else if t = i then b else aPa A t) + 1)
              by_cases q1 : t = j
              · rw [if_pos q1, r5, if_pos (by omega), z_add]
              · rw [if_neg q1, r5, if_neg (by omega), r4]
                by_cases q2 : t = i
                · rw [if_pos q2, if_pos (by omega), z_add]
                · rw [if_neg q2, if_neg (by omega)]
                  exact g4
            have w5 : wfA (uPa A (pPair A i j a b)) := by
              have := wf_pair w hi.1 hj.1 hij e3 e4
              rwa [hi.2, hj.2] at this
            rw [m_cntP h5 w5 hn, obind, z_half _ (Nat.le_trans (cnt_le _ (aC (uPa A (pPair A i j a b)))) w1)]
            exact ⟨m5, rfl, by rw [t5, t4]; exact t3, mfr_tr (mfr_tr f1 f2) (mfr_tr f3 (mfr_tr f4 f5)), h5⟩
          · rw [if_pos (zlt (by omega)), if_pos (Or.inr e4)]
            exact bad
        · rw [if_pos (zlt (by omega)), if_pos (Or.inl e3)]
          exact bad
end OPS3
