/-! distances and walks, on both sides -/
/-- other cells, other nails, another count of lost ones -/
def uMv (A : Ab) (ce na : Nat → Nat) (lo : Int32) : Ab := uMo (uD A (aC A) (aX A) (aNu A) ce na (aPa A)) lo (aBr A) (aGi A) (aGo A)
theorem repC_mv {m m' : pmI} {A : Ab} {ce na : Nat → Nat} {lo : Int32} (h : repC 1 m A) (e : ∀ q, ¬ q = 1 → ¬ q = 3 → ¬ q = 4 → q < 9 → m'.1 q = m.1 q) (e1 : ∀ b, ¬ b = 11 → m'.1 1 b = m.1 1 b) (ej : m'.2 = m.2) (e3 : ∀ k, k < aC A → m'.1 3 k = z (ce k)) (e4 : ∀ k, k < aC A → m'.1 4 k = z (na k)) (e11 : m'.1 1 11 = lo) : repC 1 m' (uMv A ce na lo) := by
  obtain ⟨p1, p2, p3, p4, p5, p6, p7, p8, p9, p10, p11⟩ := h
  refine ⟨fun k hk => ?_, ?_, ?_, fun i hi => ?_, fun f hf => ?_, ?_, fun i hi => ?_, ?_, ?_, ?_, ?_⟩
  · rw [ej]; exact p1 k hk
  · rw [e1 _ (by decide)]; exact p2
  · rw [e1 _ (by decide)]; exact p3
  · have hi' : i < aC A := hi
    show m'.1 2 i = _ ∧ m'.1 3 i = _ ∧ m'.1 4 i = _ ∧ m'.1 5 i = _
    rw [e 2 (by decide) (by decide) (by decide) (by decide), e 5 (by decide) (by decide) (by decide) (by decide)]
    exact ⟨(p4 i hi').1, e3 i hi', e4 i hi', (p4 i hi').2.2.2⟩
  · show m'.1 7 f = _ ∧ ∀ b, _ → m'.1 6 (12 * f + b) = _
    rw [e 7 (by decide) (by decide) (by decide) (by decide), e 6 (by decide) (by decide) (by decide) (by decide)]
    exact p5 f hf
  · rw [e1 _ (by decide)]; exact p6
  · show m'.1 8 i = _
    rw [e 8 (by decide) (by decide) (by decide) (by decide)]
    exact p7 i hi
  · exact e11
  · rw [e1 _ (by decide)]; exact p9
  · rw [e1 _ (by decide)]; exact p10
  · rw [e1 _ (by decide)]; exact p11
theorem repR_mv {r r' : Nat → Int32} {A : Ab} {ce na : Nat → Nat} {lo : Int32} (h : repR r A) (w : wfA A) (kk : ∀ b, ¬ b = 7 → ¬ (72 ≤ b ∧ b < 104 ∧ (b % 4 = 1 ∨ b % 4 = 2)) → r' b = r b) (g : ∀ k, k < aC A → r' (72 + 4 * k + 1) = z (ce k) ∧ r' (72 + 4 * k + 2) = z (na k)) (e7 : r' 7 = lo) : repR r' (uMv A ce na lo) := by
  have w1 := w.1
  refine ⟨rP_fr (A := A) h.1 (kk _ (by omega) (by omega)) (fun b h1 h2 => kk b (by omega) (by omega)), ⟨(kk _ (by omega) (by omega)).trans h.2.1.1, (kk _ (by omega) (by omega)).trans h.2.1.2.1, fun i hi => ?_⟩, rF_fr (A := A) h.2.2.1 (fun f hf => (w.2.2.2.2.2.1 f hf).1) (fun b h1 h2 => kk b (by omega) (by omega)), rE_fr (A := A) h.2.2.2.1 w.2.2.2.2.2.2.1 (fun b hb => kk b (by omega) (by omega)), ⟨e7, (kk _ (by omega) (by omega)).trans h.2.2.2.2.2.1, (kk _ (by omega) (by omega)).trans h.2.2.2.2.2.2.1, (kk _ (by omega) (by omega)).trans h.2.2.2.2.2.2.2⟩⟩
  have hi' : i < aC A := hi
  obtain ⟨g1, g2, g3, g4⟩ := h.2.1.2.2 i hi'
  exact ⟨(kk _ (by omega) (by omega)).trans g1, (g i hi').1, (g i hi').2, (kk _ (by omega) (by omega)).trans g4⟩
theorem wf_mv {A : Ab} (w : wfA A) {ce na : Nat → Nat} {lo : Int32} (h1 : ∀ k, k < aC A → ce k < 64 ∧ na k ≤ 20 ∧ aP A (ce k) = false) (h2 : ∀ i j, i < j → j < aC A → ¬ ce i = ce j) (h3 : lo + z ((nsum na (aC A) : Nat) : Int) = aLo A + z ((nsum (aNa A) (aC A) : Nat) : Int)) : wfA (uMv A ce na lo) := by
  obtain ⟨w1, w2, w3, w4, w5, w6, w7, w8, w9, w10, w11⟩ := w
  refine ⟨w1, w2, fun k hk => ?_, fun i j hij hj => ⟨(w4 i j hij hj).1, h2 i j hij hj⟩, w5, w6, w7, w8, w9, w10, ?_⟩
  · have hk' : k < aC A := hk
    obtain ⟨a, b, c⟩ := h1 k hk'
    exact ⟨(w3 k hk').1, a, b, c⟩
  · show lo = aBr A + aGi A - z ((nsum na (aC A) : Nat) : Int) - aGo A
    grind
theorem R_open {cl : Nat → Bool} {s : Nat} : ∀ {k c : Nat}, R cl s k c = true → c = s ∨ cl c = false
  | 0, _, h => Or.inl (R_z.mp h)
  | k + 1, c, h => by
    rcases R_s.mp h with h | ⟨h, -⟩
    · exact R_open h
    · exact Or.inr h
theorem clo_f {A : Ab} {c : Nat} (h : clo A true c = false) : aP A c = false ∧ spot A (c : Int) = none := by
  unfold clo at h
  rw [Bool.or_eq_false_iff, Bool.true_and, decide_eq_false_iff_not] at h
  exact ⟨h.1, Decidable.byContradiction h.2⟩
theorem clo_w {A : Ab} {k c : Nat} (hk : k < aC A) (hc : ¬ c = aCe A k) : (aP A c || occ A (k : Int) (aC A) c) = clo A true c := by
  unfold clo
  rw [Bool.true_and]
  congr 1
  rw [Bool.eq_iff_iff, decide_eq_true_eq, occ_iff, spot_iff]
  constructor
  · rintro ⟨j, h1, h2, h3⟩
    exact ⟨j, h1, h3⟩
  · rintro ⟨j, h1, h2⟩
    exact ⟨j, h1, fun h => hc (by rw [h2, show j = k by omega]), h2⟩
/-- what a distance is -/
def qDist (A : Ab) (d x y : Int) : Int × Int := match slot A d with
  | none => (1, 0)
  | some k => if isCb x y = true then (match dst (clo A true) (aCe A k) (8 * y + x).toNat with
    | none => (1, 0)
    | some l => (0, (l : Int))) else (2, 0)
def exD (c : Int) : Nat := if c = 2 then 0 else 3
theorem qDist_c (A : Ab) (d x y : Int) : (qDist A d x y).1 = 0 ∨ (qDist A d x y).1 = 1 ∨ (qDist A d x y).1 = 2 := by
  unfold qDist
  split
  · exact Or.inr (Or.inl rfl)
  · split
    · split
      · exact Or.inr (Or.inl rfl)
      · exact Or.inl rfl
    · exact Or.inr (Or.inr rfl)
/-- what a walk is -/
def aWalk (A : Ab) (k c l : Nat) : Ab := uMv A (fun i => if i = k then c else aCe A i) (fun i => if i = k then aNa A k - l else aNa A i) (aLo A + z l)
def sWalk (A : Ab) (d x y : Int) : Int × Int × Ab := match slot A d with
  | none => (1, 0, A)
  | some k => if isCb x y = true then (match dst (clo A true) (aCe A k) (8 * y + x).toNat with
    | none => (3, 0, A)
    | some l => if aNa A k < l then (4, 0, A) else (0, ((aNa A k - l : Nat) : Int), aWalk A k (8 * y + x).toNat l)) else (2, 0, A)
theorem wf_walk {A : Ab} (w : wfA A) {k c l : Nat} (hk : k < aC A) (hc : c < 64) (hd : dst (clo A true) (aCe A k) c = some l) (hl : ¬ aNa A k < l) : wfA (aWalk A k c l) := by
  have hr := R_open (ff_some hd).2.2.1
  have w3 := w.2.2.1
  have w4 := w.2.2.2.1
  have hn := nsum_set (f := aNa A) (k := k) (v := aNa A k - l) hk
  refine wf_mv w (fun i hi => ?_) (fun i j hij hj => ?_) ?_
  · try dsimp only
    by_cases e : i = k
    · rw [if_pos e, if_pos e]
      have := (w3 k hk).2.2.1
      refine ⟨hc, by omega, ?_⟩
      rcases hr with hr | hr
      · rw [hr]
        exact (w3 k hk).2.2.2
      · exact (clo_f hr).1
    · rw [if_neg e, if_neg e]
      exact (w3 i hi).2
  · try dsimp only
    have key : ∀ t, t < aC A → ¬ t = k → ¬ aCe A t = c := fun t ht htk he => by
      rcases hr with hr | hr
      · rw [hr] at he
        rcases Nat.lt_or_ge t k with h | h
        · exact (w4 t k h hk).2 he
        · exact (w4 k t (by omega) ht).2 he.symm
      · exact absurd (clo_f hr).2 (spot_iff.mpr ⟨t, ht, he.symm⟩)
    by_cases e1 : i = k
    · rw [if_pos e1, if_neg (by omega)]
      exact fun h => key j hj (by omega) h.symm
    · rw [if_neg e1]
      by_cases e2 : j = k
      · rw [if_pos e2]
        exact key i (by omega) e1
      · rw [if_neg e2]
        exact (w4 i j hij hj).2
  · have e : z ((nsum (fun i => if i = k then aNa A k - l else aNa A i) (aC A) : Nat) : Int) + z (l : Int) = z ((nsum (aNa A) (aC A) : Nat) : Int) := by
      rw [z_add]
      congr 1
      omega
    rw [← e]
    grind
section WALK
variable {m : pmI} {A : Ab} {n : Nat} {W : Wd}
theorem cInv_w {m' : pmI} (h : cInv m W) (f : wfr m m') : cInv m' W := cInv_fr h (fun i hi => ⟨f.1 i (by omega) (by omega), by rw [f.2]⟩)
theorem cOut_w {m' : pmI} (f : wfr m m') : cOut m m' := fun i hi => ⟨f.1 i (by omega) (by omega), by rw [f.2]⟩
theorem repC_w {m' : pmI} (h : repC 1 m A) (f : wfr m m') : repC 1 m' A := repC_fr h (fun i h1 h2 => ⟨f.1 i (by omega) (by omega), by rw [f.2]⟩)
theorem fr_w {m' : pmI} (f : wfr m m') : fr cS m m' := fun i hi => by
  have : ¬ ((1 ≤ i ∧ i ≤ 8) ∨ (91 ≤ i ∧ i ≤ 106)) := of_decide_eq_false hi
  exact ⟨f.1 i (by omega) (by omega), by rw [f.2]⟩
theorem c_wlen (h : repC 1 m A) (w : wfA A) (hn : 100 ≤ n) {d x y : Int} {k c : Nat} (hd : -2147483648 ≤ d ∧ d < 2147483648) (hs : slot A d = some k) (hc : c < 64) (hxy : 8 * y + x = (c : Int)) : ∃ m', fX8_walkLength n (z d) (z x) (z y) m = some (z (oz (dst (clo A true) (aCe A k) c)), m') ∧ wfr m m' := by
  have hk := (slot_lt hs).1
  have w1 := w.1
  have hs64 := (w.2.2.1 k hk).2.1
  obtain ⟨v, e3, hv⟩ := c_others (n := n) h w (by omega) (a := (k : Int)) (by omega)
  obtain ⟨m1, f, e1, hf, hr, fr⟩ := c_bfs (n := n) (m := m) hn hs64 ((m.2 1 0) ||| v)
  unfold fX8_walkLength
  rw [c_slotOf (n := n) h w (by omega) hd, obind, hs, oz_s, a_3 (by omega), obind, (h.2.2.2.1 k hk).2.1, e3, obind, e1, obind, f_cellAt, obind, hxy]
  unfold fX7_lengthTo_94
  rw [a_95 hc, obind, obind, hr c hc, Dst_dst hs64 (fun c hc hcs => ?_) hf hc]
  · exact ⟨m1, rfl, fr⟩
  · rw [bt_or, h.1 c hc, hv c hc]
    exact clo_w hk hcs
theorem c_distance (h : cInv m W) (hn : 100 ≤ n) {d x y : Int} (hd : -2147483648 ≤ d ∧ d < 2147483648) (hx : -2147483648 ≤ x ∧ x < 2147483648) (hy : -2147483648 ≤ y ∧ y < 2147483648) : cQ m W (fX8_distance n (z d) (z x) (z y) m) (qDist (wA W) d x y).1 (z (qDist (wA W) d x y).2) (exD (qDist (wA W) d x y).1) := by
  unfold fX8_distance qDist
  rw [c_presence (n := n) h.1 h.2.1 (by omega) hd, obind]
  cases hs : slot (wA W) d with
  | none =>
    rw [if_pos rfl, tf4]
    exact ⟨m, rfl, cOut_rf, h⟩
  | some k =>
    rw [if_neg (Option.some_ne_none k), tf0, obind, oT_l]
    by_cases hc : isC x y
    · obtain ⟨c, hc1, hc2, hc3⟩ := isC_nat hc
      obtain ⟨m1, e1, f1⟩ := c_wlen (n := n) h.1 h.2.1 hn hd hs hc1 hc2
      rw [(c_cell hx hy m).1 hc, obind, tf0, obind, oT_l, e1, obind]
      try dsimp only
      rw [if_pos (isCb_t hc), hc2, Int.toNat_natCast]
      cases hq : dst (clo (wA W) true) (aCe (wA W) k) c with
      | none =>
        rw [oz_n, if_pos rfl]
        exact ⟨m1, rfl, cOut_w f1, cInv_w h f1⟩
      | some l =>
        have := dst_le hq
        rw [oz_s, if_neg (zne (by omega))]
        exact ⟨m1, rfl, cOut_w f1, cInv_w h f1⟩
    · rw [(c_cell hx hy m).2 hc, obind, tf1]
      try dsimp only
      rw [if_neg (by rw [isCb_f hc]; decide)]
      exact ⟨m, rfl, cOut_rf, h⟩
theorem mfr_r {m' : pmI} (f : rfr m m') : mfr m m' := ⟨fun i hi => f.1 i (by omega), f.2, fun k _ => by rw [f.1 113 (by decide)]⟩
end WALK

