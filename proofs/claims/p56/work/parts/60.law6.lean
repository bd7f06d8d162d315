/-! the law, call by call: dancerByNails, writeRow -/
theorem z_div {a b : Nat} (h : a < 2147483648 ∧ 0 < b ∧ b < 2147483648) : z (a : Int) / z (b : Int) = z ((a / b : Nat) : Int) := by
  have hb : z (b : Int) ≠ -1 := fun e => by
    have : z (b : Int) = z (-1) := e
    rw [z_eq (by omega)] at this
    omega
  obtain ⟨q, hq, hq2⟩ : ∃ q, a / b = q ∧ q ≤ a := ⟨_, rfl, Nat.div_le_self a b⟩
  rw [hq, ← Int32.toInt_inj, Int32.toInt_div_of_ne_right _ _ hb, z_toInt (by omega), z_toInt (by omega), z_toInt (by omega), ← hq]
  exact (Int.ofNat_tdiv a b).symm
theorem z_mod10 {a : Nat} (h : a < 2147483648) : z (a : Int) - z (a : Int) / z 10 * z 10 = z ((a % 10 : Nat) : Int) := by
  rw [show z 10 = z ((10 : Nat) : Int) from rfl, z_div (by omega), z_mul, z_sub]
  congr 1
  omega
section LAW6
variable {E : pmEv0} {n : Nat} {self : lSelf} {i5 : Int32} {m : pmI} {D : Nat → Nat → UInt64} {w k : Nat} {W : Wd}
/-- the sign of a cell -/
def sgn (A : Ab) (c : Nat) : Nat := if aP A c = true then 35 else match spot A c with | none => 46 | some j => 48 + aNu A j % 10
theorem sgn_lt (A : Ab) (c : Nat) : sgn A c < 65536 := by
  unfold sgn
  split
  · omega
  · split <;> omega
theorem c_signAt {A : Ab} (h : repC 1 m A) (w : wfA A) (hn : 20 ≤ n) {c : Nat} (hc : c < 64) : fX6_signAt_1 n (z (c : Int)) m = some (z (sgn A c : Int)) := by
  have w1 := w.1
  have wx := w.2.1
  unfold fX6_signAt_1 sgn
  rw [f_holds _ hc, obind, h.1 c hc]
  by_cases hp : aP A c = true
  · rw [if_pos hp, if_pos hp, if_neg z10]
    rfl
  · rw [if_neg hp, if_neg hp, if_pos rfl, c_slotAt h w hn (by omega), obind]
    cases hs : spot A c with
    | none =>
      rw [oz_n, if_pos rfl]
      rfl
    | some j =>
      have hj := ff_some hs
      have hnu := (w.2.2.1 j (by omega)).1
      rw [oz_s, if_neg (zne (by omega)), a_2 (by omega), obind, (h.2.2.2.1 j (by omega)).1, z_mod10 (by omega), z_add, show (48 : Int) + ((aNu A j % 10 : Nat) : Int) = ((48 + aNu A j % 10 : Nat) : Int) by omega, ch_z (by omega), nar_c, ch_z (by omega), if_pos rfl]
def wLi (W : Wd) (l : Nat) (f : Nat → Nat) : Wd := (W.1, W.2.1, W.2.2.1, W.2.2.2.1, (l, f), W.2.2.2.2.2)
/-- the class's line gets a sign -/
theorem c_put {l c : Nat} {f : Nat → Nat} (h : cInv m (wLi W l f)) (hl : l < 12) (hc : c < 65536) : ∃ m', fX3_put_111 (z (c : Int)) m = some m' ∧ cInv m' (wLi W (l + 1) (fun q => if q = l then c else f q)) ∧ cOut m m' := by
  obtain ⟨p1, p2, p3⟩ := h.2.2.2.2.2.1
  have p2' : m.1 111 1 = z (l : Int) := p2
  unfold fX3_put_111
  rw [p2', if_neg (zge (by omega)), if_pos (zlt (by omega)), if_pos (okI_z (by omega)), z_nat (by omega), nar_c, ch_z hc, pmLet_eq]
  obtain ⟨m1, e1, j1, o1, r1⟩ := w_1 m 112 l (z (c : Int))
  rw [e1]
  obtain ⟨m2, e2, j2, o2, r2⟩ := w_1 m1 111 1 (m1.1 111 1 + z 1)
  rw [e2]
  have oo : ∀ i, i ≠ 111 → i ≠ 112 → m2.1 i = m.1 i ∧ m2.2 i = m.2 i := fun i h1 h2 => ⟨by rw [o2 i h1, o1 i h2], by rw [j2, j1]⟩
  refine ⟨m2, rfl, ?_, fun i hi => oo i (by omega) (by omega)⟩
  obtain ⟨h1, h2, h3, h4, h5, h6, h7, h8⟩ := h
  refine ⟨repC_fr h1 (fun i _ _ => oo i (by omega) (by omega)), h2, cHist_fr h3 (fun i _ _ => oo i (by omega) (by omega)), cSv_fr h4 (fun i hi => oo i (by omega) (by omega)), ?_, ⟨show l + 1 ≤ 12 by omega, ?_, fun q hq => ?_⟩, ?_, ?_⟩
  · rw [(oo 107 (by decide) (by decide)).1, (oo 108 (by decide) (by decide)).1]; exact h5
  · show m2.1 111 1 = z ((l + 1 : Nat) : Int)
    rw [r2, if_pos rfl, o1 111 (by decide), p2', z_add]
    rfl
  · have hq' : q < l + 1 := hq
    show m2.1 112 q = z ((if q = l then c else f q : Nat) : Int) ∧ (if q = l then c else f q) < 65536
    rw [o2 112 (by decide), r1]
    by_cases e : q = l
    · rw [if_pos e, if_pos e]
      exact ⟨rfl, hc⟩
    · rw [if_neg e, if_neg e]
      exact p3 q (show q < l by omega)
  · rw [(oo 0 (by decide) (by decide)).1]; exact h7
  · rw [(oo 0 (by decide) (by decide)).1]; exact h8
theorem c_lineEmpty {f : Nat → Nat} (h : cInv m W) : ∃ m', fX3_empty_111 m = some m' ∧ cInv m' (wLi W 0 f) ∧ cOut m m' := by
  obtain ⟨m2, e2, j2, o2, r2⟩ := w_1 m 111 1 (z 0)
  unfold fX3_empty_111
  rw [e2]
  have oo : ∀ i, i ≠ 111 → m2.1 i = m.1 i ∧ m2.2 i = m.2 i := fun i h1 => ⟨o2 i h1, by rw [j2]⟩
  refine ⟨m2, rfl, ?_, fun i hi => oo i (by omega)⟩
  obtain ⟨h1, h2, h3, h4, h5, h6, h7, h8⟩ := h
  refine ⟨repC_fr h1 (fun i _ _ => oo i (by omega)), h2, cHist_fr h3 (fun i _ _ => oo i (by omega)), cSv_fr h4 (fun i hi => oo i (by omega)), ?_, ⟨Nat.zero_le _, ?_, fun q hq => absurd hq (Nat.not_lt_zero _)⟩, ?_, ?_⟩
  · rw [(oo 107 (by decide)).1, (oo 108 (by decide)).1]; exact h5
  · show m2.1 111 1 = z 0
    rw [r2, if_pos rfl]
  · rw [(oo 0 (by decide)).1]; exact h7
  · rw [(oo 0 (by decide)).1]; exact h8
theorem m_lineEmpty {f : Nat → Nat} (h : mInv m W) : ∃ m', (pmU m.1 113 18 (z 0), m.2) = m' ∧ mInv m' (wLi W 0 f) ∧ mOut m m' ∧ m'.1 113 10 = m.1 113 10 ∧ m'.1 114 = m.1 114 := by
  obtain ⟨m2, e2, j2, o2, r2⟩ := w_1 m 113 18 (z 0)
  have f2 : ∀ q, ¬ q = 18 → m2.1 113 q = m.1 113 q := fun q hq => by rw [r2, if_neg hq]
  obtain ⟨g1, g2, g3, g4, g5, g6, g7⟩ := h
  refine ⟨m2, e2, ⟨by rw [o2 114 (by decide)]; exact g1, mHist_fr g2 (o2 118 (by decide)) (f2 9 (by decide)), mSv_fr g3 (f2 15 (by decide)) (o2 117 (by decide)), ?_, ⟨?_, fun q hq => absurd hq (Nat.not_lt_zero _)⟩, ?_, ?_⟩, ⟨fun i hi => o2 i (by omega), by rw [j2]⟩, f2 10 (by decide), o2 114 (by decide)⟩
  · rw [f2 21 (by decide), o2 125 (by decide)]; exact g4
  · show m2.1 113 18 = z 0
    rw [r2, if_pos rfl]
  · rw [f2 11 (by decide)]; exact g6
  · rw [f2 12 (by decide)]; exact g7
theorem mOut_tr {m m1 m2 : pmI} (h1 : mOut m m1) (h2 : mOut m1 m2) : mOut m m2 := ⟨fun i hi => (h2.1 i hi).trans (h1.1 i hi), h2.2.trans h1.2⟩
end LAW6

