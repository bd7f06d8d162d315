/-! the law, call by call: writeFigure -/
def lrN (v : Nat) : Nat := if v = 0 then 85 else if v = 1 then 68 else if v = 2 then 76 else if v = 3 then 82 else 83
theorem lrN_z : ∀ v : Nat, v < 5 → z (letr v) = z (lrN v : Int) := by decide
theorem lrN_lt : ∀ v : Nat, v < 5 → lrN v < 65536 := by decide
theorem letr_inj : ∀ a : Nat, a < 5 → ∀ b : Nat, b < 5 → z (letr a) = z (letr b) → a = b := by decide
theorem f_moveLetter : ∀ v : Nat, v < 5 → fX8_moveLetter (z (v : Int)) m00 = some (z (lrN v : Int)) := by decide +kernel
theorem f_moveLetter' {v : Nat} (h : v < 5) (m : pmI) : fX8_moveLetter (z (v : Int)) m = some (z (lrN v : Int)) := f_moveLetter v h
abbrev Ln : Type := Nat × (Nat → Nat)
def puL (c : Nat) (L : Ln) : Ln := (L.1 + 1, fun q => if q = L.1 then c else L.2 q)
def emL (n c : Nat) (L : Ln) : Ln := puL c (if 2 ≤ n then puL (48 + n % 10) (if 10 ≤ n then puL (48 + n / 10) L else L) else L)
theorem emL_le {n c : Nat} {L : Ln} (h1 : 1 ≤ n) (h2 : n ≤ 12) : (emL n c L).1 ≤ L.1 + n := by
  unfold emL puL
  by_cases e1 : 2 ≤ n
  · rw [if_pos e1]
    by_cases e2 : 10 ≤ n
    · rw [if_pos e2]
      show L.1 + 1 + 1 + 1 ≤ _
      omega
    · rw [if_neg e2]
      show L.1 + 1 + 1 ≤ _
      omega
  · rw [if_neg e1]
    show L.1 + 1 ≤ _
    omega
/-- a figure's signs: d beats still to be looked at, a run from s on, the next beat e -/
def RC (mv : Nat → Nat) (N : Nat) : Nat → Nat → Nat → Ln → Ln
  | 0, _, _, L => L
  | d + 1, s, e, L => if e < N ∧ mv e = mv s then RC mv N d s (e + 1) L else RC mv N d e (e + 1) (emL (e - s) (lrN (mv s)) L)
section LAW13
variable {E : pmEv0} {n : Nat} {self : lSelf} {i5 : Int32} {m : pmI} {D : Nat → Nat → UInt64} {w k : Nat} {W : Wd}
theorem c_putL {c : Nat} {L : Ln} (h : cInv m (wLi W L.1 L.2)) (hl : L.1 < 12) (hc : c < 65536) : ∃ m', fX3_put_111 (z (c : Int)) m = some m' ∧ cInv m' (wLi W (puL c L).1 (puL c L).2) ∧ cOut m m' := c_put h hl hc
theorem m_putL {c : Nat} {L : Ln} (h : mInv m (wLi W L.1 L.2)) (hl : L.1 < 30) : ∃ m', fX9_puts (z (c : Int)) m = some m' ∧ mInv m' (wLi W (puL c L).1 (puL c L).2) ∧ mOut m m' ∧ m'.1 113 10 = m.1 113 10 := by
  obtain ⟨m1, e1, i1, o1, t1, r1⟩ := m_puts (c := c) h hl
  exact ⟨m1, e1, i1, o1, t1⟩
theorem c_putR {v c : Nat} {L : Ln} (h : cInv m (wLi W L.1 L.2)) (hv : 1 ≤ v ∧ v ≤ 12) (hl : L.1 + v ≤ 12) (hc : c < 65536) : ∃ m', fX3_putRepeated_111 (z (v : Int)) (z (c : Int)) m = some m' ∧ cInv m' (wLi W (emL v c L).1 (emL v c L).2) ∧ cOut m m' := by
  have fin : ∀ (m1 : pmI) (L1 : Ln), cInv m1 (wLi W L1.1 L1.2) → L1.1 < 12 → ∃ m', jX3_putRepeated_111_35 (z (c : Int)) m1 = some m' ∧ cInv m' (wLi W (puL c L1).1 (puL c L1).2) ∧ cOut m1 m' := fun m1 L1 h1 hl1 => by
    obtain ⟨m2, e2, i2, o2⟩ := c_putL h1 hl1 hc
    unfold jX3_putRepeated_111_35
    rw [e2, obind]
    exact ⟨m2, rfl, i2, o2⟩
  have mid : ∀ (m1 : pmI) (L1 : Ln), 2 ≤ v → cInv m1 (wLi W L1.1 L1.2) → L1.1 < 11 → ∃ m', jX3_putRepeated_111_18 (z (v : Int)) (z (c : Int)) m1 = some m' ∧ cInv m' (wLi W (puL c (puL (48 + v % 10) L1)).1 (puL c (puL (48 + v % 10) L1)).2) ∧ cOut m1 m' := fun m1 L1 hv2 h1 hl1 => by
    obtain ⟨m2, e2, i2, o2⟩ := c_putL (c := 48 + v % 10) h1 (by omega) (by omega)
    obtain ⟨m3, e3, i3, o3⟩ := fin m2 (puL (48 + v % 10) L1) i2 (show L1.1 + 1 < 12 by omega)
    unfold jX3_putRepeated_111_18
    rw [if_neg (zge (by omega)), z_mod10 (by omega), z_add, show (48 : Int) + ((v % 10 : Nat) : Int) = ((48 + v % 10 : Nat) : Int) by omega, ch_z (by omega), e2, obind]
    exact ⟨m3, e3, i3, cOut_tr o2 o3⟩
  unfold fX3_putRepeated_111 emL
  by_cases h10 : 10 ≤ v
  · obtain ⟨m2, e2, i2, o2⟩ := c_putL (c := 48 + v / 10) h (by omega) (by omega)
    obtain ⟨m3, e3, i3, o3⟩ := mid m2 (puL (48 + v / 10) L) (by omega) i2 (show L.1 + 1 < 11 by omega)
    rw [if_neg (zge (by omega)), if_pos h10, if_pos (show 2 ≤ v by omega), show z 10 = z ((10 : Nat) : Int) from rfl, z_div (by omega), z_add, show (48 : Int) + ((v / 10 : Nat) : Int) = ((48 + v / 10 : Nat) : Int) by omega, ch_z (by omega), e2, obind]
    exact ⟨m3, e3, i3, cOut_tr o2 o3⟩
  · rw [if_pos (zlt (by omega)), if_neg h10]
    by_cases h2 : 2 ≤ v
    · obtain ⟨m3, e3, i3, o3⟩ := mid m L h2 h (by omega)
      rw [if_pos h2]
      exact ⟨m3, e3, i3, o3⟩
    · obtain ⟨m3, e3, i3, o3⟩ := fin m L h (by omega)
      rw [if_neg h2]
      unfold jX3_putRepeated_111_18
      rw [if_pos (zlt (by omega))]
      exact ⟨m3, e3, i3, o3⟩
theorem m_number {v : Nat} {L : Ln} (h : mInv m (wLi W L.1 L.2)) (hv : 2 ≤ v ∧ v ≤ 12) (hl : L.1 < 20) : ∃ m', fX9_number n (z (v : Int)) m = some m' ∧ mInv m' (wLi W (puL (48 + v % 10) (if 10 ≤ v then puL (48 + v / 10) L else L)).1 (puL (48 + v % 10) (if 10 ≤ v then puL (48 + v / 10) L else L)).2) ∧ mOut m m' ∧ m'.1 113 10 = m.1 113 10 := by
  have fin : ∀ (rec : Int32 → pmI → Option pmI) (u : Nat) (m1 : pmI) (L1 : Ln), u ≤ 12 → mInv m1 (wLi W L1.1 L1.2) → L1.1 < 29 → ∃ m', jX9_number_14 rec n (z (u : Int)) m1 = some m' ∧ mInv m' (wLi W (puL (48 + u % 10) L1).1 (puL (48 + u % 10) L1).2) ∧ mOut m1 m' ∧ m'.1 113 10 = m1.1 113 10 := fun rec u m1 L1 hu h1 hl1 => by
    obtain ⟨m2, e2, i2, o2, t2⟩ := m_putL (c := 48 + u % 10) h1 (by omega)
    unfold jX9_number_14
    rw [z_mod10 (by omega), z_add, show (48 : Int) + ((u % 10 : Nat) : Int) = ((48 + u % 10 : Nat) : Int) by omega, e2, obind]
    exact ⟨m2, rfl, i2, o2, t2⟩
  show ∃ m', hX9_number (fX9_numberK n 11) n (z (v : Int)) m = some m' ∧ _
  unfold hX9_number
  by_cases h10 : 10 ≤ v
  · rw [if_neg (zge (by omega)), if_pos h10, show z 10 = z ((10 : Nat) : Int) from rfl, z_div (by omega)]
    show ∃ m', ((hX9_number (fX9_numberK n 10) n (z ((v / 10 : Nat) : Int)) m).bind _) = some m' ∧ _
    unfold hX9_number
    rw [if_pos (zlt (by omega))]
    obtain ⟨m2, e2, i2, o2, t2⟩ := fin (fX9_numberK n 10) (v / 10) m L (by omega) h (by omega)
    rw [show 48 + v / 10 % 10 = 48 + v / 10 by omega] at i2
    obtain ⟨m3, e3, i3, o3, t3⟩ := fin (fX9_numberK n 11) v m2 (puL (48 + v / 10) L) (by omega) i2 (show L.1 + 1 < 29 by omega)
    rw [e2, obind]
    exact ⟨m3, e3, i3, mOut_tr o2 o3, t3.trans t2⟩
  · rw [if_pos (zlt (by omega)), if_neg h10]
    exact fin (fX9_numberK n 11) v m L (by omega) h (by omega)
theorem c_fig (w0 : wfA (wA W)) {g : Nat} (hg : g < 6) : ∀ (d s e q : Nat) (m : pmI) (L : Ln), e + d = aFl (wA W) g + 1 → d < q → s < e → (e ≤ aFl (wA W) g ∨ s = aFl (wA W) g) → L.1 ≤ s → cInv m (wLi W L.1 L.2) → ∃ m', lX8_writeFigure_l28 n (z (g : Int)) (z (aFl (wA W) g : Int)) q (z (s : Int)) (z (e : Int)) m = some m' ∧ cInv m' (wLi W (RC (aFm (wA W) g) (aFl (wA W) g) d s e L).1 (RC (aFm (wA W) g) (aFl (wA W) g) d s e L).2) ∧ cOut m m' ∧ (RC (aFm (wA W) g) (aFl (wA W) g) d s e L).1 ≤ 12
  | 0, s, e, q + 1, m, L, h1, _, h3, h4, h5, hC => by
    have wf := w0.2.2.2.2.2.1 g hg
    refine ⟨m, ?_, hC, cOut_rf, show L.1 ≤ 12 by omega⟩
    show bX8_writeFigure_l28 n (z (g : Int)) (z (aFl (wA W) g : Int)) (lX8_writeFigure_l28 n (z (g : Int)) (z (aFl (wA W) g : Int)) q) (z (s : Int)) (z (e : Int)) m = _
    unfold bX8_writeFigure_l28
    rw [if_pos (zlt (by omega))]
  | d + 1, s, e, q + 1, m, L, h1, h2, h3, h4, h5, hC => by
    have wf := w0.2.2.2.2.2.1 g hg
    have hse : s < aFl (wA W) g := by omega
    have hms := wf.2 s hse
    show ∃ m', bX8_writeFigure_l28 n (z (g : Int)) (z (aFl (wA W) g : Int)) (lX8_writeFigure_l28 n (z (g : Int)) (z (aFl (wA W) g : Int)) q) (z (s : Int)) (z (e : Int)) m = some m' ∧ _
    unfold bX8_writeFigure_l28 RC
    rw [if_neg (zge (by omega))]
    have flush : ¬ (e < aFl (wA W) g ∧ aFm (wA W) g e = aFm (wA W) g s) → ∃ m', jX8_writeFigure_66 n (z (g : Int)) (z (aFl (wA W) g : Int)) (lX8_writeFigure_l28 n (z (g : Int)) (z (aFl (wA W) g : Int)) q) (z (s : Int)) (z (e : Int)) m = some m' ∧ cInv m' (wLi W (RC (aFm (wA W) g) (aFl (wA W) g) d e (e + 1) (emL (e - s) (lrN (aFm (wA W) g s)) L)).1 (RC (aFm (wA W) g) (aFl (wA W) g) d e (e + 1) (emL (e - s) (lrN (aFm (wA W) g s)) L)).2) ∧ cOut m m' ∧ (RC (aFm (wA W) g) (aFl (wA W) g) d e (e + 1) (emL (e - s) (lrN (aFm (wA W) g s)) L)).1 ≤ 12 := fun _ => by
      have hle := emL_le (n := e - s) (c := lrN (aFm (wA W) g s)) (L := L) (by omega) (by omega)
      obtain ⟨m1, e1, i1, o1⟩ := c_putR (v := e - s) (c := lrN (aFm (wA W) g s)) hC (by omega) (by omega) (lrN_lt _ hms)
      obtain ⟨m2, e2, i2, o2, l2⟩ := c_fig w0 hg d e (e + 1) q m1 (emL (e - s) (lrN (aFm (wA W) g s)) L) (by omega) (by omega) (by omega) (by omega) (by omega) i1
      unfold jX8_writeFigure_66 jX8_writeFigure_67
      rw [if_pos rfl, c_moveAt (A := wA W) hC.1 w0 hg hse, obind, f_moveLetter' hms, obind, z_sub, show (e : Int) - (s : Int) = ((e - s : Nat) : Int) by omega, e1, obind, z_add]
      exact ⟨m2, e2, i2, cOut_tr o1 o2, l2⟩
    by_cases he : e < aFl (wA W) g
    · have hme := wf.2 e he
      rw [if_pos (zlt (by omega)), c_moveAt (A := wA W) hC.1 w0 hg he, obind, c_moveAt (A := wA W) hC.1 w0 hg hse, obind]
      by_cases eq : aFm (wA W) g e = aFm (wA W) g s
      · rw [if_pos (by rw [eq]), if_pos ⟨he, eq⟩]
        obtain ⟨m2, e2, i2, o2, l2⟩ := c_fig w0 hg d s (e + 1) q m L (by omega) (by omega) (by omega) (by omega) h5 hC
        unfold jX8_writeFigure_67
        rw [if_neg z10, z_add]
        exact ⟨m2, e2, i2, o2, l2⟩
      · rw [if_neg (zne (by omega)), if_neg (fun h => eq h.2)]
        exact flush (fun h => eq h.2)
    · rw [if_neg (zge (by omega)), if_neg (fun h => he h.1)]
      exact flush (fun h => he h.1)
theorem m_moveOf {A : Ab} (h : repR (m.1 114) A) (w0 : wfA A) {g b : Nat} (hg : g < 6) (hb : b < aFl A g) : fX9_moveOf (z (g : Int)) (z (b : Int)) m = some (z (letr (aFm A g b))) := by
  have wf := w0.2.2.2.2.2.1 g hg
  unfold fX9_moveOf
  rw [z_mul, z_add, z_add, z_add, if_pos (okI_z (by omega)), z_natI (by omega), show (104 + 13 * (g : Int) + 1 + (b : Int)).toNat = 104 + 13 * g + 1 + b by omega, (h.2.2.1 g hg).2 b hb]
/-- the model's inner loop: the end of a run -/
theorem m_run {A : Ab} (h : repR (m.1 114) A) (w0 : wfA A) {g s : Nat} (hg : g < 6) (hs : s < aFl A g) : ∀ (d e q : Nat), e + d = aFl A g → d < q → s ≤ e → ∃ e' : Nat, lX9_writeFigure_l48 n (z (g : Int)) (z (letr (aFm A g s))) m q (z (e : Int)) (z ((e - s : Nat) : Int)) = some (z (e' : Int), z ((e' - s : Nat) : Int)) ∧ e ≤ e' ∧ e' ≤ aFl A g ∧ (s < e → ∀ L, RC (aFm A g) (aFl A g) (d + 1) s e L = RC (aFm A g) (aFl A g) (aFl A g - e') e' (e' + 1) (emL (e' - s) (lrN (aFm A g s)) L)) ∧ (e = s → s < e' ∧ ∀ L, RC (aFm A g) (aFl A g) d s (s + 1) L = RC (aFm A g) (aFl A g) (aFl A g - e') e' (e' + 1) (emL (e' - s) (lrN (aFm A g s)) L))
  | 0, e, q + 1, h1, _, h3 => by
    have wf := w0.2.2.2.2.2.1 g hg
    refine ⟨e, ?_, Nat.le_refl _, by omega, fun _ L => ?_, fun h => by omega⟩
    · show bX9_writeFigure_l48 n _ _ m (lX9_writeFigure_l48 n _ _ m q) (z (e : Int)) _ = _
      unfold bX9_writeFigure_l48
      rw [m_many h hg, obind, if_neg (zge (by omega))]
    · show (if e < aFl A g ∧ _ then _ else _) = _
      rw [if_neg (by omega), show aFl A g - e = 0 by omega]
  | d + 1, e, q + 1, h1, h2, h3 => by
    have wf := w0.2.2.2.2.2.1 g hg
    have he : e < aFl A g := by omega
    have hme := wf.2 e he
    have hms := wf.2 s hs
    by_cases eq : aFm A g e = aFm A g s
    · obtain ⟨e', r1, r2, r3, r4, r5⟩ := m_run h w0 hg hs d (e + 1) q (by omega) (by omega) (by omega)
      refine ⟨e', ?_, by omega, r3, fun h9 L => ?_, fun h => ⟨by omega, fun L => by rw [← r4 (by omega) L, h]⟩⟩
      · show bX9_writeFigure_l48 n _ _ m (lX9_writeFigure_l48 n _ _ m q) (z (e : Int)) _ = _
        unfold bX9_writeFigure_l48
        rw [m_many h hg, obind, if_pos (zlt (by omega)), m_moveOf h w0 hg he, obind, if_pos (by rw [eq]), z_add, z_add, show ((e - s : Nat) : Int) + 1 = ((e + 1 - s : Nat) : Int) by omega]
        exact r1
      · rw [← r4 (by omega) L]
        show (if e < aFl A g ∧ _ then _ else _) = _
        rw [if_pos ⟨he, eq⟩]
    · refine ⟨e, ?_, Nat.le_refl _, by omega, fun h9 L => ?_, fun h => by rw [h] at eq; exact absurd rfl eq⟩
      · show bX9_writeFigure_l48 n _ _ m (lX9_writeFigure_l48 n _ _ m q) (z (e : Int)) _ = _
        unfold bX9_writeFigure_l48
        rw [m_many h hg, obind, if_pos (zlt (by omega)), m_moveOf h w0 hg he, obind, if_neg (fun hh => eq (letr_inj _ hme _ hms hh))]
      · show (if e < aFl A g ∧ _ then _ else _) = _
        rw [if_neg (fun h => eq h.2), show aFl A g - e = d + 1 by omega]
theorem m_fig (w0 : wfA (wA W)) (hn : 60 ≤ n) {g : Nat} (hg : g < 6) : ∀ (q s : Nat) (m : pmI) (L : Ln), s ≤ aFl (wA W) g → aFl (wA W) g - s < q → L.1 ≤ s → mInv m (wLi W L.1 L.2) → ∃ m', lX9_writeFigure_l29 n (z (g : Int)) q (z (s : Int)) m = some m' ∧ mInv m' (wLi W (RC (aFm (wA W) g) (aFl (wA W) g) (aFl (wA W) g - s) s (s + 1) L).1 (RC (aFm (wA W) g) (aFl (wA W) g) (aFl (wA W) g - s) s (s + 1) L).2) ∧ mOut m m' ∧ m'.1 113 10 = m.1 113 10
  | q + 1, s, m, L, h1, h2, h3, hC => by
    have wf := w0.2.2.2.2.2.1 g hg
    have hR : repR (m.1 114) (wA W) := hC.1
    show ∃ m', bX9_writeFigure_l29 n (z (g : Int)) (lX9_writeFigure_l29 n (z (g : Int)) q) (z (s : Int)) m = some m' ∧ _
    unfold bX9_writeFigure_l29
    rw [m_many hR hg, obind]
    by_cases hs : s < aFl (wA W) g
    · rw [if_pos (zlt (by omega)), m_moveOf hR w0 hg hs, obind]
      have hms := wf.2 s hs
      obtain ⟨e', r1, r2, r3, r4, r5⟩ := m_run (n := n) hR w0 hg hs (aFl (wA W) g - s) s n (by omega) (by omega) (Nat.le_refl _)
      obtain ⟨hse, r6⟩ := r5 rfl
      rw [show z ((s - s : Nat) : Int) = z 0 by rw [Nat.sub_self]; rfl] at r1
      rw [r1, obind, r6 L]
      dsimp only
      have hle := emL_le (n := e' - s) (c := lrN (aFm (wA W) g s)) (L := L) (by omega) (by omega)
      have last : ∀ (m1 : pmI) (L1 : Ln), mInv m1 (wLi W L1.1 L1.2) → L1.1 < 20 → (puL (lrN (aFm (wA W) g s)) L1) = emL (e' - s) (lrN (aFm (wA W) g s)) L → ∃ m', jX9_writeFigure_88 n (z (g : Int)) (lX9_writeFigure_l29 n (z (g : Int)) q) (z (e' : Int)) (z (letr (aFm (wA W) g s))) m1 = some m' ∧ mInv m' (wLi W (RC (aFm (wA W) g) (aFl (wA W) g) (aFl (wA W) g - e') e' (e' + 1) (emL (e' - s) (lrN (aFm (wA W) g s)) L)).1 (RC (aFm (wA W) g) (aFl (wA W) g) (aFl (wA W) g - e') e' (e' + 1) (emL (e' - s) (lrN (aFm (wA W) g s)) L)).2) ∧ mOut m1 m' ∧ m'.1 113 10 = m1.1 113 10 := fun m1 L1 i1 l1 eL => by
        obtain ⟨m2, e2, i2, o2, t2⟩ := m_putL (c := lrN (aFm (wA W) g s)) i1 (by omega)
        rw [eL] at i2
        obtain ⟨m3, e3, i3, o3, t3⟩ := m_fig w0 hn hg q e' m2 (emL (e' - s) (lrN (aFm (wA W) g s)) L) r3 (by omega) (by omega) i2
        unfold jX9_writeFigure_88
        rw [lrN_z _ hms, e2, obind]
        exact ⟨m3, e3, i3, mOut_tr o2 o3, t3.trans t2⟩
      unfold jX9_writeFigure_76
      by_cases h2 : 2 ≤ e' - s
      · rw [if_pos (zlt (by omega))]
        obtain ⟨m2, e2, i2, o2, t2⟩ := m_number (n := n) (v := e' - s) hC (by omega) (by omega)
        rw [e2, obind]
        obtain ⟨m3, e3, i3, o3, t3⟩ := last m2 _ i2 (by
          show (if 10 ≤ e' - s then puL (48 + (e' - s) / 10) L else L).1 + 1 < 20
          split
          · show L.1 + 1 + 1 < 20
            omega
          · omega) (by
          unfold emL
          rw [if_pos h2])
        exact ⟨m3, e3, i3, mOut_tr o2 o3, t3.trans t2⟩
      · rw [if_neg (zge (by omega))]
        exact last m L hC (by omega) (by
          unfold emL
          rw [if_neg h2])
    · rw [if_neg (zge (by omega)), show aFl (wA W) g - s = 0 by omega]
      exact ⟨m, rfl, hC, ⟨fun _ _ => rfl, rfl⟩, rfl⟩
theorem law_writeFigure (hn : 200 ≤ n) (h : cInv m W) (hM : mInv m W) (hB : wB W k) (q1 : okI (i5 + (z 1)) E.1 = true) : Sgo (jL_law_99998_2501 E n self i5 m D w) self i5 w k := by
  unfold jL_law_99998_2501
  obtain ⟨x, hx, ex⟩ := z_of (E.2.1 (Int32.toNatClampNeg (i5 + (z 1))))
  simp only [q1, if_true, ex]
  unfold fL_writeFigure_0_127 fX8_writeFigure
  rw [c_figF hx, obind]
  by_cases hg : 0 ≤ x ∧ x < 6
  · obtain ⟨g, rfl⟩ : ∃ g : Nat, x = (g : Int) := ⟨x.toNat, by omega⟩
    have hg6 : g < 6 := by omega
    have wf := h.2.1.2.2.2.2.2.1 g hg6
    rw [if_pos (figB_t hg), tf0, obind, oT_l]
    obtain ⟨m1, e1, i1, o1⟩ := c_lineEmpty (f := fun _ => 0) h
    obtain ⟨m2, e2, i2, o2, l2⟩ := c_fig (n := n) h.2.1 hg6 (aFl (wA W) g) 0 1 n m1 (0, fun _ => 0) (by omega) (by omega) (by omega) (by omega) (Nat.le_refl _) i1
    obtain ⟨L, hL⟩ : ∃ L, RC (aFm (wA W) g) (aFl (wA W) g) (aFl (wA W) g) 0 1 (0, fun _ => 0) = L := ⟨_, rfl⟩
    rw [hL] at i2 l2
    have c2 : m2.1 111 1 = z (L.1 : Int) := i2.2.2.2.2.2.1.2.1
    rw [e1, obind, c_movesIn (A := wA W) i1.1 hg6, obind, show z 0 = z ((0 : Nat) : Int) from rfl, show z 1 = z ((1 : Nat) : Int) from rfl, e2, obind, c2]
    refine law_caseQ (c := 0) (t := z (L.1 : Int)) (t' := z (L.1 : Int)) (fm := fX9_writeFigure n (z (g : Int))) (W' := wLi W L.1 L.2) (l_helpQ (ex := 0) ⟨m2, rfl, cOut_tr o1 o2, i2⟩ hM (fun m2 h => absurd rfl h)) (fun m3 h3 => ?_) (fun _ => rfl) (wB_up (W := wLi W L.1 L.2) hB (by omega)) (by omega)
    obtain ⟨m4, e4, t4, o4, i4⟩ := mQ_fin 1 h3
    obtain ⟨m5, e5, i5', o5, t5, r5⟩ := m_lineEmpty (f := fun _ => 0) i4
    obtain ⟨m6, e6, i6, o6, t6⟩ := m_fig (n := n) h.2.1 (by omega) hg6 n 0 m5 (0, fun _ => 0) (by omega) (by omega) (Nat.le_refl _) i5'
    rw [Nat.sub_zero, hL] at i6
    have c6 : m6.1 113 18 = z (L.1 : Int) := i6.2.2.2.2.1.1
    unfold fX9_writeFigure jX9_writeFigure_13
    rw [(m_isFig hx m3).1 hg, obind, if_neg z10, e4, obind]
    dsimp only
    rw [if_pos rfl, pmLet_eq, e5, show z 0 = z ((0 : Nat) : Int) from rfl, e6, obind, c6]
    exact ⟨m6, rfl, by rw [t6, t5]; exact t4, mOut_tr o4 (mOut_tr o5 o6), i6⟩
  · rw [if_neg (by rw [figB_f hg]; decide), tf1, obind, oT_r]
    refine law_caseQ (c := 1) (t := z 0) (t' := z 0) (fm := fX9_writeFigure n (z x)) (W' := W) (l_helpQ (W' := W) (ex := 0) ⟨m, rfl, cOut_rf, h⟩ hM (fun m2 _ => rfl)) (fun m1 h1 => ?_) (fun h => absurd h (by decide)) (wB_up hB (by omega)) (by omega)
    obtain ⟨m2, e2, t2, o2, i2⟩ := mQ_thr (c := 1) h1
    unfold fX9_writeFigure jX9_writeFigure_13
    rw [(m_isFig hx m1).2 hg, obind, if_pos rfl, e2, obind]
    dsimp only
    rw [if_neg z10]
    exact ⟨m2, rfl, t2, o2, i2⟩
end LAW13
