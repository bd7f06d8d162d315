/-! the model: figures and exits -/
def figB (f : Int) : Bool := decide (0 ≤ f) && decide (f < 6)
theorem figB_t {f : Int} (h : 0 ≤ f ∧ f < 6) : figB f = true := by
  unfold figB
  rw [decide_eq_true h.1, decide_eq_true h.2]
  rfl
theorem figB_f {f : Int} (h : ¬ (0 ≤ f ∧ f < 6)) : figB f = false := by
  unfold figB
  rw [← Bool.not_eq_true]
  simp only [Bool.and_eq_true, decide_eq_true_eq]
  omega
/-- a move by its letter -/
def mvIx (c : Int) : Option Nat := if c = 85 then some 0 else if c = 68 then some 1 else if c = 76 then some 2 else if c = 82 then some 3 else if c = 83 then some 4 else none
theorem mvIx_some {c : Int} {v : Nat} (h : mvIx c = some v) : v < 5 ∧ letr v = c := by
  unfold mvIx at h
  unfold letr
  split at h
  · cases h; exact ⟨by decide, by rename_i e; rw [e]; rfl⟩
  · split at h
    · cases h; exact ⟨by decide, by rename_i e; rw [e]; rfl⟩
    · split at h
      · cases h; exact ⟨by decide, by rename_i e; rw [e]; rfl⟩
      · split at h
        · cases h; exact ⟨by decide, by rename_i e; rw [e]; rfl⟩
        · split at h
          · cases h; exact ⟨by decide, by rename_i e; rw [e]; rfl⟩
          · cases h
def sAppend (A : Ab) (f c : Int) : Int × Int × Ab :=
  if figB f = true then (match mvIx c with
    | none => (2, 0, A)
    | some v => if aFl A f.toNat = 12 then (3, 0, A) else (0, ((aFl A f.toNat + 1 : Nat) : Int), uFg A (fun g => if g = f.toNat then aFl A f.toNat + 1 else aFl A g) (fun g b => if g = f.toNat ∧ b = aFl A f.toNat then v else aFm A g b))) else (1, 0, A)
def sClear (A : Ab) (f : Int) : Int × Int × Ab :=
  if figB f = true then (0, ((aFl A f.toNat : Nat) : Int), uFg A (fun g => if g = f.toNat then 0 else aFl A g) (aFm A)) else (1, 0, A)
/-- the exit on a cell -/
def xspot (A : Ab) (c : Int) : Option Nat := ff (fun k => decide ((aEx A k : Int) = c)) (aEn A) 0
def sOpen (A : Ab) (x y : Int) : Int × Int × Ab :=
  if isCb x y = true then (if ¬ xspot A (8 * y + x) = none ∨ aEn A = 6 then (2, 0, A) else (0, ((aEn A : Nat) : Int), uEx A (aEn A + 1) (fun k => if k = aEn A then (8 * y + x).toNat else aEx A k))) else (1, 0, A)
section OPS4
variable {m : pmI} {A : Ab} {n : Nat}
theorem m_isFig {f : Int} (hf : -2147483648 ≤ f ∧ f < 2147483648) (m : pmI) : (0 ≤ f ∧ f < 6 → fX9_isFigure (z f) m = some (z 1)) ∧ (¬ (0 ≤ f ∧ f < 6) → fX9_isFigure (z f) m = some (z 0)) := by
  unfold fX9_isFigure
  refine ⟨fun h => ?_, fun h => ?_⟩
  · rw [m_in (by omega), obind, if_pos (Or.inr rfl)]
  · rw [m_out (by omega), obind, if_pos (Or.inl rfl)]
theorem m_isMove {c : Int} (hc : -2147483648 ≤ c ∧ c < 2147483648) (m : pmI) : fX9_isMove (z c) m = some (if mvIx c = none then z 0 else z 1) := by
  unfold fX9_isMove mvIx
  simp (disch := omega) only [z_eq]
  split
  · rfl
  · split
    · rfl
    · split
      · rfl
      · split
        · rfl
        · split <;> rfl
theorem m_many (h : repR (m.1 114) A) {f : Nat} (hf : f < 6) : fX9_many (z (f : Int)) m = some (z (aFl A f)) := by
  unfold fX9_many
  rw [z_mul, z_add, if_pos (okI_z (by omega)), z_natI (by omega), show (104 + 13 * (f : Int)).toNat = 104 + 13 * f by omega, (h.2.2.1 f hf).1]
theorem m_appends (h : repR (m.1 114) A) (w : wfA A) {f c : Int} (hf : -2147483648 ≤ f ∧ f < 2147483648) (hc : -2147483648 ≤ c ∧ c < 2147483648) : mRes m (fX9_appends (z f) (z c) m) (sAppend A f c) := by
  unfold fX9_appends sAppend
  by_cases hg : 0 ≤ f ∧ f < 6
  · obtain ⟨g, rfl⟩ : ∃ g : Nat, f = (g : Int) := ⟨f.toNat, by omega⟩
    have hg6 : g < 6 := by omega
    have w12 := (w.2.2.2.2.2.1 g hg6).1
    obtain ⟨m1, e1, t1, f1, r1⟩ := m_t0 (m := m) (z 1)
    have h1 : repR (m1.1 114) A := (r1 ▸ h)
    rw [(m_isFig hf m).1 hg, obind, if_neg z10, if_pos (figB_t hg), Int.toNat_natCast]
    unfold jX9_appends_13
    rw [e1, obind]
    dsimp only
    rw [if_pos rfl, m_isMove hc, obind]
    cases hv : mvIx c with
    | none =>
      rw [if_pos rfl, if_pos rfl]
      obtain ⟨m2, e2, t2, f2, r2⟩ := m_t1 (m := m1) (z 2)
      unfold jX9_appends_33
      rw [e2, obind]
      dsimp only
      rw [if_neg z10]
      exact ⟨m2, rfl, t2, mfr_tr f1 f2, (r2 ▸ h1)⟩
    | some v =>
      have hv2 := mvIx_some hv
      rw [if_neg (fun h => nomatch h)]
      dsimp only
      obtain ⟨m2, e2, t2, f2, r2⟩ := m_t0 (m := m1) (z 2)
      have h2 : repR (m2.1 114) A := (r2 ▸ h1)
      unfold jX9_appends_33
      rw [e2, obind]
      dsimp only
      rw [if_pos rfl, m_many h2 hg6, obind]
      by_cases e12 : aFl A g = 12
      · rw [e12, if_pos rfl, if_pos (show z ((12 : Nat) : Int) = z 12 from rfl)]
        obtain ⟨m3, e3, t3, f3, r3⟩ := m_t1 (m := m2) (z 3)
        unfold jX9_appends_56
        rw [e3, obind]
        dsimp only
        rw [if_neg z10]
        exact ⟨m3, rfl, t3, mfr_tr f1 (mfr_tr f2 f3), (r3 ▸ h2)⟩
      · rw [if_neg (zne (by omega)), if_neg e12]
        obtain ⟨m3, e3, t3, f3, r3⟩ := m_t0 (m := m2) (z 3)
        have h3 : repR (m3.1 114) A := (r3 ▸ h2)
        unfold jX9_appends_56
        rw [e3, obind]
        dsimp only
        rw [if_pos rfl, m_many h3 hg6, obind, z_mul, z_add, z_add, z_add, if_pos (okI_z (by omega)), pmLet_eq, z_natI (by omega), show (104 + 13 * (g : Int) + 1 + (aFl A g : Int)).toNat = 104 + 13 * g + 1 + aFl A g by omega]
        obtain ⟨m4, e4, f4, t4, r4⟩ := m_w m3 (104 + 13 * g + 1 + aFl A g) (z c)
        rw [e4, if_pos ⟨okI_z (by omega), okI_z (by omega)⟩, pmLet_eq, z_natI (by omega), show (104 + 13 * (g : Int)).toNat = 104 + 13 * g by omega]
        obtain ⟨m5, e5, f5, t5, r5⟩ := m_w m4 (104 + 13 * g) (m4.1 114 (104 + 13 * g) + z 1)
        rw [e5]
        have c5 : m5.1 114 (104 + 13 * g) = z ((aFl A g + 1 : Nat) : Int) := by
          rw [r5, if_pos rfl, r4, if_neg (by omega), (h3.2.2.1 g hg6).1, z_add]
          rfl
        have kk : ∀ q, ¬ q = 104 + 13 * g → ¬ q = 104 + 13 * g + 1 + aFl A g → m5.1 114 q = m3.1 114 q := fun q h1 h2 => by rw [r5, if_neg h1, r4, if_neg h2]
        have h5 : repR (m5.1 114) (uFg A (fun q => if q = g then aFl A g + 1 else aFl A q) (fun q b => if q = g ∧ b = aFl A g then v else aFm A q b)) := by
          refine ⟨rP_fr (A := A) h3.1 (kk _ (by omega) (by omega)) (fun q h1 h2 => kk q (by omega) (by omega)), rD_fr (A := A) h3.2.1 w.1 (fun q h1 => kk q (by omega) (by omega)), fun q hq => ?_, rE_fr (A := A) h3.2.2.2.1 w.2.2.2.2.2.2.1 (fun q hb => kk q (by omega) (by omega)), rM_fr (A := A) h3.2.2.2.2 (fun q h1 h2 => kk q (by omega) (by omega))⟩
          show m5.1 114 (104 + 13 * q) = z (((if q = g then aFl A g + 1 else aFl A q : Nat)) : Int) ∧ ∀ b, b < (if q = g then aFl A g + 1 else aFl A q) → m5.1 114 (104 + 13 * q + 1 + b) = z (letr (if q = g ∧ b = aFl A g then v else aFm A q b))
          have w12q := (w.2.2.2.2.2.1 q hq).1
          by_cases eq : q = g
          · subst eq
            rw [if_pos rfl]
            refine ⟨c5, fun b hb => ?_⟩
            by_cases eb : b = aFl A q
            · rw [if_pos ⟨rfl, eb⟩, hv2.2, r5, if_neg (by omega), r4, if_pos (by omega)]
            · rw [if_neg (fun h => eb h.2), kk _ (by omega) (by omega)]
              exact (h3.2.2.1 q hq).2 b (by omega)
          · rw [if_neg eq]
            refine ⟨(kk _ (by omega) (by omega)).trans (h3.2.2.1 q hq).1, fun b hb => ?_⟩
            rw [if_neg (fun h => eq h.1), kk _ (by omega) (by omega)]
            exact (h3.2.2.1 q hq).2 b hb
        have mm := m_many h5 hg6
        have e9 : aFl (uFg A (fun q => if q = g then aFl A g + 1 else aFl A q) (fun q b => if q = g ∧ b = aFl A g then v else aFm A q b)) g = aFl A g + 1 := if_pos rfl
        rw [e9] at mm
        rw [mm, obind]
        exact ⟨m5, rfl, by rw [t5, t4]; exact t3, mfr_tr (mfr_tr f1 f2) (mfr_tr f3 (mfr_tr f4 f5)), h5⟩
  · obtain ⟨m1, e1, t1, f1, r1⟩ := m_t1 (m := m) (z 1)
    rw [(m_isFig hf m).2 hg, obind, if_pos rfl, if_neg (by rw [figB_f hg]; decide)]
    unfold jX9_appends_13
    rw [e1, obind]
    dsimp only
    rw [if_neg z10]
    exact ⟨m1, rfl, t1, f1, (r1 ▸ h)⟩
theorem m_clears (h : repR (m.1 114) A) (w : wfA A) (hn : 20 ≤ n) {f : Int} (hf : -2147483648 ≤ f ∧ f < 2147483648) : mRes m (fX9_clears n (z f) m) (sClear A f) := by
  unfold fX9_clears sClear
  by_cases hg : 0 ≤ f ∧ f < 6
  · obtain ⟨g, rfl⟩ : ∃ g : Nat, f = (g : Int) := ⟨f.toNat, by omega⟩
    have hg6 : g < 6 := by omega
    obtain ⟨m1, e1, t1, f1, r1⟩ := m_t0 (m := m) (z 1)
    have h1 : repR (m1.1 114) A := (r1 ▸ h)
    rw [(m_isFig hf m).1 hg, obind, if_neg z10, if_pos (figB_t hg), Int.toNat_natCast]
    unfold jX9_clears_13
    rw [e1, obind]
    dsimp only
    rw [if_pos rfl, m_many h1 hg6, obind]
    have L := forI (lX9_clears_l30 n (z (g : Int)) (z (aFl A g : Int))) 13 (fun i s => mfr m1 s ∧ s.1 113 = m1.1 113 ∧ (0 < i → s.1 114 (104 + 13 * g) = z 0) ∧ ∀ b, ¬ (104 + 13 * g ≤ b ∧ b < 117 + 13 * g) → s.1 114 b = m1.1 114 b) (fun r => ∃ m2, r = some m2 ∧ mfr m1 m2 ∧ m2.1 113 = m1.1 113 ∧ m2.1 114 (104 + 13 * g) = z 0 ∧ ∀ b, ¬ (104 + 13 * g ≤ b ∧ b < 117 + 13 * g) → m2.1 114 b = m1.1 114 b) (fun q i s hi hs => by
      obtain ⟨s1, s2, s3, s4⟩ := hs
      obtain ⟨s', e', f', t', r'⟩ := m_w s (104 + 13 * g + i) (z 0)
      refine ⟨s', ⟨mfr_tr s1 f', t'.trans s2, fun _ => ?_, fun b hb => ?_⟩, ?_⟩
      · rw [r']
        by_cases e : i = 0
        · rw [if_pos (by omega)]
        · rw [if_neg (by omega)]
          exact s3 (by omega)
      · rw [r', if_neg (by omega)]
        exact s4 b hb
      · show bX9_clears_l30 n (z (g : Int)) (z (aFl A g : Int)) (lX9_clears_l30 n (z (g : Int)) (z (aFl A g : Int)) q) (z (i : Int)) s = _
        unfold bX9_clears_l30
        rw [if_pos (zlt (by omega)), z_mul, z_add, z_add, if_pos (okI_z (by omega)), pmLet_eq, z_natI (by omega), show (104 + 13 * (g : Int) + (i : Int)).toNat = 104 + 13 * g + i by omega, e', z_add]) (fun q s hs => by
      obtain ⟨s1, s2, s3, s4⟩ := hs
      refine ⟨s, ?_, s1, s2, s3 (by omega), s4⟩
      show bX9_clears_l30 n (z (g : Int)) (z (aFl A g : Int)) (lX9_clears_l30 n (z (g : Int)) (z (aFl A g : Int)) q) (z ((13 : Nat) : Int)) s = _
      unfold bX9_clears_l30
      rw [if_neg (zge (by omega))]) 13 0 n m1 (by omega) (by omega) ⟨mfr_rf, rfl, fun h => absurd h (by omega), fun _ _ => rfl⟩
    obtain ⟨m2, e2, f2, t2, c2, r2⟩ := L
    rw [show z 0 = z ((0 : Nat) : Int) from rfl, e2, obind]
    refine ⟨m2, rfl, by rw [t2]; exact t1, mfr_tr f1 f2, rP_fr (A := A) h1.1 (r2 _ (by omega)) (fun q h1 h2 => r2 q (by omega)), rD_fr (A := A) h1.2.1 w.1 (fun q h1 => r2 q (by omega)), fun q hq => ?_, rE_fr (A := A) h1.2.2.2.1 w.2.2.2.2.2.2.1 (fun q hb => r2 q (by omega)), rM_fr (A := A) h1.2.2.2.2 (fun q h1 h2 => r2 q (by omega))⟩
    show m2.1 114 (104 + 13 * q) = z (((if q = g then 0 else aFl A q : Nat)) : Int) ∧ ∀ b, b < (if q = g then 0 else aFl A q) → m2.1 114 (104 + 13 * q + 1 + b) = z (letr (aFm A q b))
    have w12q := (w.2.2.2.2.2.1 q hq).1
    by_cases eq : q = g
    · rw [if_pos eq, eq]
      exact ⟨c2, fun b hb => absurd hb (by omega)⟩
    · rw [if_neg eq]
      exact ⟨(r2 _ (by omega)).trans (h1.2.2.1 q hq).1, fun b hb => (r2 _ (by omega)).trans ((h1.2.2.1 q hq).2 b hb)⟩
  · obtain ⟨m1, e1, t1, f1, r1⟩ := m_t1 (m := m) (z 1)
    rw [(m_isFig hf m).2 hg, obind, if_pos rfl, if_neg (by rw [figB_f hg]; decide)]
    unfold jX9_clears_13
    rw [e1, obind]
    dsimp only
    rw [if_neg z10]
    exact ⟨m1, rfl, t1, f1, (r1 ▸ h)⟩
theorem m_hasExit (h : repR (m.1 114) A) (w : wfA A) (hn : 20 ≤ n) {d : Int} (hd : -2147483648 ≤ d ∧ d < 2147483648) : fX9_hasExit n (z d) m = some (if xspot A d = none then z 0 else z 1) := by
  have w6 := w.2.2.2.2.2.2.1
  have w7 := w.2.2.2.2.2.2.2.1
  unfold fX9_hasExit
  have e := srch (lX9_hasExit_l2 n (z d) m) (aEn A) (fun k => decide ((aEx A k : Int) = d)) (fun _ => z 1) (fun k i hi => by
    show bX9_hasExit_l2 n (z d) m (lX9_hasExit_l2 n (z d) m k) (z (i : Int)) = _
    unfold bX9_hasExit_l2
    have hw := w7 i hi
    rw [h.2.2.2.1.1, if_pos (zlt (by omega)), z_add, if_pos (okI_z (by omega)), z_natI (by omega), show (182 + (i : Int)).toNat = 182 + i by omega, h.2.2.2.1.2 i hi, z_add]
    simp (disch := omega) only [z_eq, decide_eq_true_eq]) (fun k => by
    show bX9_hasExit_l2 n (z d) m (lX9_hasExit_l2 n (z d) m k) (z (aEn A : Int)) = _
    unfold bX9_hasExit_l2
    rw [h.2.2.2.1.1, if_neg (zge (by omega))]) (aEn A) 0 n (by omega) (by omega)
  rw [show z 0 = z ((0 : Nat) : Int) from rfl, e]
  unfold xspot
  cases ff (fun k => decide ((aEx A k : Int) = d)) (aEn A) 0 <;> rfl
theorem m_opens (h : repR (m.1 114) A) (w : wfA A) (hn : 20 ≤ n) {x y : Int} (hx : -2147483648 ≤ x ∧ x < 2147483648) (hy : -2147483648 ≤ y ∧ y < 2147483648) : mRes m (fX9_opens n (z x) (z y) m) (sOpen A x y) := by
  have w6 := w.2.2.2.2.2.2.1
  unfold fX9_opens sOpen
  by_cases hc : isC x y
  · obtain ⟨m1, e1, t1, f1, r1⟩ := m_t0 (m := m) (z 1)
    have h1 : repR (m1.1 114) A := (r1 ▸ h)
    rw [(m_isCell hx hy m).1 hc, obind, if_neg z10, if_pos (isCb_t hc)]
    unfold jX9_opens_14
    rw [e1, obind]
    dsimp only
    obtain ⟨c, hc1, hc2, hc3⟩ := isC_nat hc
    rw [if_pos rfl, z_mul, z_add, hc3, hc2, Int.toNat_natCast, m_hasExit h1 w hn (by omega), obind]
    have key : mRes m (jX9_opens_46 n (z x) (z y) m1) (2, 0, A) := by
      obtain ⟨m2, e2, t2, f2, r2⟩ := m_t1 (m := m1) (z 2)
      unfold jX9_opens_46 jX9_opens_51
      rw [e2, obind]
      dsimp only
      rw [if_neg z10]
      exact ⟨m2, rfl, t2, mfr_tr f1 f2, (r2 ▸ h1)⟩
    by_cases hf : xspot A c = none
    · rw [if_pos hf, if_pos rfl]
      by_cases e6 : aEn A = 6
      · rw [if_pos (Or.inr e6), if_pos (show m1.1 114 3 = z 6 by rw [h1.2.2.2.1.1, e6]; rfl)]
        exact key
      · rw [if_neg (fun h => Or.elim h (fun h => h hf) e6), if_neg (show ¬ m1.1 114 3 = z 6 by rw [h1.2.2.2.1.1]; exact zne (by omega))]
        obtain ⟨m2, e2, t2, f2, r2⟩ := m_t0 (m := m1) (z 2)
        have h2 : repR (m2.1 114) A := (r2 ▸ h1)
        have d2 : m2.1 114 3 = z (aEn A) := h2.2.2.2.1.1
        unfold jX9_opens_51
        rw [e2, obind]
        dsimp only
        rw [if_pos rfl, d2, z_add, if_pos (okI_z (by omega)), pmLet_eq, pmLet_eq, z_natI (by omega), show (182 + (aEn A : Int)).toNat = 182 + aEn A by omega]
        obtain ⟨m3, e3, f3, t3, r3⟩ := m_w m2 (182 + aEn A) (z x + z 8 * z y)
        rw [e3]
        obtain ⟨m4, e4, f4, t4, r4⟩ := m_w m3 3 (m3.1 114 3 + z 1)
        rw [e4]
        have c4 : m4.1 114 3 = z ((aEn A + 1 : Nat) : Int) := by
          rw [r4, if_pos rfl, r3, if_neg (by omega), d2, z_add]
          rfl
        have kk : ∀ q, ¬ q = 3 → ¬ q = 182 + aEn A → m4.1 114 q = m2.1 114 q := fun q h1 h2 => by rw [r4, if_neg h1, r3, if_neg h2]
        refine ⟨m4, ?_, by rw [t4, t3]; exact t2, mfr_tr (mfr_tr f1 f2) (mfr_tr f3 f4), rP_fr (A := A) h2.1 (kk _ (by omega) (by omega)) (fun q h1 h2 => kk q (by omega) (by omega)), rD_fr (A := A) h2.2.1 w.1 (fun q h1 => kk q (by omega) (by omega)), rF_fr (A := A) h2.2.2.1 (fun f hf => (w.2.2.2.2.2.1 f hf).1) (fun q h1 h2 => kk q (by omega) (by omega)), ⟨c4, fun k hk => ?_⟩, rM_fr (A := A) h2.2.2.2.2 (fun q h1 h2 => kk q (by omega) (by omega))⟩
        · rw [c4, z_sub, show ((aEn A + 1 : Nat) : Int) - 1 = (aEn A : Int) by omega]
        · have hk' : k < aEn A + 1 := hk
          show m4.1 114 (182 + k) = z (((if k = aEn A then c else aEx A k : Nat)) : Int)
          by_cases e : k = aEn A
          · rw [if_pos e, r4, if_neg (by omega), r3, if_pos (by omega), z_mul, z_add, hc3]
          · rw [if_neg e, kk _ (by omega) (by omega)]
            exact h2.2.2.2.1.2 k (by omega)
    · rw [if_neg hf, if_neg z10, if_pos (Or.inl hf)]
      exact key
  · obtain ⟨m1, e1, t1, f1, r1⟩ := m_t1 (m := m) (z 1)
    rw [(m_isCell hx hy m).2 hc, obind, if_pos rfl, if_neg (by rw [isCb_f hc]; decide)]
    unfold jX9_opens_14
    rw [e1, obind]
    dsimp only
    rw [if_neg z10]
    exact ⟨m1, rfl, t1, f1, (r1 ▸ h)⟩
end OPS4
