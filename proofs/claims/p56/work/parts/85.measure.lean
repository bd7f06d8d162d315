/-! exit plans: the class measures; the model tries all -/
section MEAS
variable {m : pmI} {A : Ab} {n : Nat}
def xfr (m m' : pmI) : Prop := (∀ i, ¬ i = 95 → ¬ i = 96 → ¬ i = 99 → m'.1 i = m.1 i) ∧ m'.2 = m.2
theorem xfr_rf : xfr m m := ⟨fun _ _ _ _ => rfl, rfl⟩
theorem xfr_tr {m1 m2 : pmI} (h1 : xfr m m1) (h2 : xfr m1 m2) : xfr m m2 := ⟨fun i a b c => (h2.1 i a b c).trans (h1.1 i a b c), h2.2.trans h1.2⟩
theorem repC_x {m' : pmI} (h : repC 1 m A) (f : xfr m m') : repC 1 m' A := repC_fr h (fun i h1 h2 => ⟨f.1 i (by omega) (by omega) (by omega), by rw [f.2]⟩)
theorem c_meaIn (h : repC 1 m A) (w : wfA A) (hn : 100 ≤ n) {k : Nat} (h98 : m.1 98 1 = z (aEn A : Int)) (hk : k < 6) (hr : ∀ c, c < 64 → m.1 95 c = z (oz (dst (clo A false) (aCe A k) c))) : ∃ m', lX1_measure_98_1_94_l57 n (z (k : Int)) n (z 0) m = some m' ∧ (∀ e, e < aEn A → m'.1 99 (6 * k + e) = z (cf (dis A) k e : Int)) ∧ (∀ b, b < 6 * k → m'.1 99 b = m.1 99 b) ∧ (∀ i, ¬ i = 99 → m'.1 i = m.1 i) ∧ m'.2 = m.2 := by
  have w7 := w.2.2.2.2.2.2.1
  have F := forI (fun q i (u : pmI) => lX1_measure_98_1_94_l57 n (z (k : Int)) q i u) (aEn A)
    (fun e u => (∀ e', e' < e → u.1 99 (6 * k + e') = z (cf (dis A) k e' : Int)) ∧ (∀ b, b < 6 * k → u.1 99 b = m.1 99 b) ∧ (∀ i, ¬ i = 99 → u.1 i = m.1 i) ∧ u.2 = m.2)
    (fun r => ∃ m', r = some m' ∧ (∀ e, e < aEn A → m'.1 99 (6 * k + e) = z (cf (dis A) k e : Int)) ∧ (∀ b, b < 6 * k → m'.1 99 b = m.1 99 b) ∧ (∀ i, ¬ i = 99 → m'.1 i = m.1 i) ∧ m'.2 = m.2)
    (fun q e u he hI => by
      obtain ⟨y1, y2, y3, y4⟩ := hI
      have hu : repC 1 u A := repC_fr h (fun i h1 h2 => ⟨y3 i (by omega), by rw [y4]⟩)
      have hx64 := w.2.2.2.2.2.2.2.1 e he
      have key : ∃ s', ((∀ e', e' < e + 1 → s'.1 99 (6 * k + e') = z (cf (dis A) k e' : Int)) ∧ (∀ b, b < 6 * k → s'.1 99 b = m.1 99 b) ∧ (∀ i, ¬ i = 99 → s'.1 i = m.1 i) ∧ s'.2 = m.2) ∧ jX1_measure_98_1_94_106 n (z (k : Int)) (lX1_measure_98_1_94_l57 n (z (k : Int)) q) (z (e : Int)) ((z (k : Int) * (z 6)) + z (e : Int)) (z (cf (dis A) k e : Int)) u = lX1_measure_98_1_94_l57 n (z (k : Int)) q (z ((e : Int) + 1)) s' := by
        obtain ⟨m1, e1, j1, o1, r1⟩ := w_1 u 99 (6 * k + e) (z (cf (dis A) k e : Int))
        refine ⟨m1, ⟨fun e' he' => ?_, fun b hb => ?_, fun i hi => by rw [o1 i hi, y3 i hi], by rw [j1, y4]⟩, ?_⟩
        · rw [r1]
          by_cases e0 : e' = e
          · rw [if_pos (by rw [e0]), e0]
          · rw [if_neg (by omega)]
            exact y1 e' (by omega)
        · rw [r1, if_neg (by omega)]
          exact y2 b hb
        · unfold jX1_measure_98_1_94_106
          rw [z_mul, z_add, show (k : Int) * 6 + (e : Int) = ((6 * k + e : Nat) : Int) by omega, s_99 (by omega), obind, e1, z_add]
      show ∃ s', _ ∧ bX1_measure_98_1_94_l57 n (z (k : Int)) (lX1_measure_98_1_94_l57 n (z (k : Int)) q) (z (e : Int)) u = _
      unfold bX1_measure_98_1_94_l57 fX7_lengthTo_94
      rw [y3 98 (by decide), h98, if_pos (zlt (by omega)), a_8 (by omega), obind, hu.2.2.2.2.2.2.1 e he, a_95 hx64, obind, obind, y3 95 (by decide), hr _ hx64]
      have hcf : cf (dis A) k e = match dst (clo A false) (aCe A k) (aEx A e) with | none => 1000 | some l => l := rfl
      cases hd : dst (clo A false) (aCe A k) (aEx A e) with
      | none =>
        rw [hd] at hcf
        rw [hcf] at key
        rw [oz_n, if_pos rfl]
        exact key
      | some l =>
        have := dst_le hd
        rw [hd] at hcf
        rw [hcf] at key
        rw [oz_s, if_neg (zne (by omega))]
        exact key)
    (fun q u hI => by
      obtain ⟨y1, y2, y3, y4⟩ := hI
      refine ⟨u, ?_, y1, y2, y3, y4⟩
      show bX1_measure_98_1_94_l57 n (z (k : Int)) (lX1_measure_98_1_94_l57 n (z (k : Int)) q) (z (aEn A : Int)) u = _
      unfold bX1_measure_98_1_94_l57
      rw [y3 98 (by decide), h98, if_neg (zge (by omega))]) (aEn A) 0 n m (by omega) (by omega) ⟨fun e he => absurd he (Nat.not_lt_zero _), fun _ _ => rfl, fun _ _ => rfl, rfl⟩
  exact F
/-- what a plan's search of the class leaves -/
def lfr (m m' : pmI) : Prop := (∀ i, i < 95 ∨ (96 < i ∧ i < 98) ∨ 106 < i → m'.1 i = m.1 i) ∧ m'.2 = m.2
theorem lfr_tr {m1 m2 : pmI} (h1 : lfr m m1) (h2 : lfr m1 m2) : lfr m m2 := ⟨fun i a => (h2.1 i a).trans (h1.1 i a), h2.2.trans h1.2⟩
theorem lfr_rf : lfr m m := ⟨fun _ _ => rfl, rfl⟩
theorem lfr_x {m1 : pmI} (h : xfr m m1) : lfr m m1 := ⟨fun i a => h.1 i (by omega) (by omega) (by omega), h.2⟩
theorem lfr_1 {m1 : pmI} {q : Nat} (hq : 98 ≤ q ∧ q ≤ 106) (j : m1.2 = m.2) (o : ∀ a, ¬ a = q → m1.1 a = m.1 a) : lfr m m1 := ⟨fun i a => o i (by omega), j⟩
theorem repC_l {m' : pmI} (h : repC 1 m A) (f : lfr m m') : repC 1 m' A := repC_fr h (fun i h1 h2 => ⟨f.1 i (by omega), by rw [f.2]⟩)
theorem c_measure (h : repC 1 m A) (w : wfA A) (hn : 100 ≤ n) : ∃ m', fX1_measure_98_1_94 n m = some m' ∧ tab m' (dis A) (aEn A) (aC A) ∧ lfr m m' := by
  have w1 := w.1
  have w7 := w.2.2.2.2.2.2.1
  obtain ⟨m1, e1, j1, o1, r1⟩ := w_1 m 98 0 (z (aC A : Int))
  have h1 : repC 1 m1 A := repC_l h (lfr_1 (by omega) j1 o1)
  obtain ⟨m2, e2, j2, o2, r2⟩ := w_1 m1 98 1 (z (aEn A : Int))
  have f2 : lfr m m2 := lfr_tr (lfr_1 (by omega) j1 o1) (lfr_1 (by omega) j2 o2)
  have h2 : repC 1 m2 A := repC_l h f2
  have r20 : m2.1 98 0 = z (aC A : Int) := by rw [r2, if_neg (by decide), r1, if_pos rfl]
  have r21 : m2.1 98 1 = z (aEn A : Int) := by rw [r2, if_pos rfl]
  unfold fX1_measure_98_1_94
  rw [h.2.1, pmLet_eq, e1, h1.2.2.2.2.2.1, pmLet_eq, e2, r20, r21]
  by_cases hN : aC A ≤ aEn A
  · have F := forI (fun q i (u : pmI) => lX1_measure_98_1_94_l30 n q i u) (aC A)
      (fun k u => (∀ k' e, k' < k → e < aEn A → u.1 99 (6 * k' + e) = z (cf (dis A) k' e : Int)) ∧ xfr m2 u)
      (fun r => ∃ m', r = some m' ∧ (∀ k' e, k' < aC A → e < aEn A → m'.1 99 (6 * k' + e) = z (cf (dis A) k' e : Int)) ∧ xfr m2 m')
      (fun q k u hk hI => by
        obtain ⟨y1, y2⟩ := hI
        have hu := repC_x h2 y2
        have s64 := (w.2.2.1 k hk).2.1
        obtain ⟨m3, e3, r3, f3⟩ := c_far (n := n) hu hn s64
        have f3x : xfr u m3 := ⟨fun i a b _ => f3.1 i a b, f3.2⟩
        have h3 := repC_x hu f3x
        obtain ⟨m4, e4, g1, g2, g3, g4⟩ := c_meaIn (n := n) h3 w hn (by rw [f3.1 98 (by decide) (by decide), y2.1 98 (by decide) (by decide) (by decide), r21]) (show k < 6 by omega) r3
        show ∃ s', _ ∧ bX1_measure_98_1_94_l30 n (lX1_measure_98_1_94_l30 n q) (z (k : Int)) u = _
        unfold bX1_measure_98_1_94_l30
        rw [y2.1 98 (by decide) (by decide) (by decide), r20, if_pos (zlt (by omega)), a_3 (by omega), obind, (hu.2.2.2.1 k hk).2.1, e3, obind, e4, obind, z_add]
        refine ⟨m4, ⟨fun k' e hk' he => ?_, xfr_tr y2 (xfr_tr f3x ⟨fun i _ _ c => g3 i c, g4⟩)⟩, rfl⟩
        by_cases e0 : k' = k
        · rw [e0]; exact g1 e he
        · rw [g2 _ (by omega), f3.1 99 (by decide) (by decide)]
          exact y1 k' e (by omega) he)
      (fun q u hI => by
        refine ⟨u, ?_, hI⟩
        show bX1_measure_98_1_94_l30 n (lX1_measure_98_1_94_l30 n q) (z (aC A : Int)) u = _
        unfold bX1_measure_98_1_94_l30
        rw [hI.2.1 98 (by decide) (by decide) (by decide), r20, if_neg (zge (by omega))]) (aC A) 0 n m2 (by omega) (by omega) ⟨fun k' e hk' => absurd hk' (Nat.not_lt_zero _), xfr_rf⟩
    obtain ⟨m3, e3, g1, g2⟩ := F
    have e3 : lX1_measure_98_1_94_l30 n n (z 0) m2 = some m3 := e3
    rw [if_neg (zge (by omega)), e3, obind]
    exact ⟨m3, rfl, ⟨by rw [g2.1 98 (by decide) (by decide) (by decide), r20], by rw [g2.1 98 (by decide) (by decide) (by decide), r21], fun _ k e hk he => g1 k e hk he⟩, lfr_tr f2 (lfr_x g2)⟩
  · rw [if_pos (zlt (by omega))]
    exact ⟨m2, rfl, ⟨r20, r21, fun h => absurd h hN⟩, f2⟩
theorem c_planCost (h : repC 1 m A) (w : wfA A) (hn : 100 ≤ n) : ∃ m', fX8_planCost n m = some (z (cost A), m') ∧ lfr m m' ∧ tab m' (dis A) (aEn A) (aC A) ∧ (aC A ≤ aEn A → ∀ u', u' < 2 ^ aEn A → m'.1 100 u' = z (rv (dis A) (aEn A) (aC A) u' : Int)) := by
  obtain ⟨m1, e1, t1, f1⟩ := c_measure h w hn
  obtain ⟨m2, e2, g2, j2, o2⟩ := c_table (n := n) dis_le w.2.2.2.2.2.2.1 w.1 t1 hn
  unfold fX8_planCost
  rw [e1, obind, e2, obind]
  exact ⟨m2, rfl, lfr_tr f1 (lfr_1 (q := 100) (by omega) j2 o2), ⟨by rw [o2 98 (by decide)]; exact t1.1, by rw [o2 98 (by decide)]; exact t1.2.1, by rw [o2 99 (by decide)]; exact t1.2.2⟩, g2⟩
end MEAS
/-! the model -/
def upL (pl : Nat → Int32) (k cst : Nat) (s : Nat × (Nat → Int32)) : Option Pl → Nat × (Nat → Int32)
  | none => s
  | some x => if cst + x.1 < s.1 then (cst + x.1, fun i => if i < k then pl i else z (x.2.getD (i - k) 0 : Int)) else s
theorem upL_better {pl : Nat → Int32} {k cst : Nat} {s : Nat × (Nat → Int32)} {a b : Option Pl} : upL pl k cst (upL pl k cst s a) b = upL pl k cst s (better a b) := by
  cases a with
  | none => cases b <;> rfl
  | some x =>
    cases b with
    | none => rfl
    | some y =>
      show upL pl k cst (if cst + x.1 < s.1 then _ else s) (some y) = upL pl k cst s (if y.1 < x.1 then some y else some x)
      by_cases h1 : cst + x.1 < s.1
      · rw [if_pos h1]
        by_cases h2 : y.1 < x.1
        · rw [if_pos h2]
          show (if cst + y.1 < cst + x.1 then _ else _) = (if cst + y.1 < s.1 then _ else _)
          rw [if_pos (by omega), if_pos (by omega)]
        · rw [if_neg h2]
          show (if cst + y.1 < cst + x.1 then _ else _) = (if cst + x.1 < s.1 then _ else _)
          rw [if_neg (by omega), if_pos h1]
      · rw [if_neg h1]
        by_cases h2 : y.1 < x.1
        · rw [if_pos h2]
        · rw [if_neg h2]
          show (if cst + y.1 < s.1 then _ else _) = (if cst + x.1 < s.1 then _ else _)
          rw [if_neg (by omega), if_neg h1]
theorem upL_ext {pl : Nat → Int32} {k cst l e : Nat} {s : Nat × (Nat → Int32)} {q : Option Pl} : upL (fun i => if i = k then z (e : Int) else pl i) (k + 1) (cst + l) s q = upL pl k cst s (ext l e q) := by
  cases q with
  | none => rfl
  | some x =>
    show (if cst + l + x.1 < s.1 then _ else s) = (if cst + (l + x.1) < s.1 then _ else s)
    by_cases h : cst + l + x.1 < s.1
    · rw [if_pos h, if_pos (by omega), Nat.add_assoc]
      congr 1
      funext i
      by_cases h1 : i < k
      · rw [if_pos (show i < k + 1 by omega)]
        dsimp only
        rw [if_neg (show ¬ i = k by omega), if_pos h1]
      · rw [if_neg h1]
        by_cases h2 : i = k
        · rw [if_pos (show i < k + 1 by omega)]
          dsimp only
          rw [if_pos h2, show i - k = 0 by omega]
          rfl
        · rw [if_neg (by omega), show i - k = (i - (k + 1)) + 1 by omega]
          rfl
    · rw [if_neg h, if_neg (by omega)]
theorem unM : ∀ u : Nat, u < 64 → ∀ e : Nat, e < 6 → ((z (u : Int) >>> (z (e : Int) &&& 31)) &&& (z 1) = z 0 ↔ un u e = true) := by decide +kernel
section MPLAN
variable {n : Nat} {c : Nat → Nat → Option Nat} {M N : Nat}
def nfr (m m' : pmI) : Prop := (∀ i, ¬ i = 113 → ¬ i = 121 → ¬ i = 122 → m'.1 i = m.1 i) ∧ (∀ x, ¬ x = 14 → m'.1 113 x = m.1 113 x) ∧ m'.2 = m.2
theorem nfr_rf {m : pmI} : nfr m m := ⟨fun _ _ _ _ => rfl, fun _ _ => rfl, rfl⟩
theorem nfr_tr {m m1 m2 : pmI} (h1 : nfr m m1) (h2 : nfr m1 m2) : nfr m m2 := ⟨fun i a b c => (h2.1 i a b c).trans (h1.1 i a b c), fun x a => (h2.2.1 x a).trans (h1.2.1 x a), h2.2.2.trans h1.2.2⟩
def LB (m : pmI) (N : Nat) (s : Nat × (Nat → Int32)) : Prop := m.1 113 14 = z (s.1 : Int) ∧ ∀ i, i < N → m.1 122 i = s.2 i
def mtab (m : pmI) (c : Nat → Nat → Option Nat) (M N : Nat) : Prop := m.1 114 1 = z (N : Int) ∧ m.1 114 3 = z (M : Int) ∧ ∀ k e, k < N → e < M → m.1 123 (6 * k + e) = z (fo (c k e))
theorem mtab_n {m m' : pmI} (h : mtab m c M N) (f : nfr m m') : mtab m' c M N := by
  unfold mtab
  rw [f.1 114 (by decide) (by decide) (by decide), f.1 123 (by decide) (by decide) (by decide)]
  exact h
theorem upL_le {pl : Nat → Int32} {k cst : Nat} {s : Nat × (Nat → Int32)} (h : s.1 ≤ 9999) : ∀ q, (upL pl k cst s q).1 ≤ 9999
  | none => h
  | some x => by
    show (if cst + x.1 < s.1 then _ else s).1 ≤ 9999
    split
    · show cst + x.1 ≤ 9999
      omega
    · exact h
end MPLAN

