/-! searches over cells: the class in rounds -/
def IR (m : pmI) (h : Nat → Option Nat) : Prop := ∀ c, c < 64 → m.1 95 c = z (oz (h c))
def SJ (cl : Nat → Bool) (s : Nat) (h : Nat → Option Nat) (N : Nat) : Prop := h s = some 0 ∧ ∀ c, c < 64 → ∀ k, h c = some k → R cl s k c = true ∧ k ≤ N
def LE (h h' : Nat → Option Nat) : Prop := ∀ c, c < 64 → ∀ k, h c = some k → ∃ j, j ≤ k ∧ h' c = some j
theorem LE_rf {h : Nat → Option Nat} : LE h h := fun _ _ k hk => ⟨k, Nat.le_refl _, hk⟩
theorem LE_tr {h h1 h2 : Nat → Option Nat} (a : LE h h1) (b : LE h1 h2) : LE h h2 := fun c hc k hk => by
  obtain ⟨j, j1, j2⟩ := a c hc k hk
  obtain ⟨i, i1, i2⟩ := b c hc j j2
  exact ⟨i, by omega, i2⟩
theorem SJ_up {cl : Nat → Bool} {s N N' : Nat} {h : Nat → Option Nat} (a : SJ cl s h N) (hN : N ≤ N') : SJ cl s h N' := ⟨a.1, fun c hc k hk => ⟨(a.2 c hc k hk).1, Nat.le_trans (a.2 c hc k hk).2 hN⟩⟩
/-- what a round has seen at a cell: its ways -/
def SW (h0 h : Nat → Option Nat) (c d : Nat) : Prop := ∀ u, u < d → ∀ e, nb c u = some e → ∀ k, h0 e = some k → ∃ j, j ≤ k + 1 ∧ h c = some j
def PA (cl : Nat → Bool) (s : Nat) (h : Nat → Option Nat) (r : Nat) : Prop := ∀ c j, j ≤ r → R cl s j c = true → ∃ k, k ≤ j ∧ h c = some k
def CO (cl : Nat → Bool) (s : Nat) (h : Nat → Option Nat) : Prop := ∀ c j, R cl s j c = true → ∃ k, k ≤ j ∧ h c = some k
section ROUNDS
variable {n : Nat} {m : pmI}
theorem imp_in {s c N : Nat} {cl : Nat → Bool} {h1 : Nat → Option Nat} (hn : 100 ≤ n) (hc : c < 64) (ho : cl c = false) (hN : N ≤ 100000) (a1 : SJ cl s h1 N) (a2 : IR m h1) (hs : s < 64) : ∃ h fl m', fX7_improve_94 n (z (c : Int)) m = some (z ((fl : Nat) : Int), m') ∧ fl ≤ 1 ∧ SJ cl s h (N + 4) ∧ IR m' h ∧ LE h1 h ∧ SW h1 h c 4 ∧ (fl = 0 → h = h1) ∧ wfr m m' := by
  have F := forI (fun k i (u : Int32 × pmI) => lX7_improve_94_l4 n (z (c : Int)) k u.1 i u.2) 4
    (fun d u => ∃ h fl, u.1 = z ((fl : Nat) : Int) ∧ fl ≤ 1 ∧ SJ cl s h (N + d) ∧ IR u.2 h ∧ LE h1 h ∧ SW h1 h c d ∧ (fl = 0 → h = h1) ∧ wfr m u.2)
    (fun r => ∃ h fl m', r = some (z ((fl : Nat) : Int), m') ∧ fl ≤ 1 ∧ SJ cl s h (N + 4) ∧ IR m' h ∧ LE h1 h ∧ SW h1 h c 4 ∧ (fl = 0 → h = h1) ∧ wfr m m')
    (fun k d u hd hI => by
      obtain ⟨i2, mm⟩ := u
      obtain ⟨h, fl, y1, y2, y3, y4, y5, y6, y7, y8⟩ := hI
      have y1 : i2 = z (fl : Int) := y1
      have y4 : IR mm h := y4
      have y8 : wfr m mm := y8
      subst y1
      show ∃ s', _ ∧ bX7_improve_94_l4 n (z (c : Int)) (lX7_improve_94_l4 n (z (c : Int)) k) (z (fl : Int)) (z (d : Int)) mm = _
      unfold bX7_improve_94_l4
      rw [if_pos (zlt (by omega)), f_after hc hd, obind]
      have stay : (∀ e, nb c d = some e → ∀ k, h1 e = some k → ∃ j, j ≤ k + 1 ∧ h c = some j) → ∃ s' : Int32 × pmI, (∃ h fl, s'.1 = z ((fl : Nat) : Int) ∧ fl ≤ 1 ∧ SJ cl s h (N + (d + 1)) ∧ IR s'.2 h ∧ LE h1 h ∧ SW h1 h c (d + 1) ∧ (fl = 0 → h = h1) ∧ wfr m s'.2) ∧ lX7_improve_94_l4 n (z (c : Int)) k (z (fl : Int)) (z (d : Int) + z 1) mm = lX7_improve_94_l4 n (z (c : Int)) k s'.1 (z ((d : Int) + 1)) s'.2 := fun hw => by
        refine ⟨(z (fl : Int), mm), ⟨h, fl, rfl, y2, SJ_up y3 (by omega), y4, y5, fun v hv e he k hk => ?_, y7, y8⟩, by rw [z_add]⟩
        by_cases e0 : v = d
        · rw [e0] at he
          exact hw e he k hk
        · exact y6 v (by omega) e he k hk
      cases he : nb c d with
      | none =>
        rw [oz_n, an_95 (by omega) (by omega), obind, a_95 hc, obind, if_pos rfl]
        exact stay (fun e h => by rw [he] at h; cases h)
      | some e =>
        have he64 := nb_lt hc he
        rw [oz_s, a_95 he64, obind, a_95 hc, obind, y4 e he64, y4 c hc]
        cases hk : h e with
        | none =>
          rw [oz_n, if_pos rfl]
          refine stay (fun e' h2 k hk2 => ?_)
          rw [he] at h2
          cases h2
          obtain ⟨j, j1, j2⟩ := y5 e he64 k hk2
          rw [hk] at j2
          cases j2
        | some ke =>
          obtain ⟨r1, r2⟩ := y3.2 e he64 ke hk
          rw [oz_s, if_neg (zne (by omega))]
          have up : (h c = none ∨ ∃ kc, h c = some kc ∧ ke + 1 < kc) → ∃ s' : Int32 × pmI, (∃ h fl, s'.1 = z ((fl : Nat) : Int) ∧ fl ≤ 1 ∧ SJ cl s h (N + (d + 1)) ∧ IR s'.2 h ∧ LE h1 h ∧ SW h1 h c (d + 1) ∧ (fl = 0 → h = h1) ∧ wfr m s'.2) ∧ jX7_improve_94_54 n (z (c : Int)) (lX7_improve_94_l4 n (z (c : Int)) k) (z (d : Int)) (z (ke : Int)) mm = lX7_improve_94_l4 n (z (c : Int)) k s'.1 (z ((d : Int) + 1)) s'.2 := fun hw => by
            obtain ⟨m1, e1, j1, o1, q1⟩ := w_1 mm 95 c (z ((ke : Int) + 1))
            unfold jX7_improve_94_54
            rw [z_add, s_95 hc, obind, e1, z_add]
            have hcs : ¬ s = c := fun h0 => by
              have := y3.1
              rw [h0] at this
              rcases hw with hw | ⟨kc, g1, g2⟩
              · rw [hw] at this; cases this
              · rw [g1] at this; cases this; omega
            refine ⟨(z ((1 : Nat) : Int), m1), ⟨fun x => if x = c then some (ke + 1) else h x, 1, rfl, Nat.le_refl _, ⟨?_, fun x hx k hk2 => ?_⟩, fun x hx => ?_, fun x hx k hk2 => ?_, fun v hv e' he' k hk2 => ?_, fun h0 => absurd h0 (by decide), wfr_tr y8 (wfr_95 j1 o1)⟩, rfl⟩
            · show (if s = c then _ else h s) = _
              rw [if_neg hcs]
              exact y3.1
            · have hk2 : (if x = c then some (ke + 1) else h x) = some k := hk2
              by_cases e0 : x = c
              · rw [if_pos e0] at hk2
                cases hk2
                rw [e0]
                exact ⟨R_s.mpr (Or.inr ⟨ho, e, he64, adj_sym hc (adj_of hd he), r1⟩), by omega⟩
              · rw [if_neg e0] at hk2
                have := y3.2 x hx k hk2
                exact ⟨this.1, by omega⟩
            · show m1.1 95 x = _
              rw [q1]
              dsimp only
              by_cases e0 : x = c
              · rw [if_pos e0, if_pos e0, oz_s]
                rfl
              · rw [if_neg e0, if_neg e0]
                exact y4 x hx
            · obtain ⟨j, g1, g2⟩ := y5 x hx k hk2
              dsimp only
              by_cases e0 : x = c
              · rw [if_pos e0]
                rw [e0] at g2
                rcases hw with hw | ⟨kc, g3, g4⟩
                · rw [hw] at g2; cases g2
                · rw [g3] at g2
                  cases g2
                  exact ⟨ke + 1, by omega, rfl⟩
              · rw [if_neg e0]
                exact ⟨j, g1, g2⟩
            · show ∃ j, j ≤ k + 1 ∧ (if c = c then some (ke + 1) else h c) = some j
              rw [if_pos rfl]
              refine ⟨ke + 1, ?_, rfl⟩
              by_cases e0 : v = d
              · rw [e0, he] at he'
                cases he'
                obtain ⟨j, g1, g2⟩ := y5 e he64 k hk2
                rw [hk] at g2
                cases g2
                omega
              · obtain ⟨j, g1, g2⟩ := y6 v (by omega) e' he' k hk2
                rcases hw with hw | ⟨kc, g3, g4⟩
                · rw [hw] at g2; cases g2
                · rw [g3] at g2
                  cases g2
                  omega
          cases hk3 : h c with
          | none =>
            rw [oz_n, if_pos rfl]
            exact up (Or.inl hk3)
          | some kc =>
            have r3 := (y3.2 c hc kc hk3).2
            rw [oz_s, if_neg (zne (by omega)), z_add]
            by_cases hl : ke + 1 < kc
            · rw [if_pos (zlt (by omega))]
              exact up (Or.inr ⟨kc, hk3, hl⟩)
            · rw [if_neg (zge (by omega))]
              refine stay (fun e' h2 k hk2 => ?_)
              rw [he] at h2
              cases h2
              obtain ⟨j, g1, g2⟩ := y5 e he64 k hk2
              rw [hk] at g2
              cases g2
              exact ⟨kc, by omega, hk3⟩)
    (fun k u hI => by
      obtain ⟨i2, mm⟩ := u
      obtain ⟨h, fl, y1, y2⟩ := hI
      have y1 : i2 = z (fl : Int) := y1
      subst y1
      refine ⟨h, fl, mm, ?_, y2⟩
      show bX7_improve_94_l4 n (z (c : Int)) (lX7_improve_94_l4 n (z (c : Int)) k) (z (fl : Int)) (z ((4 : Nat) : Int)) mm = _
      unfold bX7_improve_94_l4
      rw [if_neg (zge (by omega))]) 4 0 n (z ((0 : Nat) : Int), m) (by omega) (by omega) ⟨h1, 0, rfl, by omega, a1, a2, LE_rf, fun v hv => absurd hv (Nat.not_lt_zero _), fun _ => rfl, wfr_rf⟩
  obtain ⟨h, fl, m', e1, y2, y3⟩ := F
  have e1 : lX7_improve_94_l4 n (z (c : Int)) n (z 0) (z 0) m = some (z (fl : Int), m') := e1
  unfold fX7_improve_94
  rw [e1, obind]
  dsimp only
  refine ⟨h, fl, m', ?_, y2, y3⟩
  rw [if_pos]
  rcases (show fl = 0 ∨ fl = 1 by omega) with rfl | rfl
  · exact Or.inl rfl
  · exact Or.inr rfl
theorem imp_round {s N : Nat} {cl : Int64} {w5 : Int32} {h0 : Nat → Option Nat} (hn : 100 ≤ n) (hs : s < 64) (hN : N ≤ 50000) (a1 : SJ (bt cl) s h0 N) (a2 : IR m h0) : ∃ h fl m', lX7_improveInRounds_94_l41 n cl w5 n (z 0) (z 0) m = some (z ((fl : Nat) : Int), m') ∧ fl ≤ 1 ∧ SJ (bt cl) s h (N + 256) ∧ IR m' h ∧ LE h0 h ∧ (∀ c, c < 64 → bt cl c = false → SW h0 h c 4) ∧ (fl = 0 → h = h0) ∧ wfr m m' := by
  have F := forI (fun k i (u : Int32 × pmI) => lX7_improveInRounds_94_l41 n cl w5 k u.1 i u.2) 64
    (fun c u => ∃ h fl, u.1 = z ((fl : Nat) : Int) ∧ fl ≤ 1 ∧ SJ (bt cl) s h (N + 4 * c) ∧ IR u.2 h ∧ LE h0 h ∧ (∀ c', c' < c → bt cl c' = false → SW h0 h c' 4) ∧ (fl = 0 → h = h0) ∧ wfr m u.2)
    (fun r => ∃ h fl m', r = some (z ((fl : Nat) : Int), m') ∧ fl ≤ 1 ∧ SJ (bt cl) s h (N + 256) ∧ IR m' h ∧ LE h0 h ∧ (∀ c, c < 64 → bt cl c = false → SW h0 h c 4) ∧ (fl = 0 → h = h0) ∧ wfr m m')
    (fun k c u hc hI => by
      obtain ⟨i4, mm⟩ := u
      obtain ⟨h, fl, y1, y2, y3, y4, y5, y6, y7, y8⟩ := hI
      have y1 : i4 = z (fl : Int) := y1
      have y4 : IR mm h := y4
      have y8 : wfr m mm := y8
      subst y1
      show ∃ s', _ ∧ bX7_improveInRounds_94_l41 n cl w5 (lX7_improveInRounds_94_l41 n cl w5 k) (z (fl : Int)) (z (c : Int)) mm = _
      unfold bX7_improveInRounds_94_l41
      rw [if_pos (zlt (by omega)), f_holds cl hc, obind]
      by_cases hb : bt cl c = true
      · rw [if_pos hb, if_neg z10, z_add]
        refine ⟨(z (fl : Int), mm), ⟨h, fl, rfl, y2, SJ_up y3 (by omega), y4, y5, fun c' hc' ho => ?_, y7, y8⟩, rfl⟩
        by_cases e0 : c' = c
        · rw [e0, hb] at ho; cases ho
        · exact y6 c' (by omega) ho
      · have ho := Bool.eq_false_iff.mpr hb
        obtain ⟨h2, fl2, m2, e2, x1, x2, x3, x4, x5, x6, x7⟩ := imp_in (m := mm) hn hc ho (by omega) y3 y4 hs
        rw [if_neg hb, if_pos rfl, e2, obind]
        have hw : ∀ c', c' < c + 1 → bt cl c' = false → SW h0 h2 c' 4 := fun c' hc' ho' v hv e he k hk => by
          have he64 := nb_lt (by omega) he
          by_cases e0 : c' = c
          · subst e0
            obtain ⟨j, j1, j2⟩ := y5 e he64 k hk
            obtain ⟨i, i1, i2⟩ := x5 v hv e he j j2
            exact ⟨i, by omega, i2⟩
          · obtain ⟨j, j1, j2⟩ := y6 c' (by omega) ho' v hv e he k hk
            obtain ⟨i, i1, i2⟩ := x4 c' (by omega) j j2
            exact ⟨i, by omega, i2⟩
        rcases (show fl2 = 0 ∨ fl2 = 1 by omega) with rfl | rfl
        · rw [if_pos (show z ((0 : Nat) : Int) = z 0 from rfl), z_add]
          exact ⟨(z (fl : Int), m2), ⟨h2, fl, rfl, y2, SJ_up x2 (by omega), x3, LE_tr y5 x4, hw, fun h => (x6 rfl).trans (y7 h), wfr_tr y8 x7⟩, rfl⟩
        · rw [if_neg (show ¬ z ((1 : Nat) : Int) = z 0 from z10), z_add]
          exact ⟨(z ((1 : Nat) : Int), m2), ⟨h2, 1, rfl, Nat.le_refl _, SJ_up x2 (by omega), x3, LE_tr y5 x4, hw, fun h => absurd h (by decide), wfr_tr y8 x7⟩, rfl⟩)
    (fun k u hI => by
      obtain ⟨i4, mm⟩ := u
      obtain ⟨h, fl, y1, y2⟩ := hI
      have y1 : i4 = z (fl : Int) := y1
      subst y1
      refine ⟨h, fl, mm, ?_, y2⟩
      show bX7_improveInRounds_94_l41 n cl w5 (lX7_improveInRounds_94_l41 n cl w5 k) (z (fl : Int)) (z ((64 : Nat) : Int)) mm = _
      unfold bX7_improveInRounds_94_l41
      rw [if_neg (zge (by omega))]) 64 0 n (z ((0 : Nat) : Int), m) (by omega) (by omega) ⟨h0, 0, rfl, by omega, a1, a2, LE_rf, fun v hv => absurd hv (Nat.not_lt_zero _), fun _ => rfl, wfr_rf⟩
  exact F
theorem PA_up {s r : Nat} {cl : Nat → Bool} {h0 h : Nat → Option Nat} (hs : s < 64) (a : PA cl s h0 r) (b : LE h0 h) (w : ∀ c, c < 64 → cl c = false → SW h0 h c 4) : PA cl s h (r + 1) := fun c j hj hr => by
  have hc := R_lt hs hr
  by_cases e0 : j ≤ r
  · obtain ⟨k, k1, k2⟩ := a c j e0 hr
    obtain ⟨i, i1, i2⟩ := b c hc k k2
    exact ⟨i, by omega, i2⟩
  · obtain rfl : j = r + 1 := by omega
    rcases R_s.mp hr with h1 | ⟨h1, e, h2, h3, h4⟩
    · obtain ⟨k, k1, k2⟩ := a c r (Nat.le_refl _) h1
      obtain ⟨i, i1, i2⟩ := b c hc k k2
      exact ⟨i, by omega, i2⟩
    · obtain ⟨k, k1, k2⟩ := a e r (Nat.le_refl _) h4
      obtain ⟨d, hd, hn⟩ := adj_ex (adj_sym h2 h3)
      obtain ⟨i, i1, i2⟩ := w c hc h1 d hd e hn k k2
      exact ⟨i, by omega, i2⟩
theorem CO_fix {s : Nat} {cl : Nat → Bool} {h : Nat → Option Nat} (hs : s < 64) (a : h s = some 0) (w : ∀ c, c < 64 → cl c = false → SW h h c 4) : ∀ r, PA cl s h r
  | 0 => fun c j hj hr => by
    obtain rfl : j = 0 := by omega
    rw [R_z.mp hr]
    exact ⟨0, Nat.le_refl _, a⟩
  | r + 1 => PA_up hs (CO_fix hs a w r) LE_rf w
theorem CO_64 {s : Nat} {cl : Nat → Bool} {h : Nat → Option Nat} (hs : s < 64) (a : PA cl s h 64) : CO cl s h := fun c j hr => by
  by_cases e0 : j ≤ 64
  · exact a c j e0 hr
  · obtain ⟨k, k1, k2⟩ := a c 64 (Nat.le_refl _) (R_64 hs hr)
    exact ⟨k, by omega, k2⟩
theorem c_rounds (hn : 100 ≤ n) {s : Nat} (hs : s < 64) (cl : Int64) : ∃ m' f, fX7_improveInRounds_94 n (z (s : Int)) cl m = some m' ∧ Dst (bt cl) s f ∧ (∀ c, c < 64 → m'.1 95 c = z (oz (f c))) ∧ wfr m m' := by
  obtain ⟨m1, e1, j1, o1, r1⟩ := c_fill95 hn (z (-1)) m
  obtain ⟨m2, e2, j2, o2, r2⟩ := w_1 m1 95 s (z 0)
  unfold fX7_improveInRounds_94
  rw [e1, obind, s_95 hs, obind, e2]
  have w2 : wfr m m2 := wfr_tr (wfr_95 j1 o1) (wfr_95 j2 o2)
  have F := whl (fun k (u : Int32 × Int32 × pmI) => lX7_improveInRounds_94_l23 n cl k u.1 u.2.1 u.2.2)
    (fun a u => ∃ h fl r, (u.1 = z ((fl : Nat) : Int) ∧ u.2.1 = z ((r : Nat) : Int) ∧ a = 64 - r ∧ r ≤ 64 ∧ fl ≤ 1) ∧ SJ (bt cl) s h (256 * r) ∧ IR u.2.2 h ∧ PA (bt cl) s h r ∧ (fl = 0 → CO (bt cl) s h) ∧ wfr m u.2.2)
    (fun r => ∃ m' f, r = some m' ∧ Dst (bt cl) s f ∧ (∀ c, c < 64 → m'.1 95 c = z (oz (f c))) ∧ wfr m m')
    (fun k a u hI rr hr0 => by
      obtain ⟨i4, i5, mm⟩ := u
      obtain ⟨h, fl, r, ⟨h1, h2, h3, h4, h5⟩, y1, y2, y3, y4, y5⟩ := hI
      have h1 : i4 = z (fl : Int) := h1
      have h2 : i5 = z (r : Int) := h2
      have y2 : IR mm h := y2
      have y5 : wfr m mm := y5
      subst h1 h2
      have hr0 : bX7_improveInRounds_94_l23 n cl (lX7_improveInRounds_94_l23 n cl k) (z (fl : Int)) (z (r : Int)) mm = rr := hr0
      unfold bX7_improveInRounds_94_l23 at hr0
      have fin : CO (bt cl) s h → Dst (bt cl) s h := fun hco c hc => ⟨fun k hk => (y1.2 c hc k hk).1, fun k hk => by
        obtain ⟨j, g1, g2⟩ := hco c k hk
        exact ⟨j, g2, g1⟩⟩
      by_cases hr : r < 64
      · rw [if_pos (zlt (by omega))] at hr0
        rcases (show fl = 0 ∨ fl = 1 by omega) with rfl | rfl
        · left
          rw [if_pos (show z ((0 : Nat) : Int) = z 0 from rfl)] at hr0
          exact ⟨mm, h, hr0.symm, fin (y4 rfl), y2, y5⟩
        · right
          obtain ⟨h', fl', m', g1, g2, g3, g4, g5, g6, g7, g8⟩ := imp_round (m := mm) (w5 := z (r : Int)) hn hs (show 256 * r ≤ 50000 by omega) y1 y2
          rw [if_neg (show ¬ z ((1 : Nat) : Int) = z 0 from z10), g1, obind, z_add] at hr0
          refine ⟨64 - (r + 1), (z (fl' : Int), z ((r + 1 : Nat) : Int), m'), by omega, ⟨h', fl', r + 1, ⟨rfl, rfl, rfl, by omega, g2⟩, SJ_up g3 (by omega), g4, PA_up hs y3 g5 g6, fun hf => ?_, wfr_tr y5 g8⟩, hr0.symm⟩
          have e9 := g7 hf
          rw [e9] at g6 ⊢
          exact CO_64 hs (CO_fix hs y1.1 g6 64)
      · left
        rw [if_neg (zge (by omega))] at hr0
        obtain rfl : r = 64 := by omega
        exact ⟨mm, h, hr0.symm, fin (CO_64 hs y3), y2, y5⟩)
    n 64 (z ((1 : Nat) : Int), z ((0 : Nat) : Int), m2) (by omega) ⟨fun c => if c = s then some 0 else none, 1, 0, ⟨rfl, rfl, rfl, by omega, by omega⟩, ⟨if_pos rfl, fun c hc k hk => ?_⟩, fun c hc => ?_, fun c j hj hr => ?_, fun h => absurd h (by decide), w2⟩
  · obtain ⟨m', f, g1, g2⟩ := F
    have g1 : lX7_improveInRounds_94_l23 n cl n (z 1) (z 0) m2 = some m' := g1
    rw [g1, obind]
    exact ⟨m', f, rfl, g2⟩
  · have hk : (if c = s then some 0 else none) = some k := hk
    by_cases e0 : c = s
    · rw [if_pos e0] at hk
      cases hk
      exact ⟨R_z.mpr e0, by omega⟩
    · rw [if_neg e0] at hk; cases hk
  · show m2.1 95 c = _
    rw [r2]
    dsimp only
    by_cases e0 : c = s
    · rw [if_pos e0, if_pos e0]
      rfl
    · rw [if_neg e0, if_neg e0, r1 c hc, oz_n]
  · obtain rfl : j = 0 := by omega
    exact ⟨0, Nat.le_refl _, if_pos (R_z.mp hr)⟩
end ROUNDS
