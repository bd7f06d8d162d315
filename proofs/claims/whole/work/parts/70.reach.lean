/-! searches over cells: the model, until nothing changes -/
theorem nsum_bd {f : Nat → Nat} {b : Nat} : ∀ {n : Nat}, (∀ k, k < n → f k ≤ b) → nsum f n ≤ n * b
  | 0, _ => Nat.zero_le _
  | n + 1, h => by
    have ih := nsum_bd (f := f) (b := b) (n := n) (fun k hk => h k (by omega))
    have h0 := h n (by omega)
    show nsum f n + f n ≤ (n + 1) * b
    rw [Nat.succ_mul]
    omega
/-- the closed cells of a search -/
def clo (A : Ab) (b : Bool) (c : Nat) : Bool := aP A c || (b && decide (¬ spot A (c : Int) = none))
def fo : Option Nat → Int
  | none => 9999
  | some k => (k : Int)
def RJ (cl : Nat → Bool) (s : Nat) (g : Nat → Nat) : Prop := g s = 0 ∧ ∀ c, c < 64 → g c = 9999 ∨ (g c < 9999 ∧ R cl s (g c) c = true)
def RX (cl : Nat → Bool) (s : Nat) (g : Nat → Nat) (c d : Nat) : Prop := ∀ c' d', (c' < c ∨ (c' = c ∧ d' < d)) → c' < 64 → d' < 4 → cl c' = false → ¬ c' = s → ∀ e, nb c' d' = some e → g c' ≤ g e + 1
def PG (cl : Nat → Bool) (s : Nat) (g0 g : Nat → Nat) (fl c d : Nat) : Prop := (fl = 0 ∧ g = g0 ∧ RX cl s g c d) ∨ (fl = 1 ∧ nsum g 64 < nsum g0 64)
def rfr (m m' : pmI) : Prop := (∀ i, ¬ i = 119 → m'.1 i = m.1 i) ∧ m'.2 = m.2
theorem rfr_rf {m : pmI} : rfr m m := ⟨fun _ _ => rfl, rfl⟩
theorem rfr_tr {m m1 m2 : pmI} (h1 : rfr m m1) (h2 : rfr m1 m2) : rfr m m2 := ⟨fun i a => (h2.1 i a).trans (h1.1 i a), h2.2.trans h1.2⟩
def RR (m : pmI) (g : Nat → Nat) : Prop := ∀ c, c < 64 → m.1 119 c = z (g c)
theorem RJ_le {cl : Nat → Bool} {s : Nat} {g : Nat → Nat} (h : RJ cl s g) {c : Nat} (hc : c < 64) : g c ≤ 9999 := by
  rcases h.2 c hc with h | h <;> omega
theorem PG_le {cl : Nat → Bool} {s : Nat} {g0 g : Nat → Nat} {fl c d : Nat} (h : PG cl s g0 g fl c d) : nsum g 64 ≤ nsum g0 64 := by
  rcases h with ⟨-, h, -⟩ | ⟨-, h⟩
  · rw [h]; exact Nat.le_refl _
  · omega
theorem PG_fl {cl : Nat → Bool} {s : Nat} {g0 g : Nat → Nat} {fl c d : Nat} (h : PG cl s g0 g fl c d) : fl = 0 ∨ fl = 1 := by
  rcases h with ⟨h, -⟩ | ⟨h, -⟩
  · exact Or.inl h
  · exact Or.inr h
theorem PG_st {cl : Nat → Bool} {s : Nat} {g0 g : Nat → Nat} {fl c d : Nat} (h : PG cl s g0 g fl c d) (hn : ∀ e, nb c d = some e → g c ≤ g e + 1) : PG cl s g0 g fl c (d + 1) := by
  rcases h with ⟨h1, h2, h3⟩ | h
  · refine Or.inl ⟨h1, h2, fun c' d' h4 h5 h6 h7 h8 e h9 => ?_⟩
    by_cases e0 : c' = c ∧ d' = d
    · obtain ⟨rfl, rfl⟩ := e0
      exact hn e h9
    · exact h3 c' d' (by omega) h5 h6 h7 h8 e h9
  · exact Or.inr h
theorem PG_nx {cl : Nat → Bool} {s : Nat} {g0 g : Nat → Nat} {fl c : Nat} (h : PG cl s g0 g fl c 4) : PG cl s g0 g fl (c + 1) 0 := by
  rcases h with ⟨h1, h2, h3⟩ | h
  · exact Or.inl ⟨h1, h2, fun c' d' h4 h5 h6 h7 h8 e h9 => h3 c' d' (by omega) h5 h6 h7 h8 e h9⟩
  · exact Or.inr h
theorem PG_no {cl : Nat → Bool} {s : Nat} {g0 g : Nat → Nat} {fl c : Nat} (h : PG cl s g0 g fl c 0) (hc : cl c = true ∨ c = s) : PG cl s g0 g fl (c + 1) 0 := by
  rcases h with ⟨h1, h2, h3⟩ | h
  · refine Or.inl ⟨h1, h2, fun c' d' h4 h5 h6 h7 h8 e h9 => ?_⟩
    by_cases e0 : c' = c
    · subst e0
      rcases hc with hc | hc
      · rw [h7] at hc; cases hc
      · exact absurd hc h8
    · exact h3 c' d' (by omega) h5 h6 h7 h8 e h9
  · exact Or.inr h
theorem RX_R {cl : Nat → Bool} {s : Nat} {g : Nat → Nat} (hs : s < 64) (h0 : g s = 0) (h : RX cl s g 64 0) : ∀ {k c : Nat}, R cl s k c = true → g c ≤ k
  | 0, c, hr => by
    obtain rfl := R_z.mp hr
    omega
  | k + 1, c, hr => by
    have hc := R_lt hs hr
    rcases R_s.mp hr with h1 | ⟨h1, e, h2, h3, h4⟩
    · have := RX_R hs h0 h h1
      omega
    · by_cases e0 : c = s
      · rw [e0]; omega
      · obtain ⟨d, hd, hn⟩ := adj_ex (adj_sym h2 h3)
        have h5 := RX_R hs h0 h h4
        have h6 := h c d (Or.inl hc) hc hd h1 e0 e hn
        omega
theorem RX_D {cl : Nat → Bool} {s : Nat} {g : Nat → Nat} (hs : s < 64) (hJ : RJ cl s g) (h : RX cl s g 64 0) : Dst cl s (fun c => if g c = 9999 then none else some (g c)) := fun c hc => by
  refine ⟨fun k hk => ?_, fun k hk => ?_⟩
  · have hk : (if g c = 9999 then none else some (g c)) = some k := hk
    by_cases e0 : g c = 9999
    · rw [if_pos e0] at hk; cases hk
    · rw [if_neg e0] at hk
      cases hk
      rcases hJ.2 c hc with h1 | h1
      · exact absurd h1 e0
      · exact h1.2
  · have h1 := RX_R hs hJ.1 h hk
    have h2 := RX_R hs hJ.1 h (R_64 hs hk)
    exact ⟨g c, if_neg (by omega), h1⟩
section REACH
variable {n : Nat} {m : pmI} {A : Ab}
theorem rea_no {w1 w2 i : Int32} {c : Nat} (hn : 100 ≤ n) : lX9_reaches_l88 n w1 w2 (z (c : Int)) (z 0) n i (z 0) m = some (i, m) := by
  obtain ⟨k, rfl⟩ : ∃ k, n = k + 1 := ⟨n - 1, by omega⟩
  show bX9_reaches_l88 (k + 1) w1 w2 (z (c : Int)) (z 0) (lX9_reaches_l88 (k + 1) w1 w2 (z (c : Int)) (z 0) k) i (z 0) m = _
  unfold bX9_reaches_l88
  rw [if_pos (by decide), if_pos rfl]
theorem rea_in {s c fl : Nat} {cl : Nat → Bool} {g0 g : Nat → Nat} (hn : 100 ≤ n) (hc : c < 64) (hcs : ¬ c = s) (ho : cl c = false) (h1 : RJ cl s g) (h2 : RR m g) (h3 : PG cl s g0 g fl c 0) (w1 w2 : Int32) : ∃ g' fl' m', lX9_reaches_l88 n w1 w2 (z (c : Int)) (z 1) n (z (fl : Int)) (z 0) m = some (z ((fl' : Nat) : Int), m') ∧ RJ cl s g' ∧ RR m' g' ∧ PG cl s g0 g' fl' c 4 ∧ rfr m m' := by
  have F := forI (fun k i (u : Int32 × pmI) => lX9_reaches_l88 n w1 w2 (z (c : Int)) (z 1) k u.1 i u.2) 4
    (fun d u => ∃ g' fl', u.1 = z ((fl' : Nat) : Int) ∧ RJ cl s g' ∧ RR u.2 g' ∧ PG cl s g0 g' fl' c d ∧ rfr m u.2)
    (fun r => ∃ g' fl' m', r = some (z ((fl' : Nat) : Int), m') ∧ RJ cl s g' ∧ RR m' g' ∧ PG cl s g0 g' fl' c 4 ∧ rfr m m')
    (fun k d u hd hI => by
      obtain ⟨i4, mm⟩ := u
      obtain ⟨g', fl', y1, y2, y3, y4, y5⟩ := hI
      have y1 : i4 = z (fl' : Int) := y1
      have y3 : RR mm g' := y3
      have y5 : rfr m mm := y5
      subst y1
      show ∃ s', _ ∧ bX9_reaches_l88 n w1 w2 (z (c : Int)) (z 1) (lX9_reaches_l88 n w1 w2 (z (c : Int)) (z 1) k) (z (fl' : Int)) (z (d : Int)) mm = _
      unfold bX9_reaches_l88
      rw [if_pos (zlt (by omega)), if_neg z10, m_way hd, obind, m_moved hc (by omega), obind]
      cases he : nb c d with
      | none =>
        refine ⟨(z (fl' : Int), mm), ⟨g', fl', rfl, y2, y3, PG_st y4 (fun e h => by rw [he] at h; cases h), y5⟩, ?_⟩
        rw [oz_n, if_pos (by decide), z_add]
      | some e =>
        have he64 := nb_lt hc he
        have b1 := RJ_le y2 hc
        have b2 := RJ_le y2 he64
        rw [oz_s, if_neg (zge (by omega)), if_pos ⟨okI_z (by omega), okI_z (by omega)⟩, z_nat (by omega), z_nat (by omega), y3 e he64, y3 c hc, z_add]
        by_cases hl : g' e + 1 < g' c
        · rw [if_pos (zlt (by omega)), if_pos ⟨okI_z (by omega), okI_z (by omega)⟩, pmLet_eq]
          obtain ⟨m1, e1, j1, o1, r1⟩ := w_1 mm 119 c (z ((g' e : Int) + 1))
          rw [e1]
          have hce : ¬ e = c := fun h => by rw [h] at hl; omega
          have hJ : RJ cl s (fun x => if x = c then g' e + 1 else g' x) := by
            refine ⟨?_, fun x hx => ?_⟩
            · show (if s = c then _ else g' s) = 0
              rw [if_neg (fun h => hcs h.symm)]
              exact y2.1
            · dsimp only
              by_cases e0 : x = c
              · rw [if_pos e0]
                right
                refine ⟨by omega, ?_⟩
                rcases y2.2 e he64 with h9 | h9
                · omega
                · rw [e0]
                  exact R_s.mpr (Or.inr ⟨ho, e, he64, adj_sym hc (adj_of hd he), h9.2⟩)
              · rw [if_neg e0]
                exact y2.2 x hx
          have hs := nsum_set (f := g') (k := c) (v := g' e + 1) (n := 64) hc
          have hle := PG_le y4
          refine ⟨(z ((1 : Nat) : Int), m1), ⟨_, 1, rfl, hJ, fun x hx => ?_, Or.inr ⟨rfl, by omega⟩, rfr_tr y5 ⟨o1, j1⟩⟩, ?_⟩
          · show m1.1 119 x = _
            rw [r1]
            dsimp only
            by_cases e0 : x = c
            · rw [if_pos e0, if_pos e0]
              rfl
            · rw [if_neg e0, if_neg e0]
              exact y3 x hx
          · rw [z_add]
            rfl
        · rw [if_neg (zge (by omega))]
          refine ⟨(z (fl' : Int), mm), ⟨g', fl', rfl, y2, y3, PG_st y4 (fun e' h => by rw [he] at h; cases h; omega), y5⟩, ?_⟩
          rw [z_add])
    (fun k u hI => by
      obtain ⟨i4, mm⟩ := u
      obtain ⟨g', fl', y1, y2⟩ := hI
      have y1 : i4 = z (fl' : Int) := y1
      subst y1
      refine ⟨g', fl', mm, ?_, y2⟩
      show bX9_reaches_l88 n w1 w2 (z (c : Int)) (z 1) (lX9_reaches_l88 n w1 w2 (z (c : Int)) (z 1) k) (z (fl' : Int)) (z ((4 : Nat) : Int)) mm = _
      unfold bX9_reaches_l88
      rw [if_neg (zge (by omega))]) 4 0 n (z (fl : Int), m) (by omega) (by omega) ⟨g, fl, rfl, h1, h2, h3, rfr_rf⟩
  exact F
theorem rea_82 {w1 w2 fl : Int32} {c : Nat} (hn : 100 ≤ n) (self : Int32 → Int32 → pmI → Option (Int32 × pmI)) : jX9_reaches_82 n w1 w2 self fl (z (c : Int)) m = self fl (z ((c : Int) + 1)) m := by
  unfold jX9_reaches_82 jX9_reaches_83
  rw [rea_no hn, obind, z_add]
theorem rea_round {s : Nat} {b : Bool} {g : Nat → Nat} (hs : s < 64) (hA : repR (m.1 114) A) (w : wfA A) (hn : 100 ≤ n) (h1 : RJ (clo A b) s g) (h2 : RR m g) : ∃ g' fl' m', lX9_reaches_l43 n (z (s : Int)) (z (if b = true then 1 else 0)) n (z 0) (z 0) m = some (z ((fl' : Nat) : Int), m') ∧ RJ (clo A b) s g' ∧ RR m' g' ∧ PG (clo A b) s g g' fl' 64 0 ∧ rfr m m' := by
  have F := forI (fun k i (u : Int32 × pmI) => lX9_reaches_l43 n (z (s : Int)) (z (if b = true then 1 else 0)) k u.1 i u.2) 64
    (fun c u => ∃ g' fl', u.1 = z ((fl' : Nat) : Int) ∧ RJ (clo A b) s g' ∧ RR u.2 g' ∧ PG (clo A b) s g g' fl' c 0 ∧ rfr m u.2)
    (fun r => ∃ g' fl' m', r = some (z ((fl' : Nat) : Int), m') ∧ RJ (clo A b) s g' ∧ RR m' g' ∧ PG (clo A b) s g g' fl' 64 0 ∧ rfr m m')
    (fun k c u hc hI => by
      obtain ⟨i4, mm⟩ := u
      obtain ⟨g', fl', y1, y2, y3, y4, y5⟩ := hI
      have y1 : i4 = z (fl' : Int) := y1
      have y3 : RR mm g' := y3
      have y5 : rfr m mm := y5
      subst y1
      have hA' : repR (mm.1 114) A := by rw [y5.1 114 (by decide)]; exact hA
      show ∃ s', _ ∧ bX9_reaches_l43 n (z (s : Int)) (z (if b = true then 1 else 0)) (lX9_reaches_l43 n (z (s : Int)) (z (if b = true then 1 else 0)) k) (z (fl' : Int)) (z (c : Int)) mm = _
      unfold bX9_reaches_l43
      rw [if_pos (zlt (by omega))]
      have no : clo A b c = true ∨ c = s → ∃ s' : Int32 × pmI, (∃ g' fl', s'.1 = z ((fl' : Nat) : Int) ∧ RJ (clo A b) s g' ∧ RR s'.2 g' ∧ PG (clo A b) s g g' fl' (c + 1) 0 ∧ rfr m s'.2) ∧ jX9_reaches_82 n (z (s : Int)) (z (if b = true then 1 else 0)) (lX9_reaches_l43 n (z (s : Int)) (z (if b = true then 1 else 0)) k) (z (fl' : Int)) (z (c : Int)) mm = lX9_reaches_l43 n (z (s : Int)) (z (if b = true then 1 else 0)) k s'.1 (z ((c : Int) + 1)) s'.2 := fun ho => ⟨(z (fl' : Int), mm), ⟨g', fl', rfl, y2, y3, PG_no y4 ho, y5⟩, rea_82 hn _⟩
      by_cases ec : c = s
      · rw [if_pos (by rw [ec])]
        exact no (Or.inr ec)
      · have yes : clo A b c = false → ∃ s' : Int32 × pmI, (∃ g' fl', s'.1 = z ((fl' : Nat) : Int) ∧ RJ (clo A b) s g' ∧ RR s'.2 g' ∧ PG (clo A b) s g g' fl' (c + 1) 0 ∧ rfr m s'.2) ∧ jX9_reaches_78 n (z (s : Int)) (z (if b = true then 1 else 0)) (lX9_reaches_l43 n (z (s : Int)) (z (if b = true then 1 else 0)) k) (z (fl' : Int)) (z (c : Int)) mm = lX9_reaches_l43 n (z (s : Int)) (z (if b = true then 1 else 0)) k s'.1 (z ((c : Int) + 1)) s'.2 := fun ho => by
          obtain ⟨g2, fl2, m2, e2, x1, x2, x3, x4⟩ := rea_in (m := mm) hn hc ec ho y2 y3 y4 (z (s : Int)) (z (if b = true then 1 else 0))
          refine ⟨(z (fl2 : Int), m2), ⟨g2, fl2, rfl, x1, x2, PG_nx x3, rfr_tr y5 x4⟩, ?_⟩
          unfold jX9_reaches_78 jX9_reaches_83
          rw [e2, obind, z_add]
        rw [if_neg (zne (by omega)), m_isProp hA' hc, obind]
        by_cases hp : aP A c = true
        · rw [if_pos hp, if_neg z10]
          exact no (Or.inl (by unfold clo; rw [hp]; rfl))
        · have hp' : aP A c = false := Bool.eq_false_iff.mpr hp
          rw [if_neg hp, if_pos rfl]
          cases b with
          | false =>
            rw [if_pos (by decide)]
            exact yes (by unfold clo; rw [hp']; rfl)
          | true =>
            rw [if_neg (by decide), m_on (n := n) hA' w (by omega) (by omega), obind]
            cases hsp : spot A (c : Int) with
            | none =>
              rw [oz_n, if_pos (by decide)]
              exact yes (by unfold clo; rw [hp', hsp]; rfl)
            | some j =>
              have := (ff_some hsp).2.1
              have w1 := w.1
              rw [oz_s, if_neg (zge (by omega))]
              exact no (Or.inl (by unfold clo; rw [hp', hsp]; rfl)))
    (fun k u hI => by
      obtain ⟨i4, mm⟩ := u
      obtain ⟨g', fl', y1, y2⟩ := hI
      have y1 : i4 = z (fl' : Int) := y1
      subst y1
      refine ⟨g', fl', mm, ?_, y2⟩
      show bX9_reaches_l43 n (z (s : Int)) (z (if b = true then 1 else 0)) (lX9_reaches_l43 n (z (s : Int)) (z (if b = true then 1 else 0)) k) (z (fl' : Int)) (z ((64 : Nat) : Int)) mm = _
      unfold bX9_reaches_l43
      rw [if_neg (zge (by omega))]) 64 0 n (z ((0 : Nat) : Int), m) (by omega) (by omega) ⟨g, 0, rfl, h1, h2, Or.inl ⟨rfl, rfl, fun c' d' h => by omega⟩, rfr_rf⟩
  exact F
theorem m_reaches {s : Nat} (b : Bool) (hs : s < 64) (hA : repR (m.1 114) A) (w : wfA A) (hn : 700000 ≤ n) : ∃ m', fX9_reaches n (z (s : Int)) (z (if b = true then 1 else 0)) m = some m' ∧ (∀ c, c < 64 → m'.1 119 c = z (fo (dst (clo A b) s c))) ∧ rfr m m' := by
  have F1 := forI (lX9_reaches_l2 n (z (s : Int)) (z (if b = true then 1 else 0))) 64
    (fun i u => rfr m u ∧ ∀ c, c < i → u.1 119 c = z ((if c = s then 0 else 9999 : Nat) : Int))
    (fun r => ∃ u, r = some u ∧ rfr m u ∧ ∀ c, c < 64 → u.1 119 c = z ((if c = s then 0 else 9999 : Nat) : Int))
    (fun k i u hi hI => by
      have key : ∀ v : Nat, v = (if i = s then 0 else 9999) → ∃ t, ((pmU u.1 119 i (z (v : Int)), u.2) : pmI) = t ∧ rfr m t ∧ ∀ c, c < i + 1 → t.1 119 c = z ((if c = s then 0 else 9999 : Nat) : Int) := fun v hv => by
        obtain ⟨t, e, j, o, r⟩ := w_1 u 119 i (z (v : Int))
        refine ⟨t, e, rfr_tr hI.1 ⟨o, j⟩, fun c hc => ?_⟩
        rw [r]
        by_cases e0 : c = i
        · rw [if_pos e0, hv, e0]
        · rw [if_neg e0]
          exact hI.2 c (by omega)
      show ∃ s', _ ∧ bX9_reaches_l2 n (z (s : Int)) (z (if b = true then 1 else 0)) (lX9_reaches_l2 n (z (s : Int)) (z (if b = true then 1 else 0)) k) (z (i : Int)) u = _
      unfold bX9_reaches_l2
      rw [if_pos (zlt (by omega))]
      by_cases e0 : i = s
      · obtain ⟨t, e, f⟩ := key 0 (by rw [if_pos e0])
        rw [if_pos (by rw [e0]), if_pos (okI_z (by omega)), z_nat (by omega), pmLet_eq, show z 0 = z ((0 : Nat) : Int) from rfl, e, z_add]
        exact ⟨t, f, rfl⟩
      · obtain ⟨t, e, f⟩ := key 9999 (by rw [if_neg e0])
        rw [if_neg (zne (by omega)), if_pos (okI_z (by omega)), z_nat (by omega), pmLet_eq, show z 9999 = z ((9999 : Nat) : Int) from rfl, e, z_add]
        exact ⟨t, f, rfl⟩)
    (fun k u hI => by
      refine ⟨u, ?_, hI⟩
      show bX9_reaches_l2 n (z (s : Int)) (z (if b = true then 1 else 0)) (lX9_reaches_l2 n (z (s : Int)) (z (if b = true then 1 else 0)) k) (z ((64 : Nat) : Int)) u = _
      unfold bX9_reaches_l2
      rw [if_neg (zge (by omega))]) 64 0 n m (by omega) (by omega) ⟨rfr_rf, fun c hc => absurd hc (Nat.not_lt_zero _)⟩
  obtain ⟨m1, e1, f1, r1⟩ := F1
  have e1 : lX9_reaches_l2 n (z (s : Int)) (z (if b = true then 1 else 0)) n (z 0) m = some m1 := e1
  have hJ0 : RJ (clo A b) s (fun c => if c = s then 0 else 9999) := ⟨if_pos rfl, fun c hc => by
    dsimp only
    by_cases e0 : c = s
    · rw [if_pos e0]
      exact Or.inr ⟨by omega, R_z.mpr e0⟩
    · rw [if_neg e0]
      exact Or.inl rfl⟩
  have hb0 := nsum_bd (f := fun c => if c = s then 0 else 9999) (b := 9999) (n := 64) (fun k _ => by
    split <;> omega)
  have F := whl (fun k (u : Int32 × pmI) => lX9_reaches_l34 n (z (s : Int)) (z (if b = true then 1 else 0)) k u.1 u.2)
    (fun a u => ∃ g fl, u.1 = z ((fl : Nat) : Int) ∧ RJ (clo A b) s g ∧ RR u.2 g ∧ rfr m u.2 ∧ ((fl = 1 ∧ a = nsum g 64 + 1) ∨ (fl = 0 ∧ RX (clo A b) s g 64 0)))
    (fun r => ∃ m' g, r = some m' ∧ RJ (clo A b) s g ∧ RR m' g ∧ RX (clo A b) s g 64 0 ∧ rfr m m')
    (fun k a u hI r hr => by
      obtain ⟨i3, mm⟩ := u
      obtain ⟨g, fl, y1, y2, y3, y4, y5⟩ := hI
      have y1 : i3 = z (fl : Int) := y1
      have y3 : RR mm g := y3
      have y4 : rfr m mm := y4
      subst y1
      have hA' : repR (mm.1 114) A := by rw [y4.1 114 (by decide)]; exact hA
      have hr : bX9_reaches_l34 n (z (s : Int)) (z (if b = true then 1 else 0)) (lX9_reaches_l34 n (z (s : Int)) (z (if b = true then 1 else 0)) k) (z (fl : Int)) mm = r := hr
      unfold bX9_reaches_l34 at hr
      rcases y5 with ⟨rfl, y6⟩ | ⟨rfl, y6⟩
      · right
        obtain ⟨g', fl', m', e2, x1, x2, x3, x4⟩ := rea_round (n := n) (m := mm) hs hA' w (by omega) y2 y3
        rw [if_neg (by decide), e2, obind] at hr
        rcases x3 with ⟨rfl, rfl, x3⟩ | ⟨rfl, x3⟩
        · exact ⟨0, (z ((0 : Nat) : Int), m'), by omega, ⟨_, 0, rfl, x1, x2, rfr_tr y4 x4, Or.inr ⟨rfl, x3⟩⟩, hr.symm⟩
        · exact ⟨nsum g' 64 + 1, (z ((1 : Nat) : Int), m'), by omega, ⟨g', 1, rfl, x1, x2, rfr_tr y4 x4, Or.inl ⟨rfl, rfl⟩⟩, hr.symm⟩
      · left
        rw [if_pos (show z ((0 : Nat) : Int) = z 0 from rfl)] at hr
        exact ⟨mm, g, hr.symm, y2, y3, y6, y4⟩)
    n (nsum (fun c => if c = s then 0 else 9999) 64 + 1) (z ((1 : Nat) : Int), m1) (by omega) ⟨_, 1, rfl, hJ0, r1, f1, Or.inl ⟨rfl, rfl⟩⟩
  obtain ⟨m', g, e2, x1, x2, x3, x4⟩ := F
  have e2 : lX9_reaches_l34 n (z (s : Int)) (z (if b = true then 1 else 0)) n (z 1) m1 = some m' := e2
  unfold fX9_reaches
  rw [e1, obind, e2, obind]
  refine ⟨m', rfl, fun c hc => ?_, x4⟩
  have h9 := Dst_dst hs (fun _ _ _ => rfl) (RX_D hs x1 x3) hc
  rw [x2 c hc, ← h9]
  by_cases e0 : g c = 9999
  · rw [if_pos e0, e0]
    rfl
  · rw [if_neg e0]
    rfl
end REACH
