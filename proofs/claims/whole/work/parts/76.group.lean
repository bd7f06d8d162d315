/-! areas: the model's labels -/
def GX (P : Nat → Bool) (g : Nat → Nat) (c d : Nat) : Prop := ∀ c' d', (c' < c ∨ (c' = c ∧ d' < d)) → c' < 64 → d' < 4 → P c' = false → ∀ e, nb c' d' = some e → P e = false → g c' ≤ g e
def GP (P : Nat → Bool) (g0 g : Nat → Nat) (fl c d : Nat) : Prop := (fl = 0 ∧ g = g0 ∧ GX P g c d) ∨ (fl = 1 ∧ nsum g 64 < nsum g0 64)
def GJ (P : Nat → Bool) (g : Nat → Nat) : Prop := ∀ c, c < 64 → g c ≤ c ∧ (P c = false → P (g c) = false ∧ K P c (g c) = true)
def gfr (m m' : pmI) : Prop := (∀ i, ¬ i = 120 → m'.1 i = m.1 i) ∧ m'.2 = m.2
theorem gfr_rf {m : pmI} : gfr m m := ⟨fun _ _ => rfl, rfl⟩
theorem gfr_tr {m m1 m2 : pmI} (h1 : gfr m m1) (h2 : gfr m1 m2) : gfr m m2 := ⟨fun i a => (h2.1 i a).trans (h1.1 i a), h2.2.trans h1.2⟩
def GR (m : pmI) (g : Nat → Nat) : Prop := ∀ c, c < 64 → m.1 120 c = z (g c)
theorem GP_le {P : Nat → Bool} {g0 g : Nat → Nat} {fl c d : Nat} (h : GP P g0 g fl c d) : nsum g 64 ≤ nsum g0 64 := by
  rcases h with ⟨-, h, -⟩ | ⟨-, h⟩
  · rw [h]; exact Nat.le_refl _
  · omega
theorem GP_st {P : Nat → Bool} {g0 g : Nat → Nat} {fl c d : Nat} (h : GP P g0 g fl c d) (hn : ∀ e, nb c d = some e → P e = false → g c ≤ g e) : GP P g0 g fl c (d + 1) := by
  rcases h with ⟨h1, h2, h3⟩ | h
  · refine Or.inl ⟨h1, h2, fun c' d' h4 h5 h6 h7 e h8 h9 => ?_⟩
    by_cases e0 : c' = c ∧ d' = d
    · obtain ⟨rfl, rfl⟩ := e0
      exact hn e h8 h9
    · exact h3 c' d' (by omega) h5 h6 h7 e h8 h9
  · exact Or.inr h
theorem GP_nx {P : Nat → Bool} {g0 g : Nat → Nat} {fl c : Nat} (h : GP P g0 g fl c 4) : GP P g0 g fl (c + 1) 0 := by
  rcases h with ⟨h1, h2, h3⟩ | h
  · exact Or.inl ⟨h1, h2, fun c' d' h4 h5 h6 h7 e h8 h9 => h3 c' d' (by omega) h5 h6 h7 e h8 h9⟩
  · exact Or.inr h
theorem GP_no {P : Nat → Bool} {g0 g : Nat → Nat} {fl c : Nat} (h : GP P g0 g fl c 0) (hc : P c = true) : GP P g0 g fl (c + 1) 0 := by
  rcases h with ⟨h1, h2, h3⟩ | h
  · refine Or.inl ⟨h1, h2, fun c' d' h4 h5 h6 h7 e h8 h9 => ?_⟩
    by_cases e0 : c' = c
    · rw [e0, hc] at h7; cases h7
    · exact h3 c' d' (by omega) h5 h6 h7 e h8 h9
  · exact Or.inr h
theorem GX_eq {P : Nat → Bool} {g : Nat → Nat} (h : GX P g 64 0) {a e : Nat} (ha : a < 64) (hp : P a = false) (hq : P e = false) (hd : adj a e = true) : g a = g e := by
  have he := adj_lt ha hd
  obtain ⟨d, d1, d2⟩ := adj_ex hd
  obtain ⟨u, u1, u2⟩ := adj_ex (adj_sym ha hd)
  have h1 := h a d (Or.inl ha) ha d1 hp e d2 hq
  have h2 := h e u (Or.inl he) he u1 hq a u2 hp
  omega
theorem GX_K {P : Nat → Bool} {g : Nat → Nat} (h : GX P g 64 0) {a : Nat} (ha : a < 64) (hp : P a = false) : ∀ {k c : Nat}, R P a k c = true → g a = g c
  | 0, c, hr => by rw [R_z.mp hr]
  | k + 1, c, hr => by
    rcases R_s.mp hr with h1 | ⟨h1, e, h2, h3, h4⟩
    · exact GX_K h ha hp h1
    · rw [GX_K h ha hp h4]
      exact GX_eq h h2 (K_op hp (K_of ha h4)) h1 h3
theorem GX_lead {P : Nat → Bool} {g : Nat → Nat} (h : GX P g 64 0) (hJ : GJ P g) {c : Nat} (hc : c < 64) : lead P c = (!P c && decide (g c = c)) := by
  rw [Bool.eq_iff_iff, lead_iff, Bool.and_eq_true, Bool.not_eq_true', decide_eq_true_eq]
  constructor
  · rintro ⟨h1, h2⟩
    refine ⟨h1, ?_⟩
    obtain ⟨j1, j2⟩ := hJ c hc
    obtain ⟨j3, j4⟩ := j2 h1
    rcases Nat.lt_or_ge (g c) c with h3 | h3
    · have := h2 (g c) h3 j3
      rw [K_sy hc h1 j4] at this
      cases this
    · omega
  · rintro ⟨h1, h2⟩
    refine ⟨h1, fun b hb hp => Bool.eq_false_iff.mpr fun hk => ?_⟩
    have h3 := GX_K h (show b < 64 by omega) hp hk
    have h4 := (hJ b (by omega)).1
    omega
section GROUP
variable {n : Nat} {m : pmI} {A : Ab}
theorem gro_in {c fl : Nat} {g0 g : Nat → Nat} (hA : repR (m.1 114) A) (hn : 100 ≤ n) (hc : c < 64) (ho : aP A c = false) (h1 : GJ (aP A) g) (h2 : GR m g) (h3 : GP (aP A) g0 g fl c 0) : ∃ g' fl' m', lX9_groups_l39 n (z (c : Int)) n (z (fl : Int)) (z 0) m = some (z ((fl' : Nat) : Int), m') ∧ GJ (aP A) g' ∧ GR m' g' ∧ GP (aP A) g0 g' fl' c 4 ∧ gfr m m' := by
  have F := forI (fun k i (u : Int32 × pmI) => lX9_groups_l39 n (z (c : Int)) k u.1 i u.2) 4
    (fun d u => ∃ g' fl', u.1 = z ((fl' : Nat) : Int) ∧ GJ (aP A) g' ∧ GR u.2 g' ∧ GP (aP A) g0 g' fl' c d ∧ gfr m u.2)
    (fun r => ∃ g' fl' m', r = some (z ((fl' : Nat) : Int), m') ∧ GJ (aP A) g' ∧ GR m' g' ∧ GP (aP A) g0 g' fl' c 4 ∧ gfr m m')
    (fun k d u hd hI => by
      obtain ⟨i4, mm⟩ := u
      obtain ⟨g', fl', y1, y2, y3, y4, y5⟩ := hI
      have y1 : i4 = z (fl' : Int) := y1
      have y3 : GR mm g' := y3
      have y5 : gfr m mm := y5
      subst y1
      have hA' : repR (mm.1 114) A := by rw [y5.1 114 (by decide)]; exact hA
      show ∃ s', _ ∧ bX9_groups_l39 n (z (c : Int)) (lX9_groups_l39 n (z (c : Int)) k) (z (fl' : Int)) (z (d : Int)) mm = _
      unfold bX9_groups_l39
      have stay : (∀ e, nb c d = some e → aP A e = false → g' c ≤ g' e) → ∃ s' : Int32 × pmI, (∃ g' fl', s'.1 = z ((fl' : Nat) : Int) ∧ GJ (aP A) g' ∧ GR s'.2 g' ∧ GP (aP A) g0 g' fl' c (d + 1) ∧ gfr m s'.2) ∧ lX9_groups_l39 n (z (c : Int)) k (z (fl' : Int)) (z (d : Int) + z 1) mm = lX9_groups_l39 n (z (c : Int)) k s'.1 (z ((d : Int) + 1)) s'.2 := fun hw => ⟨(z (fl' : Int), mm), ⟨g', fl', rfl, y2, y3, GP_st y4 hw, y5⟩, by rw [z_add]⟩
      rw [if_pos (zlt (by omega)), m_isProp hA' hc, obind, if_neg (show ¬ aP A c = true by rw [ho]; decide), if_pos rfl, m_way hd, obind, m_moved hc (by omega), obind]
      cases he : nb c d with
      | none =>
        rw [oz_n, if_pos (by decide)]
        exact stay (fun e h => by rw [he] at h; cases h)
      | some e =>
        have he64 := nb_lt hc he
        have b1 := (y2 c hc).1
        have b2 := (y2 e he64).1
        rw [oz_s, if_neg (zge (by omega)), m_isProp hA' he64, obind]
        by_cases hp : aP A e = true
        · rw [if_pos hp, if_neg z10]
          exact stay (fun e' h hq => by
            rw [he] at h
            cases h
            rw [hp] at hq; cases hq)
        · have hp' : aP A e = false := Bool.eq_false_iff.mpr hp
          rw [if_neg hp, if_pos rfl, if_pos ⟨okI_z (by omega), okI_z (by omega)⟩, z_nat (by omega), z_nat (by omega), y3 e he64, y3 c hc]
          by_cases hl : g' e < g' c
          · rw [if_pos (zlt (by omega)), if_pos ⟨okI_z (by omega), okI_z (by omega)⟩, pmLet_eq]
            obtain ⟨m1, e1, j1, o1, r1⟩ := w_1 mm 120 c (z (g' e : Int))
            rw [e1, z_add]
            have hs := nsum_set (f := g') (k := c) (v := g' e) (n := 64) hc
            have hle := GP_le y4
            refine ⟨(z ((1 : Nat) : Int), m1), ⟨fun x => if x = c then g' e else g' x, 1, rfl, fun x hx => ?_, fun x hx => ?_, Or.inr ⟨rfl, by omega⟩, gfr_tr y5 ⟨o1, j1⟩⟩, rfl⟩
            · try dsimp only
              by_cases e0 : x = c
              · rw [if_pos e0, e0]
                refine ⟨by omega, fun _ => ?_⟩
                obtain ⟨k1, k2⟩ := (y2 e he64).2 hp'
                exact ⟨k1, K_tr hc he64 (K_st hc hc K_rf (adj_of hd he) hp') k2⟩
              · rw [if_neg e0]
                exact y2 x hx
            · show m1.1 120 x = _
              rw [r1]
              try dsimp only
              by_cases e0 : x = c
              · rw [if_pos e0, if_pos e0]
              · rw [if_neg e0, if_neg e0]
                exact y3 x hx
          · rw [if_neg (zge (by omega))]
            exact stay (fun e' h _ => by
              rw [he] at h
              cases h
              omega))
    (fun k u hI => by
      obtain ⟨i4, mm⟩ := u
      obtain ⟨g', fl', y1, y2⟩ := hI
      have y1 : i4 = z (fl' : Int) := y1
      subst y1
      refine ⟨g', fl', mm, ?_, y2⟩
      show bX9_groups_l39 n (z (c : Int)) (lX9_groups_l39 n (z (c : Int)) k) (z (fl' : Int)) (z ((4 : Nat) : Int)) mm = _
      unfold bX9_groups_l39
      rw [if_neg (zge (by omega))]) 4 0 n (z (fl : Int), m) (by omega) (by omega) ⟨g, fl, rfl, h1, h2, h3, gfr_rf⟩
  exact F
theorem gro_no {c : Nat} {i : Int32} (hA : repR (m.1 114) A) (hn : 100 ≤ n) (hc : c < 64) (ho : aP A c = true) : lX9_groups_l39 n (z (c : Int)) n i (z 0) m = some (i, m) := by
  obtain ⟨k, rfl⟩ : ∃ k, n = k + 1 := ⟨n - 1, by omega⟩
  show bX9_groups_l39 (k + 1) (z (c : Int)) (lX9_groups_l39 (k + 1) (z (c : Int)) k) i (z 0) m = _
  unfold bX9_groups_l39
  rw [if_pos (by decide), m_isProp hA hc, obind, if_pos ho, if_neg z10]
theorem gro_round {g : Nat → Nat} (hA : repR (m.1 114) A) (hn : 100 ≤ n) (h1 : GJ (aP A) g) (h2 : GR m g) : ∃ g' fl' m', lX9_groups_l31 n n (z 0) (z 0) m = some (z ((fl' : Nat) : Int), m') ∧ GJ (aP A) g' ∧ GR m' g' ∧ GP (aP A) g g' fl' 64 0 ∧ gfr m m' := by
  have F := forI (fun k i (u : Int32 × pmI) => lX9_groups_l31 n k u.1 i u.2) 64
    (fun c u => ∃ g' fl', u.1 = z ((fl' : Nat) : Int) ∧ GJ (aP A) g' ∧ GR u.2 g' ∧ GP (aP A) g g' fl' c 0 ∧ gfr m u.2)
    (fun r => ∃ g' fl' m', r = some (z ((fl' : Nat) : Int), m') ∧ GJ (aP A) g' ∧ GR m' g' ∧ GP (aP A) g g' fl' 64 0 ∧ gfr m m')
    (fun k c u hc hI => by
      obtain ⟨i4, mm⟩ := u
      obtain ⟨g', fl', y1, y2, y3, y4, y5⟩ := hI
      have y1 : i4 = z (fl' : Int) := y1
      have y3 : GR mm g' := y3
      have y5 : gfr m mm := y5
      subst y1
      have hA' : repR (mm.1 114) A := by rw [y5.1 114 (by decide)]; exact hA
      show ∃ s', _ ∧ bX9_groups_l31 n (lX9_groups_l31 n k) (z (fl' : Int)) (z (c : Int)) mm = _
      unfold bX9_groups_l31
      rw [if_pos (zlt (by omega))]
      by_cases hp : aP A c = true
      · rw [gro_no hA' hn hc hp, obind]
        exact ⟨(z (fl' : Int), mm), ⟨g', fl', rfl, y2, y3, GP_no y4 hp, y5⟩, by rw [z_add]⟩
      · obtain ⟨g2, fl2, m2, e2, x1, x2, x3, x4⟩ := gro_in (m := mm) hA' hn hc (Bool.eq_false_iff.mpr hp) y2 y3 y4
        rw [e2, obind]
        exact ⟨(z (fl2 : Int), m2), ⟨g2, fl2, rfl, x1, x2, GP_nx x3, gfr_tr y5 x4⟩, by rw [z_add]⟩)
    (fun k u hI => by
      obtain ⟨i4, mm⟩ := u
      obtain ⟨g', fl', y1, y2⟩ := hI
      have y1 : i4 = z (fl' : Int) := y1
      subst y1
      refine ⟨g', fl', mm, ?_, y2⟩
      show bX9_groups_l31 n (lX9_groups_l31 n k) (z (fl' : Int)) (z ((64 : Nat) : Int)) mm = _
      unfold bX9_groups_l31
      rw [if_neg (zge (by omega))]) 64 0 n (z ((0 : Nat) : Int), m) (by omega) (by omega) ⟨g, 0, rfl, h1, h2, Or.inl ⟨rfl, rfl, fun c' d' h => by omega⟩, gfr_rf⟩
  exact F
theorem m_groups (hA : repR (m.1 114) A) (hn : 700000 ≤ n) : ∃ m' g, fX9_groups n m = some m' ∧ GJ (aP A) g ∧ GR m' g ∧ GX (aP A) g 64 0 ∧ gfr m m' := by
  have F1 := forI (lX9_groups_l2 n) 64
    (fun i u => gfr m u ∧ ∀ c, c < i → u.1 120 c = z (c : Int))
    (fun r => ∃ u, r = some u ∧ gfr m u ∧ ∀ c, c < 64 → u.1 120 c = z (c : Int))
    (fun k i u hi hI => by
      obtain ⟨t, e, j, o, r⟩ := w_1 u 120 i (z (i : Int))
      show ∃ s', _ ∧ bX9_groups_l2 n (lX9_groups_l2 n k) (z (i : Int)) u = _
      unfold bX9_groups_l2
      rw [if_pos (zlt (by omega)), if_pos (okI_z (by omega)), z_nat (by omega), pmLet_eq, e, z_add]
      refine ⟨t, ⟨gfr_tr hI.1 ⟨o, j⟩, fun c hc => ?_⟩, rfl⟩
      rw [r]
      by_cases e0 : c = i
      · rw [if_pos e0, e0]
      · rw [if_neg e0]
        exact hI.2 c (by omega))
    (fun k u hI => by
      refine ⟨u, ?_, hI⟩
      show bX9_groups_l2 n (lX9_groups_l2 n k) (z ((64 : Nat) : Int)) u = _
      unfold bX9_groups_l2
      rw [if_neg (zge (by omega))]) 64 0 n m (by omega) (by omega) ⟨gfr_rf, fun c hc => absurd hc (Nat.not_lt_zero _)⟩
  obtain ⟨m1, e1, f1, r1⟩ := F1
  have e1 : lX9_groups_l2 n n (z 0) m = some m1 := e1
  have hb0 := nsum_bd (f := fun c => c) (b := 64) (n := 64) (fun k _ => by
    show k ≤ 64
    omega)
  have F := whl (fun k (u : Int32 × pmI) => lX9_groups_l23 n k u.1 u.2)
    (fun a u => ∃ g fl, u.1 = z ((fl : Nat) : Int) ∧ GJ (aP A) g ∧ GR u.2 g ∧ gfr m u.2 ∧ ((fl = 1 ∧ a = nsum g 64 + 1) ∨ (fl = 0 ∧ GX (aP A) g 64 0)))
    (fun r => ∃ m' g, r = some m' ∧ GJ (aP A) g ∧ GR m' g ∧ GX (aP A) g 64 0 ∧ gfr m m')
    (fun k a u hI r hr => by
      obtain ⟨i3, mm⟩ := u
      obtain ⟨g, fl, y1, y2, y3, y4, y5⟩ := hI
      have y1 : i3 = z (fl : Int) := y1
      have y3 : GR mm g := y3
      have y4 : gfr m mm := y4
      subst y1
      have hA' : repR (mm.1 114) A := by rw [y4.1 114 (by decide)]; exact hA
      have hr : bX9_groups_l23 n (lX9_groups_l23 n k) (z (fl : Int)) mm = r := hr
      unfold bX9_groups_l23 at hr
      rcases y5 with ⟨rfl, y6⟩ | ⟨rfl, y6⟩
      · right
        obtain ⟨g', fl', m', e2, x1, x2, x3, x4⟩ := gro_round (n := n) (m := mm) hA' (by omega) y2 y3
        rw [if_neg (by decide), e2, obind] at hr
        rcases x3 with ⟨rfl, rfl, x3⟩ | ⟨rfl, x3⟩
        · exact ⟨0, (z ((0 : Nat) : Int), m'), by omega, ⟨_, 0, rfl, x1, x2, gfr_tr y4 x4, Or.inr ⟨rfl, x3⟩⟩, hr.symm⟩
        · exact ⟨nsum g' 64 + 1, (z ((1 : Nat) : Int), m'), by omega, ⟨g', 1, rfl, x1, x2, gfr_tr y4 x4, Or.inl ⟨rfl, rfl⟩⟩, hr.symm⟩
      · left
        rw [if_pos (show z ((0 : Nat) : Int) = z 0 from rfl)] at hr
        exact ⟨mm, g, hr.symm, y2, y3, y6, y4⟩)
    n (nsum (fun c => c) 64 + 1) (z ((1 : Nat) : Int), m1) (by omega) ⟨_, 1, rfl, fun c hc => ⟨Nat.le_refl _, fun hp => ⟨hp, K_rf⟩⟩, r1, f1, Or.inl ⟨rfl, rfl⟩⟩
  obtain ⟨m', g, e2, x1, x2, x3, x4⟩ := F
  have e2 : lX9_groups_l23 n n (z 1) m1 = some m' := e2
  unfold fX9_groups
  rw [e1, obind, e2, obind]
  exact ⟨m', g, rfl, x1, x2, x3, x4⟩
theorem m_areas (hA : repR (m.1 114) A) (hn : 700000 ≤ n) : ∃ m', fX9_areas n m = some (z ((cnt (lead (aP A)) 64 : Nat) : Int), m') ∧ m'.1 113 10 = z 0 ∧ mfr m m' ∧ m'.1 114 = m.1 114 := by
  obtain ⟨m1, e1, j1, o1, r1⟩ := w_1 m 113 10 (z 0)
  have hA1 : repR (m1.1 114) A := by rw [o1 114 (by decide)]; exact hA
  obtain ⟨m2, g, e2, x1, x2, x3, x4⟩ := m_groups (m := m1) hA1 hn
  have hA2 : repR (m2.1 114) A := by rw [x4.1 114 (by decide)]; exact hA1
  unfold fX9_areas
  rw [pmLet_eq, e1, e2, obind]
  have F := cntl (lX9_areas_l13 n m2) 64 (lead (aP A)) (fun k i c hi => by
    show bX9_areas_l13 n m2 (lX9_areas_l13 n m2 k) (z (c : Int)) (z (i : Int)) = _
    unfold bX9_areas_l13
    rw [if_pos (zlt (by omega)), m_isProp hA2 hi, obind, GX_lead x3 x1 hi]
    have hb := (x1 i hi).1
    by_cases hp : aP A i = true
    · rw [if_pos hp, if_neg z10, if_neg (show ¬ (!aP A i && decide (g i = i)) = true by rw [hp, Bool.not_true, Bool.false_and]; decide), z_add, z_add]
      rfl
    · have hp' := Bool.eq_false_iff.mpr hp
      rw [if_neg hp, if_pos rfl, if_pos (okI_z (by omega)), z_nat (by omega), x2 i hi, hp', z_add, z_add, z_add]
      by_cases hg : g i = i
      · rw [if_pos (by rw [hg]), if_pos (by rw [decide_eq_true hg]; rfl)]
        rfl
      · rw [if_neg (zne (by omega)), if_neg (by rw [decide_eq_false hg]; decide)]
        rfl) (fun k c => by
    show bX9_areas_l13 n m2 (lX9_areas_l13 n m2 k) (z (c : Int)) (z ((64 : Nat) : Int)) = _
    unfold bX9_areas_l13
    rw [if_neg (zge (by omega))]) 64 0 n (by omega) (by omega)
  have F : lX9_areas_l13 n m2 n (z 0) (z 0) = some (z ((cnt (lead (aP A)) 64 : Nat) : Int)) := F
  rw [F, obind]
  refine ⟨m2, rfl, ?_, ⟨fun i hi => ?_, by rw [x4.2, j1], fun k hk => ?_⟩, by rw [x4.1 114 (by decide), o1 114 (by decide)]⟩
  · rw [x4.1 113 (by decide), r1, if_pos rfl]
  · rw [x4.1 i (by omega), o1 i (by omega)]
  · rw [x4.1 113 (by decide), r1, if_neg (by omega)]
end GROUP
