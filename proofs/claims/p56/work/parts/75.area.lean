/-! areas: the class fills -/
/-- a cell is reached -/
def K (P : Nat → Bool) (a c : Nat) : Bool := R P a 64 c
section KK
variable {P : Nat → Bool} {a b c e : Nat}
theorem K_rf : K P a a = true := R_up (Nat.zero_le _) (R_z.mpr rfl)
theorem K_lt (ha : a < 64) (h : K P a c = true) : c < 64 := R_lt ha h
theorem K_of (ha : a < 64) {k : Nat} (h : R P a k c = true) : K P a c = true := R_64 ha h
theorem K_st (ha : a < 64) (he : e < 64) (h : K P a e = true) (h1 : adj e c = true) (h2 : P c = false) : K P a c = true := K_of (k := 65) ha (R_s.mpr (Or.inr ⟨h2, e, he, h1, h⟩))
theorem K_op (hp : P a = false) (h : K P a c = true) : P c = false := by
  rcases R_open h with h | h
  · rw [h]; exact hp
  · exact h
theorem K_tr0 (ha : a < 64) (hb : b < 64) (h : K P a b = true) : ∀ {k c : Nat}, R P b k c = true → K P a c = true
  | 0, c, hr => by rw [R_z.mp hr]; exact h
  | k + 1, c, hr => by
    rcases R_s.mp hr with h1 | ⟨h1, e, h2, h3, h4⟩
    · exact K_tr0 ha hb h h1
    · exact K_st ha h2 (K_tr0 ha hb h h4) h3 h1
theorem K_tr (ha : a < 64) (hb : b < 64) (h : K P a b = true) (h2 : K P b c = true) : K P a c = true := K_tr0 ha hb h h2
theorem K_sy0 (ha : a < 64) (hp : P a = false) : ∀ {k c : Nat}, R P a k c = true → K P c a = true
  | 0, c, hr => by rw [R_z.mp hr]; exact K_rf
  | k + 1, c, hr => by
    have hc := R_lt ha hr
    rcases R_s.mp hr with h1 | ⟨h1, e, h2, h3, h4⟩
    · exact K_sy0 ha hp h1
    · exact K_tr hc h2 (K_st hc hc K_rf (adj_sym h2 h3) (K_op hp (K_of ha h4))) (K_sy0 ha hp h4)
theorem K_sy (ha : a < 64) (hp : P a = false) (h : K P a c = true) : K P c a = true := K_sy0 ha hp h
end KK
/-- the first cell of an area -/
def lead (P : Nat → Bool) (c : Nat) : Bool := !P c && decide (∀ b, b < c → P b = false → K P b c = false)
theorem lead_iff {P : Nat → Bool} {c : Nat} : lead P c = true ↔ P c = false ∧ ∀ b, b < c → P b = false → K P b c = false := by
  unfold lead
  rw [Bool.and_eq_true, Bool.not_eq_true', decide_eq_true_eq]
def afr (m m' : pmI) : Prop := (∀ i, ¬ i = 92 → ¬ i = 93 → m'.1 i = m.1 i) ∧ m'.2 = m.2
theorem afr_rf {m : pmI} : afr m m := ⟨fun _ _ _ => rfl, rfl⟩
theorem afr_tr {m m1 m2 : pmI} (h1 : afr m m1) (h2 : afr m1 m2) : afr m m2 := ⟨fun i a b => (h2.1 i a b).trans (h1.1 i a b), h2.2.trans h1.2⟩
theorem afr_92 {m m1 : pmI} (h1 : m1.2 = m.2) (h2 : ∀ a, a ≠ 92 → m1.1 a = m.1 a) : afr m m1 := ⟨fun i a _ => h2 i a, h1⟩
theorem afr_93 {m m1 : pmI} (h1 : m1.2 = m.2) (h2 : ∀ a, a ≠ 93 → m1.1 a = m.1 a) : afr m m1 := ⟨fun i _ a => h2 i a, h1⟩
section AREA
variable {n : Nat} {m : pmI}
theorem fil_in {s t f : Nat} {cl x : Int64} {w7 : Int32} {vis : Nat → Bool} {L q : Nat → Nat} (hn : 100 ≤ n) (h : BI (bt cl) s vis L q f t 0) (hx : ∀ c, c < 64 → bt x c = vis c) (hr : ∀ i, i < f → m.1 92 i = z (q i)) (ht : t < f) : ∃ vis' L' q' f' x' m', lX0_fillFrom_91_l58 n cl w7 (z (q t : Int)) n x (z (f : Int)) (z 0) m = some (x', z ((f' : Nat) : Int), m') ∧ BI (bt cl) s vis' L' q' f' t 4 ∧ (∀ c, c < 64 → bt x' c = vis' c) ∧ (∀ i, i < f' → m'.1 92 i = z (q' i)) ∧ f ≤ f' ∧ afr m m' := by
  have F := forI (fun k i (u : Int64 × Int32 × pmI) => lX0_fillFrom_91_l58 n cl w7 (z (q t : Int)) k u.1 u.2.1 i u.2.2) 4
    (fun d u => ∃ vis' L' q' f', u.2.1 = z ((f' : Nat) : Int) ∧ BI (bt cl) s vis' L' q' f' t d ∧ (∀ c, c < 64 → bt u.1 c = vis' c) ∧ (∀ i, i < f' → u.2.2.1 92 i = z (q' i)) ∧ f ≤ f' ∧ afr m u.2.2 ∧ q' t = q t)
    (fun r => ∃ vis' L' q' f' x' m', r = some (x', z ((f' : Nat) : Int), m') ∧ BI (bt cl) s vis' L' q' f' t 4 ∧ (∀ c, c < 64 → bt x' c = vis' c) ∧ (∀ i, i < f' → m'.1 92 i = z (q' i)) ∧ f ≤ f' ∧ afr m m')
    (fun k d u hd hI => by
      obtain ⟨xx, i6, mm⟩ := u
      obtain ⟨vis', L', q', f', h1, h2, h3, h4, h5, h6, h7⟩ := hI
      have h1 : i6 = z (f' : Int) := h1
      have h3 : ∀ c, c < 64 → bt xx c = vis' c := h3
      have h4 : ∀ i, i < f' → mm.1 92 i = z (q' i) := h4
      have h6 : afr m mm := h6
      subst h1
      have hq := h2.2.1 t (by omega)
      rw [h7] at hq
      have old : (nb (q' t) d = none ∨ ∃ e, nb (q' t) d = some e ∧ (vis' e = true ∨ bt cl e = true)) → (∃ vis'' L'' q'' f'', z ((f' : Nat) : Int) = z ((f'' : Nat) : Int) ∧ BI (bt cl) s vis'' L'' q'' f'' t (d + 1) ∧ (∀ c, c < 64 → bt xx c = vis'' c) ∧ (∀ i, i < f'' → mm.1 92 i = z (q'' i)) ∧ f ≤ f'' ∧ afr m mm ∧ q'' t = q t) := fun ho => ⟨vis', L', q', f', rfl, BI_old h2 (by omega) ho, h3, h4, h5, h6, h7⟩
      show ∃ s', _ ∧ bX0_fillFrom_91_l58 n cl w7 (z (q t : Int)) (lX0_fillFrom_91_l58 n cl w7 (z (q t : Int)) k) xx (z (f' : Int)) (z (d : Int)) mm = _
      unfold bX0_fillFrom_91_l58
      rw [if_pos (zlt (by omega)), f_after hq.1 hd, obind]
      cases he : nb (q t) d with
      | none =>
        refine ⟨(xx, z (f' : Int), mm), old (Or.inl (by rw [h7]; exact he)), ?_⟩
        rw [oz_n, if_pos rfl, z_add]
      | some e =>
        have he64 := nb_lt hq.1 he
        rw [oz_s, if_neg (zne (by omega)), f_holds _ he64, obind, bt_or, h3 e he64]
        by_cases hv : vis' e = true ∨ bt cl e = true
        · refine ⟨(xx, z (f' : Int), mm), old (Or.inr ⟨e, by rw [h7]; exact he, hv⟩), ?_⟩
          rw [if_pos (show (bt cl e || vis' e) = true by rw [Bool.or_eq_true]; exact hv.symm), if_neg z10, z_add]
        · have hv' : vis' e = false := Bool.eq_false_iff.mpr (fun h => hv (Or.inl h))
          have hb' : bt cl e = false := Bool.eq_false_iff.mpr (fun h => hv (Or.inr h))
          have hf : f' < 64 := by
            have h7 := cnt_set hv' he64
            have h8 := cnt_le (fun k => if k = e then true else vis' k) 64
            have h9 := h2.1.2.1
            omega
          obtain ⟨m1, e1, j1, o1, r1⟩ := w_1 mm 92 f' (z (e : Int))
          rw [if_neg (show ¬ (bt cl e || vis' e) = true by rw [hv', hb']; decide), if_pos rfl, s_92 hf, obind, e1, one_eq]
          refine ⟨(xx ||| one (z (e : Int)), z ((f' + 1 : Nat) : Int), m1), ⟨_, _, _, f' + 1, rfl, BI_new h2 (by omega) hd (by rw [h7]; exact he) hv' hb', fun c hc => ?_, fun i hi => ?_, by omega, afr_tr h6 (afr_92 j1 o1), ?_⟩, ?_⟩
          · show bt (xx ||| one (z (e : Int))) c = _
            rw [bt_or, bt_one e he64 c hc, h3 c hc]
            try dsimp only
            by_cases e0 : c = e
            · rw [if_pos e0, decide_eq_true e0, Bool.or_true]
            · rw [if_neg e0, decide_eq_false e0, Bool.or_false]
          · show m1.1 92 i = _
            rw [r1]
            try dsimp only
            by_cases e0 : i = f'
            · rw [if_pos e0, if_pos e0]
            · rw [if_neg e0, if_neg e0]
              exact h4 i (by omega)
          · show (if t = f' then e else q' t) = q t
            rw [if_neg (by omega)]
            exact h7
          · rw [z_add, z_add]
            rfl)
    (fun k u hI => by
      obtain ⟨xx, i6, mm⟩ := u
      obtain ⟨vis', L', q', f', h1, h2, h3, h4, h5, h6, h7⟩ := hI
      have h1 : i6 = z (f' : Int) := h1
      subst h1
      refine ⟨vis', L', q', f', xx, mm, ?_, h2, h3, h4, h5, h6⟩
      show bX0_fillFrom_91_l58 n cl w7 (z (q t : Int)) (lX0_fillFrom_91_l58 n cl w7 (z (q t : Int)) k) xx (z (f' : Int)) (z ((4 : Nat) : Int)) mm = _
      unfold bX0_fillFrom_91_l58
      rw [if_neg (zge (by omega))]) 4 0 n (x, z (f : Int), m) (by omega) (by omega) ⟨vis, L, q, f, rfl, h, hx, hr, Nat.le_refl _, afr_rf, rfl⟩
  exact F
theorem c_fill (hn : 100 ≤ n) {s : Nat} (hs : s < 64) (cl : Int64) (hp : bt cl s = false) : ∃ m' x, fX0_fillFrom_91 n (z (s : Int)) cl m = some (x, m') ∧ (∀ c, c < 64 → bt x c = K (bt cl) s c) ∧ afr m m' := by
  obtain ⟨m1, e1, j1, o1, r1⟩ := w_1 m 92 0 (z (s : Int))
  unfold fX0_fillFrom_91
  rw [f_holds _ hs, obind, hp, if_neg (show ¬ (false = true) by decide), if_pos rfl, show z 0 = z ((0 : Nat) : Int) from rfl, s_92 (by omega), obind, e1, one_eq]
  have F := whl (fun k (u : Int64 × Int32 × Int32 × pmI) => lX0_fillFrom_91_l30 n cl k u.1 u.2.1 u.2.2.1 u.2.2.2)
    (fun a u => ∃ t f vis L q, (u.2.1 = z ((f : Nat) : Int) ∧ u.2.2.1 = z ((t : Nat) : Int) ∧ a = 64 - t) ∧ BI (bt cl) s vis L q f t 0 ∧ (∀ c, c < 64 → bt u.1 c = vis c) ∧ (∀ i, i < f → u.2.2.2.1 92 i = z (q i)) ∧ afr m u.2.2.2)
    (fun r => ∃ m' x, r = some (x, m') ∧ (∀ c, c < 64 → bt x c = K (bt cl) s c) ∧ afr m m')
    (fun k a u hI r hr => by
      obtain ⟨xx, i6, i7, mm⟩ := u
      obtain ⟨t, f, vis, L, q, ⟨h1, h2, h3⟩, h4, h5, h6, h7⟩ := hI
      have h1 : i6 = z (f : Int) := h1
      have h2 : i7 = z (t : Int) := h2
      have h5 : ∀ c, c < 64 → bt xx c = vis c := h5
      have h6 : ∀ i, i < f → mm.1 92 i = z (q i) := h6
      have h7 : afr m mm := h7
      subst h1 h2
      have hf := BI_f h4
      have htf := h4.1.1
      have hr : bX0_fillFrom_91_l30 n cl (lX0_fillFrom_91_l30 n cl k) xx (z (f : Int)) (z (t : Int)) mm = r := hr
      unfold bX0_fillFrom_91_l30 at hr
      by_cases ht : t < f
      · right
        obtain ⟨vis', L', q', f', x', m', g1, g2, g3, g4, g5, g6⟩ := fil_in (w7 := z (t : Int)) hn h4 h5 h6 ht
        rw [if_pos (zlt (by omega)), if_pos (zlt (by omega)), a_92 (by omega), obind, h6 t ht, g1, obind, z_add] at hr
        have hf' := BI_f g2
        exact ⟨64 - (t + 1), (x', z (f' : Int), z ((t + 1 : Nat) : Int), m'), by omega, ⟨t + 1, f', vis', L', q', ⟨rfl, rfl, rfl⟩, BI_next g2 (by omega), g3, g4, afr_tr h7 g6⟩, hr.symm⟩
      · left
        rw [if_neg (zge (by omega))] at hr
        refine ⟨mm, xx, hr.symm, fun c hc => ?_, h7⟩
        rw [h5 c hc]
        have hD := BI_end hs h4 ht c hc
        rw [Bool.eq_iff_iff]
        constructor
        · intro hv
          exact K_of hs (hD.1 (L c) (if_pos hv))
        · intro hk
          obtain ⟨j, g1, -⟩ := hD.2 64 hk
          have g1 : (if vis c = true then some (L c) else none) = some j := g1
          by_cases hv : vis c = true
          · exact hv
          · rw [if_neg hv] at g1
            cases g1)
    n 64 (one (z (s : Int)), z ((1 : Nat) : Int), z ((0 : Nat) : Int), m1) (by omega) ⟨0, 1, fun c => decide (c = s), fun _ => 0, fun _ => s, ⟨rfl, rfl, rfl⟩, BI_0 hs rfl, fun c hc => bt_one s hs c hc, fun i hi => ?_, afr_92 j1 o1⟩
  · obtain ⟨m', x, g1, g2⟩ := F
    have g1 : lX0_fillFrom_91_l30 n cl n (one (z (s : Int))) (z 1) (z ((0 : Nat) : Int)) m1 = some (x, m') := g1
    rw [g1, obind]
    exact ⟨m', x, rfl, g2⟩
  · show m1.1 92 i = _
    rw [r1, if_pos (by omega)]
theorem c_areas (hn : 100 ≤ n) (cl : Int64) : ∃ m', fX0_countByFilling_91 n cl m = some (z ((cnt (lead (bt cl)) 64 : Nat) : Int), m') ∧ afr m m' := by
  have F := forI (fun k i (u : Int64 × Int32 × pmI) => lX0_countByFilling_91_l8 n cl k u.1 u.2.1 i u.2.2) 64
    (fun c u => u.2.1 = z ((cnt (lead (bt cl)) c : Nat) : Int) ∧ (∀ e, e < 64 → (bt u.1 e = true ↔ bt cl e = true ∨ ∃ b, b < c ∧ bt cl b = false ∧ K (bt cl) b e = true)) ∧ afr m u.2.2)
    (fun r => ∃ m', r = some (z ((cnt (lead (bt cl)) 64 : Nat) : Int), m') ∧ afr m m')
    (fun k c u hc hI => by
      obtain ⟨xx, i5, mm⟩ := u
      obtain ⟨h1, h2, h3⟩ := hI
      have h1 : i5 = z ((cnt (lead (bt cl)) c : Nat) : Int) := h1
      have h2 : ∀ e, e < 64 → (bt xx e = true ↔ bt cl e = true ∨ ∃ b, b < c ∧ bt cl b = false ∧ K (bt cl) b e = true) := h2
      have h3 : afr m mm := h3
      subst h1
      show ∃ s', _ ∧ bX0_countByFilling_91_l8 n cl (lX0_countByFilling_91_l8 n cl k) xx (z ((cnt (lead (bt cl)) c : Nat) : Int)) (z (c : Int)) mm = _
      unfold bX0_countByFilling_91_l8
      rw [if_pos (zlt (by omega)), f_holds _ hc, obind]
      by_cases hb : bt xx c = true
      · rw [if_pos hb, if_neg z10]
        have hl : lead (bt cl) c = false := by
          rw [← Bool.not_eq_true, lead_iff]
          rintro ⟨p1, p2⟩
          rcases (h2 c hc).mp hb with g | ⟨b, g1, g2, g3⟩
          · rw [p1] at g; cases g
          · rw [p2 b g1 g2] at g3; cases g3
        refine ⟨(xx, z ((cnt (lead (bt cl)) c : Nat) : Int), mm), ⟨?_, fun e he => ?_, h3⟩, by rw [z_add]⟩
        · rw [cnt_s, if_neg (by rw [hl]; decide)]
          rfl
        · show bt xx e = true ↔ _
          rw [h2 e he]
          constructor
          · rintro (g | ⟨b, g1, g2, g3⟩)
            · exact Or.inl g
            · exact Or.inr ⟨b, by omega, g2, g3⟩
          · rintro (g | ⟨b, g1, g2, g3⟩)
            · exact Or.inl g
            · by_cases e0 : b = c
              · rw [e0] at g2 g3
                rcases (h2 c hc).mp hb with g | ⟨b', g4, g5, g6⟩
                · rw [g2] at g; cases g
                · exact Or.inr ⟨b', g4, g5, K_tr (by omega) hc g6 g3⟩
              · exact Or.inr ⟨b, by omega, g2, g3⟩
      · have hno := fun g => hb ((h2 c hc).mpr g)
        have hp : bt cl c = false := Bool.eq_false_iff.mpr (fun g => hno (Or.inl g))
        have hl : lead (bt cl) c = true := lead_iff.mpr ⟨hp, fun b g1 g2 => Bool.eq_false_iff.mpr (fun g3 => hno (Or.inr ⟨b, g1, g2, g3⟩))⟩
        obtain ⟨m1, x, e1, f1, a1⟩ := c_fill (m := mm) hn hc cl hp
        rw [if_neg hb, if_pos rfl, e1, obind]
        refine ⟨(xx ||| x, z ((cnt (lead (bt cl)) (c + 1) : Nat) : Int), m1), ⟨rfl, fun e he => ?_, afr_tr h3 a1⟩, ?_⟩
        · show bt (xx ||| x) e = true ↔ _
          rw [bt_or, Bool.or_eq_true, h2 e he, f1 e he]
          constructor
          · rintro ((g | ⟨b, g1, g2, g3⟩) | g)
            · exact Or.inl g
            · exact Or.inr ⟨b, by omega, g2, g3⟩
            · exact Or.inr ⟨c, by omega, hp, g⟩
          · rintro (g | ⟨b, g1, g2, g3⟩)
            · exact Or.inl (Or.inl g)
            · by_cases e0 : b = c
              · rw [e0] at g3
                exact Or.inr g3
              · exact Or.inl (Or.inr ⟨b, by omega, g2, g3⟩)
        · rw [z_add, z_add, cnt_s, if_pos hl]
          rfl)
    (fun k u hI => by
      obtain ⟨xx, i5, mm⟩ := u
      obtain ⟨h1, h2, h3⟩ := hI
      have h1 : i5 = z ((cnt (lead (bt cl)) 64 : Nat) : Int) := h1
      subst h1
      refine ⟨mm, ?_, h3⟩
      show bX0_countByFilling_91_l8 n cl (lX0_countByFilling_91_l8 n cl k) xx _ (z ((64 : Nat) : Int)) mm = _
      unfold bX0_countByFilling_91_l8
      rw [if_neg (zge (by omega))]) 64 0 n (cl, z ((cnt (lead (bt cl)) 0 : Nat) : Int), m) (by omega) (by omega) ⟨rfl, fun e _ => ⟨Or.inl, fun g => g.elim id (fun ⟨b, g1, _⟩ => absurd g1 (Nat.not_lt_zero _))⟩, afr_rf⟩
  obtain ⟨m', e1, f1⟩ := F
  have e1 : lX0_countByFilling_91_l8 n cl n cl (z 0) (z 0) m = some (z ((cnt (lead (bt cl)) 64 : Nat) : Int), m') := e1
  unfold fX0_countByFilling_91
  rw [e1, obind]
  exact ⟨m', rfl, f1⟩
end AREA

