/-! searches over cells: the class in breadth -/
theorem whl {σ γ : Type} (l : Nat → σ → Option γ) (I : Nat → σ → Prop) (Q : Option γ → Prop) (hs : ∀ k a s, I a s → ∀ r, l (k + 1) s = r → Q r ∨ ∃ b t, b < a ∧ I b t ∧ r = l k t) : ∀ (k a : Nat) (s : σ), a < k → I a s → Q (l k s)
  | 0, _, _, h, _ => absurd h (Nat.not_lt_zero _)
  | k + 1, a, s, h, hI => by
    rcases hs k a s hI _ rfl with h1 | ⟨b, t, h1, h2, h3⟩
    · exact h1
    · rw [h3]
      exact whl l I Q hs k b t (by omega) h2
theorem fillg {q L : Nat} (x : Int32) (l : Nat → Int32 → pmI → Option pmI) (hs : ∀ k i (m : pmI), i < L → l (k + 1) (z (i : Int)) m = l k (z ((i : Int) + 1)) (pmU m.1 q i x, m.2)) (he : ∀ k m, l (k + 1) (z (L : Int)) m = some m) {n : Nat} (hn : L < n) (m : pmI) : ∃ m', l n (z 0) m = some m' ∧ m'.2 = m.2 ∧ (∀ a, ¬ a = q → m'.1 a = m.1 a) ∧ ∀ b, b < L → m'.1 q b = x := by
  have F := forI l L (fun i s => s.2 = m.2 ∧ (∀ a, ¬ a = q → s.1 a = m.1 a) ∧ ∀ b, b < i → s.1 q b = x) (fun r => ∃ s, r = some s ∧ s.2 = m.2 ∧ (∀ a, ¬ a = q → s.1 a = m.1 a) ∧ ∀ b, b < L → s.1 q b = x) (fun k i s hi hI => by
    obtain ⟨h1, h2, h3⟩ := hI
    obtain ⟨t, e, j, o, r⟩ := w_1 s q i x
    refine ⟨t, ⟨j.trans h1, fun a ha => (o a ha).trans (h2 a ha), fun b hb => ?_⟩, by rw [hs k i s hi, e]⟩
    rw [r]
    by_cases e0 : b = i
    · rw [if_pos e0]
    · rw [if_neg e0]
      exact h3 b (by omega)) (fun k s hI => ⟨s, he k s, hI⟩) L 0 n m (by omega) hn ⟨rfl, fun _ _ => rfl, fun b hb => absurd hb (Nat.not_lt_zero _)⟩
  exact F
theorem c_fill95 {n : Nat} (hn : 100 ≤ n) (x : Int32) (m : pmI) : ∃ m', fX8_fill_95 n x m = some m' ∧ m'.2 = m.2 ∧ (∀ a, ¬ a = 95 → m'.1 a = m.1 a) ∧ ∀ b, b < 64 → m'.1 95 b = x := by
  obtain ⟨m1, e1, h1⟩ := fillg (q := 95) (L := 64) x (lX8_fill_95_l2 n x) (fun k i m hi => by
    show bX8_fill_95_l2 n x (lX8_fill_95_l2 n x k) (z (i : Int)) m = _
    unfold bX8_fill_95_l2
    rw [if_pos (zlt (by omega)), if_pos (okI_z (by omega)), z_nat (by omega), pmLet_eq, z_add]) (fun k m => by
    show bX8_fill_95_l2 n x (lX8_fill_95_l2 n x k) (z ((64 : Nat) : Int)) m = _
    unfold bX8_fill_95_l2
    rw [if_neg (zge (by omega))]) (n := n) (by omega) m
  unfold fX8_fill_95
  rw [e1, obind]
  exact ⟨m1, rfl, h1⟩
/-- the first length at which a cell is reached -/
def dst (cl : Nat → Bool) (s c : Nat) : Option Nat := ff (fun k => R cl s k c) 65 0
theorem dst_le {cl : Nat → Bool} {s c k : Nat} (h : dst cl s c = some k) : k ≤ 64 := by
  have := (ff_some h).2.1
  omega
theorem dst_D {cl : Nat → Bool} {s : Nat} (hs : s < 64) : Dst cl s (dst cl s) := fun c _ => by
  refine ⟨fun k hk => (ff_some hk).2.2.1, fun k hk => ?_⟩
  cases hd : dst cl s c with
  | none =>
    have := ff_none hd 64 (by omega) (by omega)
    have h2 := R_64 hs hk
    have h3 : R cl s 64 c = false := this
    rw [h2] at h3
    cases h3
  | some j =>
    refine ⟨j, rfl, Nat.le_of_not_lt fun hlt => ?_⟩
    have h3 : R cl s k c = false := (ff_some hd).2.2.2 k (Nat.zero_le _) hlt
    rw [hk] at h3
    cases h3
theorem Dst_dst {cl cl' : Nat → Bool} {s : Nat} {f : Nat → Option Nat} (hs : s < 64) (hcl : ∀ c, c < 64 → ¬ c = s → cl' c = cl c) (h : Dst cl' s f) {c : Nat} (hc : c < 64) : f c = dst cl s c := Dst_eq hs hcl h (dst_D hs) hc
/-- what a search of the class leaves -/
def wfr (m m' : pmI) : Prop := (∀ i, ¬ i = 95 → ¬ i = 96 → m'.1 i = m.1 i) ∧ m'.2 = m.2
theorem wfr_rf {m : pmI} : wfr m m := ⟨fun _ _ _ => rfl, rfl⟩
theorem wfr_tr {m m1 m2 : pmI} (h1 : wfr m m1) (h2 : wfr m1 m2) : wfr m m2 := ⟨fun i a b => (h2.1 i a b).trans (h1.1 i a b), h2.2.trans h1.2⟩
theorem wfr_95 {m m1 : pmI} (h1 : m1.2 = m.2) (h2 : ∀ a, a ≠ 95 → m1.1 a = m.1 a) : wfr m m1 := ⟨fun i a _ => h2 i a, h1⟩
theorem wfr_96 {m m1 : pmI} (h1 : m1.2 = m.2) (h2 : ∀ a, a ≠ 96 → m1.1 a = m.1 a) : wfr m m1 := ⟨fun i _ a => h2 i a, h1⟩
/-- the rows of a search in breadth -/
def BR (m : pmI) (vis : Nat → Bool) (L q : Nat → Nat) (f : Nat) : Prop := ((∀ c, c < 64 → m.1 95 c = if vis c = true then z (L c) else z (-1)) ∧ ∀ i, i < f → m.1 96 i = z (q i)) ∧ ∀ i, i < f → L (q i) ≤ i
theorem BR_L {cl : Nat → Bool} {s t d : Nat} {m : pmI} {vis : Nat → Bool} {L q : Nat → Nat} {f : Nat} (h : BI cl s vis L q f t d) (hr : BR m vis L q f) {c : Nat} (hc : c < 64) (hv : vis c = true) : L c ≤ 64 := by
  obtain ⟨⟨i, h1, h2⟩, -⟩ := h.2.2.1 c hc hv
  have h3 := hr.2 i h1
  have h4 := BI_f h
  rw [h2] at h3
  omega
section WAYS
variable {n : Nat} {m : pmI}
theorem bfs_in {s t f : Nat} {cl : Int64} {vis : Nat → Bool} {L q : Nat → Nat} (hn : 100 ≤ n) (h : BI (bt cl) s vis L q f t 0) (hr : BR m vis L q f) (ht : t < f) : ∃ vis' L' q' f' m', lX7_searchBreadthFirst_94_l60 n cl (z (t : Int)) (z (q t : Int)) n (z (f : Int)) (z 0) m = some (z ((f' : Nat) : Int), m') ∧ f ≤ f' ∧ BI (bt cl) s vis' L' q' f' t 4 ∧ BR m' vis' L' q' f' ∧ wfr m m' := by
  have F := forI (fun k i (s : Int32 × pmI) => lX7_searchBreadthFirst_94_l60 n cl (z (t : Int)) (z (q t : Int)) k s.1 i s.2) 4
    (fun d u => ∃ vis' L' q' f', u.1 = z ((f' : Nat) : Int) ∧ f ≤ f' ∧ BI (bt cl) s vis' L' q' f' t d ∧ BR u.2 vis' L' q' f' ∧ wfr m u.2 ∧ q' t = q t)
    (fun r => ∃ vis' L' q' f' m', r = some (z ((f' : Nat) : Int), m') ∧ f ≤ f' ∧ BI (bt cl) s vis' L' q' f' t 4 ∧ BR m' vis' L' q' f' ∧ wfr m m')
    (fun k d u hd hI => by
      obtain ⟨i4, mm⟩ := u
      obtain ⟨vis', L', q', f', h1, h2, h3, h4, h5, h6⟩ := hI
      have h1 : i4 = z (f' : Int) := h1
      have h4 : BR mm vis' L' q' f' := h4
      have h5 : wfr m mm := h5
      subst h1
      have hq := h3.2.1 t (by omega)
      rw [h6] at hq
      have old : (nb (q' t) d = none ∨ ∃ e, nb (q' t) d = some e ∧ (vis' e = true ∨ bt cl e = true)) → (∃ vis'' L'' q'' f'', z ((f' : Nat) : Int) = z ((f'' : Nat) : Int) ∧ f ≤ f'' ∧ BI (bt cl) s vis'' L'' q'' f'' t (d + 1) ∧ BR mm vis'' L'' q'' f'' ∧ wfr m mm ∧ q'' t = q t) := fun ho => ⟨vis', L', q', f', rfl, h2, BI_old h3 (by omega) ho, h4, h5, h6⟩
      show ∃ s', _ ∧ bX7_searchBreadthFirst_94_l60 n cl (z (t : Int)) (z (q t : Int)) (lX7_searchBreadthFirst_94_l60 n cl (z (t : Int)) (z (q t : Int)) k) (z (f' : Int)) (z (d : Int)) mm = _
      unfold bX7_searchBreadthFirst_94_l60
      rw [if_pos (zlt (by omega)), f_after hq.1 hd, obind]
      cases he : nb (q t) d with
      | none =>
        refine ⟨(z (f' : Int), mm), old (Or.inl (by rw [h6]; exact he)), ?_⟩
        rw [oz_n, if_pos rfl, z_add]
      | some e =>
        have he64 := nb_lt hq.1 he
        rw [oz_s, if_neg (zne (by omega)), a_95 he64, obind, h4.1.1 e he64]
        by_cases hv : vis' e = true
        · have := BR_L h3 h4 he64 hv
          refine ⟨(z (f' : Int), mm), old (Or.inr ⟨e, by rw [h6]; exact he, Or.inl hv⟩), ?_⟩
          rw [if_pos hv, if_neg (zne (by omega)), z_add]
        · rw [if_neg hv, if_pos rfl, f_holds cl he64, obind]
          by_cases hb : bt cl e = true
          · refine ⟨(z (f' : Int), mm), old (Or.inr ⟨e, by rw [h6]; exact he, Or.inr hb⟩), ?_⟩
            rw [if_pos hb, if_neg z10, z_add]
          · have hv' : vis' e = false := Bool.eq_false_iff.mpr hv
            have hf : f' < 64 := by
              have h7 := cnt_set hv' he64
              have h8 := cnt_le (fun k => if k = e then true else vis' k) 64
              have h9 := h3.1.2.1
              omega
            obtain ⟨m1, e1, j1, o1, r1⟩ := w_1 mm 95 e (z ((L' (q t) : Int) + 1))
            obtain ⟨m2, e2, j2, o2, r2⟩ := w_1 m1 96 f' (z (e : Int))
            rw [if_neg hb, if_pos rfl, a_95 hq.1, obind, h4.1.1 _ hq.1, if_pos hq.2, z_add, s_95 he64, obind, e1, s_96 hf, obind, e2]
            refine ⟨(z ((f' + 1 : Nat) : Int), m2), ⟨_, _, _, f' + 1, rfl, by omega, BI_new h3 (by omega) hd (by rw [h6]; exact he) hv' (Bool.eq_false_iff.mpr hb), ⟨⟨fun c hc => ?_, fun i hi => ?_⟩, fun i hi => ?_⟩, wfr_tr h5 (wfr_tr (wfr_95 j1 o1) (wfr_96 j2 o2)), ?_⟩, ?_⟩
            · show m2.1 95 c = _
              rw [o2 95 (by decide), r1]
              by_cases e0 : c = e
              · rw [if_pos e0, if_pos (if_pos e0)]
                dsimp only
                rw [if_pos e0, h6]
                rfl
              · rw [if_neg e0, h4.1.1 c hc]
                by_cases hv2 : vis' c = true
                · rw [if_pos hv2, if_pos (show (if c = e then true else vis' c) = true by rw [if_neg e0]; exact hv2)]
                  dsimp only
                  rw [if_neg e0]
                · rw [if_neg hv2, if_neg (show ¬ (if c = e then true else vis' c) = true by rw [if_neg e0]; exact hv2)]
            · show m2.1 96 i = _
              rw [r2]
              by_cases e0 : i = f'
              · rw [if_pos e0]
                dsimp only
                rw [if_pos e0]
              · rw [if_neg e0, o1 96 (by decide)]
                dsimp only
                rw [if_neg e0]
                exact h4.1.2 i (by omega)
            · dsimp only
              by_cases e0 : i = f'
              · rw [if_pos e0, if_pos rfl]
                have := h4.2 t (by omega)
                omega
              · rw [if_neg e0, if_neg (fun e1 => hv (by rw [← e1]; exact (h3.2.1 i (by omega)).2))]
                exact h4.2 i (by omega)
            · show (if t = f' then e else q' t) = q t
              rw [if_neg (by omega)]
              exact h6
            · rw [z_add, z_add]
              rfl)
    (fun k u hI => by
      obtain ⟨i4, mm⟩ := u
      obtain ⟨vis', L', q', f', h1, h2, h3, h4, h5, h6⟩ := hI
      have h1 : i4 = z (f' : Int) := h1
      subst h1
      refine ⟨vis', L', q', f', mm, ?_, h2, h3, h4, h5⟩
      show bX7_searchBreadthFirst_94_l60 n cl (z (t : Int)) (z (q t : Int)) (lX7_searchBreadthFirst_94_l60 n cl (z (t : Int)) (z (q t : Int)) k) (z (f' : Int)) (z ((4 : Nat) : Int)) mm = _
      unfold bX7_searchBreadthFirst_94_l60
      rw [if_neg (zge (by omega))]) 4 0 n (z (f : Int), m) (by omega) (by omega) ⟨vis, L, q, f, rfl, Nat.le_refl _, h, hr, wfr_rf, rfl⟩
  exact F
theorem c_bfs (hn : 100 ≤ n) {s : Nat} (hs : s < 64) (cl : Int64) : ∃ m' f, fX7_searchBreadthFirst_94 n (z (s : Int)) cl m = some m' ∧ Dst (bt cl) s f ∧ (∀ c, c < 64 → m'.1 95 c = z (oz (f c))) ∧ wfr m m' := by
  obtain ⟨m1, e1, j1, o1, r1⟩ := c_fill95 hn (z (-1)) m
  obtain ⟨m2, e2, j2, o2, r2⟩ := w_1 m1 95 s (z 0)
  obtain ⟨m3, e3, j3, o3, r3⟩ := w_1 m2 96 0 (z (s : Int))
  unfold fX7_searchBreadthFirst_94
  rw [e1, obind, s_95 hs, obind, e2, show z 0 = z ((0 : Nat) : Int) from rfl, s_96 (by omega), obind, e3]
  have w3 : wfr m m3 := wfr_tr (wfr_95 j1 o1) (wfr_tr (wfr_95 j2 o2) (wfr_96 j3 o3))
  have F := whl (fun k (u : Int32 × Int32 × pmI) => lX7_searchBreadthFirst_94_l32 n cl k u.1 u.2.1 u.2.2)
    (fun a u => ∃ t f vis L q, (u.1 = z ((f : Nat) : Int) ∧ u.2.1 = z ((t : Nat) : Int) ∧ a = 64 - t) ∧ BI (bt cl) s vis L q f t 0 ∧ BR u.2.2 vis L q f ∧ wfr m u.2.2)
    (fun r => ∃ m' f, r = some m' ∧ Dst (bt cl) s f ∧ (∀ c, c < 64 → m'.1 95 c = z (oz (f c))) ∧ wfr m m')
    (fun k a u hI r hr => by
      obtain ⟨i4, i5, mm⟩ := u
      obtain ⟨t, f, vis, L, q, ⟨h1, h2, h3⟩, h4, h5, h6⟩ := hI
      have h1 : i4 = z (f : Int) := h1
      have h2 : i5 = z (t : Int) := h2
      have h5 : BR mm vis L q f := h5
      subst h1 h2
      have hf := BI_f h4
      have htf := h4.1.1
      have hr : bX7_searchBreadthFirst_94_l32 n cl (lX7_searchBreadthFirst_94_l32 n cl k) (z (f : Int)) (z (t : Int)) mm = r := hr
      unfold bX7_searchBreadthFirst_94_l32 at hr
      by_cases ht : t < f
      · right
        obtain ⟨vis', L', q', f', m', g1, g2, g3, g4, g5⟩ := bfs_in hn h4 h5 ht
        rw [if_pos (zlt (by omega)), if_pos (zlt (by omega)), a_96 (by omega), obind, h5.1.2 t ht, g1, obind, z_add] at hr
        have hf' := BI_f g3
        exact ⟨64 - (t + 1), (z (f' : Int), z ((t + 1 : Nat) : Int), m'), by omega, ⟨t + 1, f', vis', L', q', ⟨rfl, rfl, rfl⟩, BI_next g3 (by omega), g4, wfr_tr h6 g5⟩, hr.symm⟩
      · left
        rw [if_neg (zge (by omega))] at hr
        refine ⟨mm, _, hr.symm, BI_end hs h4 ht, fun c hc => ?_, h6⟩
        rw [h5.1.1 c hc]
        by_cases hv : vis c = true
        · rw [if_pos hv, if_pos hv, oz_s]
        · rw [if_neg hv, if_neg hv, oz_n])
    n 64 (z ((1 : Nat) : Int), z ((0 : Nat) : Int), m3) (by omega) ⟨0, 1, fun c => decide (c = s), fun _ => 0, fun _ => s, ⟨rfl, rfl, rfl⟩, BI_0 hs rfl, ⟨⟨fun c hc => ?_, fun i hi => ?_⟩, fun i hi => Nat.zero_le _⟩, w3⟩
  · obtain ⟨m', f, g1, g2⟩ := F
    have g1 : lX7_searchBreadthFirst_94_l32 n cl n (z 1) (z ((0 : Nat) : Int)) m3 = some m' := g1
    rw [g1, obind]
    exact ⟨m', f, rfl, g2⟩
  · show m3.1 95 c = _
    rw [o3 95 (by decide), r2]
    by_cases e0 : c = s
    · rw [if_pos e0, if_pos (decide_eq_true e0)]
      rfl
    · rw [if_neg e0, if_neg (show ¬ decide (c = s) = true by rw [decide_eq_false e0]; decide), r1 c hc]
  · show m3.1 96 i = _
    rw [r3, if_pos (by omega)]
end WAYS

