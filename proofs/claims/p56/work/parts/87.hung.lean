/-! the cheapest plan by potentials: the loops -/
/-- potentials of dancers and of exits, slacks; who has an exit, from where, which are visited -/
abbrev HS : Type := ((Nat → Int) × (Nat → Int) × (Nat → Int)) × (Nat → Nat) × (Nat → Nat) × (Nat → Bool)
def hu (S : HS) : Nat → Int := S.1.1
def hv (S : HS) : Nat → Int := S.1.2.1
def hl (S : HS) : Nat → Int := S.1.2.2
def hp (S : HS) : Nat → Nat := S.2.1
def hw (S : HS) : Nat → Nat := S.2.2.1
def hx (S : HS) : Nat → Bool := S.2.2.2
def mkH (u v l : Nat → Int) (p w : Nat → Nat) (x : Nat → Bool) : HS := ((u, v, l), p, w, x)
def HR (m : pmI) (S : HS) : Prop := ∀ i, i < 7 → m.1 101 i = z (hu S i) ∧ m.1 102 i = z (hv S i) ∧ m.1 105 i = z (hl S i) ∧ m.1 103 i = z (hp S i : Int) ∧ (m.1 104 i = z (hw S i : Int) ∨ hw S i = 99) ∧ m.1 106 i = z (if hx S i = true then 1 else 0)
def hfr (m m' : pmI) : Prop := (∀ i, i < 101 ∨ 106 < i → m'.1 i = m.1 i) ∧ m'.2 = m.2
theorem hfr_rf {m : pmI} : hfr m m := ⟨fun _ _ => rfl, rfl⟩
theorem hfr_tr {m m1 m2 : pmI} (h1 : hfr m m1) (h2 : hfr m1 m2) : hfr m m2 := ⟨fun i a => (h2.1 i a).trans (h1.1 i a), h2.2.trans h1.2⟩
theorem hfr_1 {m m1 : pmI} {q : Nat} (hq : 101 ≤ q ∧ q ≤ 106) (j : m1.2 = m.2) (o : ∀ a, a ≠ q → m1.1 a = m.1 a) : hfr m m1 := ⟨fun i a => o i (by omega), j⟩
def htab (m : pmI) (C : Nat → Nat → Nat) (M N : Nat) : Prop := m.1 98 0 = z (N : Int) ∧ m.1 98 1 = z (M : Int) ∧ ∀ k e, k < N → e < M → m.1 99 (6 * k + e) = z (C (k + 1) (e + 1) : Int)
theorem htab_f {m m' : pmI} {C : Nat → Nat → Nat} {M N : Nat} (h : htab m C M N) (f : hfr m m') : htab m' C M N := by
  unfold htab
  rw [f.1 98 (by omega), f.1 99 (by omega)]
  exact h
section HUNG
variable {n : Nat} {C : Nat → Nat → Nat} {M N : Nat}
/-- what the numbers are at most -/
def hB (C : Nat → Nat → Nat) (M N : Nat) (S : HS) : Prop := (∀ i, 1 ≤ i → i ≤ N → -5000 ≤ hu S i ∧ hu S i ≤ 5000) ∧ (∀ i, 1 ≤ i → i ≤ M → -5000 ≤ hv S i ∧ hv S i ≤ 5000) ∧ (∀ i, 1 ≤ i → i ≤ M → hx S i = false → -5000 ≤ hl S i ∧ hl S i ≤ 1000000) ∧ ∀ i j, C i j ≤ 1000
def cur (C : Nat → Nat → Nat) (S : HS) (i j : Nat) : Int := (C i j : Int) - hu S i - hv S j
theorem h_update (hM : M ≤ 6) (hN : N ≤ M) (hn : 100 ≤ n) {m : pmI} {S : HS} {j0 : Nat} (ht : htab m C M N) (hr : HR m S) (hb : hB C M N S) (hj : j0 ≤ M) (hi : 1 ≤ hp S j0 ∧ hp S j0 ≤ N) : ∃ m' S', fX1_updateSlack_98 n (z (j0 : Int)) m = some m' ∧ HR m' S' ∧ hfr m m' ∧ (hu S' = hu S ∧ hv S' = hv S ∧ hp S' = hp S ∧ hx S' = hx S) ∧ ∀ j, (1 ≤ j ∧ j ≤ M ∧ hx S j = false ∧ cur C S (hp S j0) j < hl S j → hl S' j = cur C S (hp S j0) j ∧ hw S' j = j0) ∧ (¬ (1 ≤ j ∧ j ≤ M ∧ hx S j = false ∧ cur C S (hp S j0) j < hl S j) → hl S' j = hl S j ∧ hw S' j = hw S j) := by
  have F := forI (fun q i (v : pmI) => lX1_updateSlack_98_l11 n (z (j0 : Int)) (z (hp S j0 : Int)) q i v) (M + 1)
    (fun t v => 1 ≤ t ∧ ∃ S', HR v S' ∧ hfr m v ∧ (hu S' = hu S ∧ hv S' = hv S ∧ hp S' = hp S ∧ hx S' = hx S) ∧ ∀ j, (1 ≤ j ∧ j < t ∧ hx S j = false ∧ cur C S (hp S j0) j < hl S j → hl S' j = cur C S (hp S j0) j ∧ hw S' j = j0) ∧ (¬ (1 ≤ j ∧ j < t ∧ hx S j = false ∧ cur C S (hp S j0) j < hl S j) → hl S' j = hl S j ∧ hw S' j = hw S j))
    (fun r => ∃ m' S', r = some m' ∧ HR m' S' ∧ hfr m m' ∧ (hu S' = hu S ∧ hv S' = hv S ∧ hp S' = hp S ∧ hx S' = hx S) ∧ ∀ j, (1 ≤ j ∧ j ≤ M ∧ hx S j = false ∧ cur C S (hp S j0) j < hl S j → hl S' j = cur C S (hp S j0) j ∧ hw S' j = j0) ∧ (¬ (1 ≤ j ∧ j ≤ M ∧ hx S j = false ∧ cur C S (hp S j0) j < hl S j) → hl S' j = hl S j ∧ hw S' j = hw S j))
    (fun q t v hlt hI => by
      obtain ⟨t1, S', y1, y2, ⟨y3, y4, y5, y6⟩, y7⟩ := hI
      have ht' := htab_f ht y2
      show ∃ s', _ ∧ bX1_updateSlack_98_l11 n (z (j0 : Int)) (z (hp S j0 : Int)) (lX1_updateSlack_98_l11 n (z (j0 : Int)) (z (hp S j0 : Int)) q) (z (t : Int)) v = _
      obtain ⟨b1, b2, b3, b4⟩ := hb
      have c1 := b1 (hp S j0) (by omega) (by omega)
      have c2 := b2 t (by omega) (by omega)
      have c4 := b4 (hp S j0) t
      have hlS : hl S' t = hl S t := ((y7 t).2 (by omega)).1
      unfold bX1_updateSlack_98_l11 fX1_costOf_98
      rw [ht'.2.1, if_neg (zge (by omega)), show z 1 = z (1 : Int) from rfl, z_sub, z_sub, z_mul, z_add, show ((hp S j0 : Int) - 1) * 6 + ((t : Int) - 1) = ((6 * (hp S j0 - 1) + (t - 1) : Nat) : Int) by omega, a_99 (by omega), obind, obind, ht'.2.2 _ _ (by omega) (by omega), show hp S j0 - 1 + 1 = hp S j0 by omega, show t - 1 + 1 = t by omega, a_101 (by omega), obind, a_102 (by omega), obind, a_106 (by omega), obind, (y1 _ (by omega)).1, (y1 t (by omega)).2.1, (y1 t (by omega)).2.2.2.2.2, y3, y4, y6]
      have stay : ¬ (hx S t = false ∧ cur C S (hp S j0) t < hl S t) → ∃ s', (1 ≤ t + 1 ∧ ∃ S', HR s' S' ∧ hfr m s' ∧ (hu S' = hu S ∧ hv S' = hv S ∧ hp S' = hp S ∧ hx S' = hx S) ∧ ∀ j, (1 ≤ j ∧ j < t + 1 ∧ hx S j = false ∧ cur C S (hp S j0) j < hl S j → hl S' j = cur C S (hp S j0) j ∧ hw S' j = j0) ∧ (¬ (1 ≤ j ∧ j < t + 1 ∧ hx S j = false ∧ cur C S (hp S j0) j < hl S j) → hl S' j = hl S j ∧ hw S' j = hw S j)) ∧ lX1_updateSlack_98_l11 n (z (j0 : Int)) (z (hp S j0 : Int)) q (z (t : Int) + z 1) v = lX1_updateSlack_98_l11 n (z (j0 : Int)) (z (hp S j0 : Int)) q (z ((t : Int) + 1)) s' := fun hno => by
        refine ⟨v, ⟨by omega, S', y1, y2, ⟨y3, y4, y5, y6⟩, fun j => ⟨fun g => ?_, fun g => ?_⟩⟩, by rw [show z 1 = z (1 : Int) from rfl, z_add]⟩
        · by_cases e : j = t
          · rw [e] at g
            exact absurd g.2.2 hno
          · exact (y7 j).1 ⟨g.1, by omega, g.2.2⟩
        · refine (y7 j).2 (fun g2 => g ⟨g2.1, by omega, g2.2.2⟩)
      by_cases hvt : hx S t = true
      · rw [if_pos hvt, if_neg (show ¬ z 1 = z 0 from z10)]
        exact stay (fun g => by rw [hvt] at g; cases g.1)
      · have hvf := Bool.eq_false_iff.mpr hvt
        have c3 := b3 t (by omega) (by omega) hvf
        rw [if_neg hvt, if_pos rfl, a_105 (by omega), obind, (y1 t (by omega)).2.2.1, hlS, z_sub, z_sub]
        by_cases hlc : cur C S (hp S j0) t < hl S t
        · have hlc' : (C (hp S j0) t : Int) - hu S (hp S j0) - hv S t < hl S t := hlc
          obtain ⟨m1, e1, j1, o1, r1⟩ := w_1 v 105 t (z ((C (hp S j0) t : Int) - hu S (hp S j0) - hv S t))
          obtain ⟨m2, e2, j2, o2, r2⟩ := w_1 m1 104 t (z (j0 : Int))
          rw [if_pos (zlt (by omega)), s_105 (by omega), obind, e1, s_104 (by omega), obind, e2]
          refine ⟨m2, ⟨by omega, mkH (hu S') (hv S') (fun j => if j = t then cur C S (hp S j0) t else hl S' j) (hp S') (fun j => if j = t then j0 else hw S' j) (hx S'), fun i hi' => ?_, hfr_tr y2 (hfr_tr (hfr_1 (by omega) j1 o1) (hfr_1 (by omega) j2 o2)), ⟨y3, y4, y5, y6⟩, fun j => ⟨fun g => ?_, fun g => ?_⟩⟩, by rw [show z 1 = z (1 : Int) from rfl, z_add]⟩
          · obtain ⟨g1, g2, g3, g4, g5, g6⟩ := y1 i hi'
            refine ⟨by rw [o2 101 (by decide), o1 101 (by decide)]; exact g1, by rw [o2 102 (by decide), o1 102 (by decide)]; exact g2, ?_, by rw [o2 103 (by decide), o1 103 (by decide)]; exact g4, ?_, by rw [o2 106 (by decide), o1 106 (by decide)]; exact g6⟩
            · rw [o2 105 (by decide), r1]
              show _ = z (if i = t then cur C S (hp S j0) t else hl S' i)
              by_cases e : i = t
              · rw [if_pos e, if_pos e]
                rfl
              · rw [if_neg e, if_neg e]
                exact g3
            · show m2.1 104 i = z ((if i = t then j0 else hw S' i : Nat) : Int) ∨ (if i = t then j0 else hw S' i) = 99
              by_cases e : i = t
              · left
                rw [r2, if_pos e, if_pos e]
              · rw [r2, if_neg e, if_neg e, o1 104 (by decide)]
                exact g5
          · show (if j = t then cur C S (hp S j0) t else hl S' j) = _ ∧ (if j = t then j0 else hw S' j) = j0
            by_cases e : j = t
            · rw [if_pos e, if_pos e, e]
              exact ⟨rfl, rfl⟩
            · rw [if_neg e, if_neg e]
              exact (y7 j).1 ⟨g.1, by omega, g.2.2⟩
          · show (if j = t then cur C S (hp S j0) t else hl S' j) = _ ∧ (if j = t then j0 else hw S' j) = _
            by_cases e : j = t
            · exact absurd ⟨by omega, by omega, by rw [e]; exact hvf, by rw [e]; exact hlc⟩ g
            · rw [if_neg e, if_neg e]
              exact (y7 j).2 (fun g2 => g ⟨g2.1, by omega, g2.2.2⟩)
        · have hlc' : ¬ (C (hp S j0) t : Int) - hu S (hp S j0) - hv S t < hl S t := hlc
          rw [if_neg (zge (by omega))]
          exact stay (fun g => hlc g.2))
    (fun q v hI => by
      obtain ⟨-, S', y1, y2, y3, y7⟩ := hI
      refine ⟨v, S', ?_, y1, y2, y3, fun j => ⟨fun g => (y7 j).1 ⟨g.1, by omega, g.2.2⟩, fun g => (y7 j).2 (fun g2 => g ⟨g2.1, by omega, g2.2.2⟩)⟩⟩
      show bX1_updateSlack_98_l11 n (z (j0 : Int)) (z (hp S j0 : Int)) (lX1_updateSlack_98_l11 n (z (j0 : Int)) (z (hp S j0 : Int)) q) (z ((M + 1 : Nat) : Int)) v = _
      unfold bX1_updateSlack_98_l11
      rw [(htab_f ht y2).2.1, if_pos (zlt (by omega))]) M 1 n m (by omega) (by omega) ⟨Nat.le_refl _, S, hr, hfr_rf, ⟨rfl, rfl, rfl, rfl⟩, fun j => ⟨fun g => by omega, fun _ => ⟨rfl, rfl⟩⟩⟩
  obtain ⟨m', S', e1, g⟩ := F
  have e1 : lX1_updateSlack_98_l11 n (z (j0 : Int)) (z (hp S j0 : Int)) n (z 1) m = some m' := e1
  unfold fX1_updateSlack_98
  rw [a_103 (by omega), obind, (hr j0 (by omega)).2.2.2.1, e1, obind]
  exact ⟨m', S', rfl, g⟩
theorem h_least (hM : M ≤ 6) (hn : 100 ≤ n) {m : pmI} {S : HS} (ht : htab m C M N) (hr : HR m S) (hb : hB C M N S) (hf : ∃ f, 1 ≤ f ∧ f ≤ M ∧ hx S f = false) : ∃ e : Nat, fX1_leastSlack_98 n m = some (z (e : Int)) ∧ 1 ≤ e ∧ e ≤ M ∧ hx S e = false ∧ ∀ j, 1 ≤ j → j ≤ M → hx S j = false → hl S e ≤ hl S j := by
  have F := forI (fun q i (s : Int32) => lX1_leastSlack_98_l4 n m q s i) (M + 1)
    (fun t s => 1 ≤ t ∧ ∃ e : Nat, s = z (e : Int) ∧ ((e = 0 ∧ ∀ j, 1 ≤ j → j < t → hx S j = true) ∨ (1 ≤ e ∧ e < t ∧ hx S e = false ∧ ∀ j, 1 ≤ j → j < t → hx S j = false → hl S e ≤ hl S j)))
    (fun r => ∃ e : Nat, r = some (z (e : Int)) ∧ 1 ≤ e ∧ e ≤ M ∧ hx S e = false ∧ ∀ j, 1 ≤ j → j ≤ M → hx S j = false → hl S e ≤ hl S j)
    (fun q t s hlt hI => by
      obtain ⟨t1, e, rfl, y⟩ := hI
      obtain ⟨b1, b2, b3, b4⟩ := hb
      show ∃ s', _ ∧ bX1_leastSlack_98_l4 n m (lX1_leastSlack_98_l4 n m q) (z (e : Int)) (z (t : Int)) = _
      unfold bX1_leastSlack_98_l4
      rw [ht.2.1, if_neg (zge (by omega)), a_106 (by omega), obind, (hr t (by omega)).2.2.2.2.2]
      by_cases hvt : hx S t = true
      · rw [if_pos hvt, if_neg (show ¬ z 1 = z 0 from z10), show z 1 = z (1 : Int) from rfl, z_add]
        refine ⟨z (e : Int), ⟨by omega, e, rfl, ?_⟩, rfl⟩
        rcases y with ⟨y1, y2⟩ | ⟨y1, y2, y3, y4⟩
        · refine Or.inl ⟨y1, fun j h1 h2 => ?_⟩
          by_cases e0 : j = t
          · rw [e0]; exact hvt
          · exact y2 j h1 (by omega)
        · refine Or.inr ⟨y1, by omega, y3, fun j h1 h2 h3 => ?_⟩
          by_cases e0 : j = t
          · rw [e0, hvt] at h3; cases h3
          · exact y4 j h1 (by omega) h3
      · have hvf := Bool.eq_false_iff.mpr hvt
        rw [if_neg hvt, if_pos rfl]
        rcases y with ⟨y1, y2⟩ | ⟨y1, y2, y3, y4⟩
        · rw [if_pos (by rw [y1]; rfl), show z 1 = z (1 : Int) from rfl, z_add]
          refine ⟨z (t : Int), ⟨by omega, t, rfl, Or.inr ⟨t1, by omega, hvf, fun j h1 h2 h3 => ?_⟩⟩, rfl⟩
          by_cases e0 : j = t
          · rw [e0]; exact Int.le_refl _
          · rw [y2 j h1 (by omega)] at h3; cases h3
        · have c1 := b3 t (by omega) (by omega) hvf
          have c2 := b3 e (by omega) (by omega) y3
          have hz : ¬ z (e : Int) = z 0 := zne (by omega)
          rw [if_neg hz, a_105 (by omega), obind, a_105 (by omega), obind, (hr t (by omega)).2.2.1, (hr e (by omega)).2.2.1, show z 1 = z (1 : Int) from rfl, z_add]
          by_cases hlt2 : hl S t < hl S e
          · rw [if_pos (zlt (by omega))]
            refine ⟨z (t : Int), ⟨by omega, t, rfl, Or.inr ⟨t1, by omega, hvf, fun j h1 h2 h3 => ?_⟩⟩, rfl⟩
            by_cases e0 : j = t
            · rw [e0]; exact Int.le_refl _
            · have := y4 j h1 (by omega) h3
              omega
          · rw [if_neg (zge (by omega))]
            refine ⟨z (e : Int), ⟨by omega, e, rfl, Or.inr ⟨y1, by omega, y3, fun j h1 h2 h3 => ?_⟩⟩, rfl⟩
            by_cases e0 : j = t
            · rw [e0]; omega
            · exact y4 j h1 (by omega) h3)
    (fun q s hI => by
      obtain ⟨-, e, rfl, y⟩ := hI
      refine ⟨e, ?_, ?_⟩
      · show bX1_leastSlack_98_l4 n m (lX1_leastSlack_98_l4 n m q) (z (e : Int)) (z ((M + 1 : Nat) : Int)) = _
        unfold bX1_leastSlack_98_l4
        rw [ht.2.1, if_pos (zlt (by omega))]
      · rcases y with ⟨y1, y2⟩ | ⟨y1, y2, y3, y4⟩
        · obtain ⟨f, f1, f2, f3⟩ := hf
          rw [y2 f f1 (by omega)] at f3
          cases f3
        · exact ⟨y1, by omega, y3, fun j h1 h2 => y4 j h1 (by omega)⟩) M 1 n (z ((0 : Nat) : Int)) (by omega) (by omega) ⟨Nat.le_refl _, 0, rfl, Or.inl ⟨rfl, fun j h1 h2 => by omega⟩⟩
  obtain ⟨e, e1, g⟩ := F
  have e1 : lX1_leastSlack_98_l4 n m n (z 0) (z 1) = some (z (e : Int)) := e1
  unfold fX1_leastSlack_98
  rw [e1, obind]
  exact ⟨e, rfl, g⟩
theorem h_shift (hM : M ≤ 6) (hN : N ≤ M) (hn : 100 ≤ n) {m : pmI} {S : HS} {dl : Int} (ht : htab m C M N) (hr : HR m S) (hpi : ∀ j, j ≤ M → hx S j = true → hp S j ≤ N) (hinj : ∀ i j, i ≤ M → j ≤ M → hx S i = true → hx S j = true → hp S i = hp S j → i = j) : ∃ m' S', fX1_shiftPotentials_98 n (z dl) m = some m' ∧ HR m' S' ∧ hfr m m' ∧ (hp S' = hp S ∧ hw S' = hw S ∧ hx S' = hx S) ∧ (∀ j, j ≤ M → hx S j = true → hu S' (hp S j) = hu S (hp S j) + dl) ∧ (∀ i, (∀ j, j ≤ M → hx S j = true → ¬ hp S j = i) → hu S' i = hu S i) ∧ ∀ j, j ≤ M → (hx S j = true → hv S' j = hv S j - dl ∧ hl S' j = hl S j) ∧ (hx S j = false → hv S' j = hv S j ∧ hl S' j = hl S j - dl) := by
  have F := forI (fun q i (v : pmI) => lX1_shiftPotentials_98_l2 n (z dl) q i v) (M + 1)
    (fun t v => ∃ S', HR v S' ∧ hfr m v ∧ (hp S' = hp S ∧ hw S' = hw S ∧ hx S' = hx S) ∧ (∀ j, j < t → hx S j = true → hu S' (hp S j) = hu S (hp S j) + dl) ∧ (∀ i, (∀ j, j < t → hx S j = true → ¬ hp S j = i) → hu S' i = hu S i) ∧ ∀ j, (¬ j < t → hv S' j = hv S j ∧ hl S' j = hl S j) ∧ (j < t → hx S j = true → hv S' j = hv S j - dl ∧ hl S' j = hl S j) ∧ (j < t → hx S j = false → hv S' j = hv S j ∧ hl S' j = hl S j - dl))
    (fun r => ∃ m' S', r = some m' ∧ HR m' S' ∧ hfr m m' ∧ (hp S' = hp S ∧ hw S' = hw S ∧ hx S' = hx S) ∧ (∀ j, j ≤ M → hx S j = true → hu S' (hp S j) = hu S (hp S j) + dl) ∧ (∀ i, (∀ j, j ≤ M → hx S j = true → ¬ hp S j = i) → hu S' i = hu S i) ∧ ∀ j, j ≤ M → (hx S j = true → hv S' j = hv S j - dl ∧ hl S' j = hl S j) ∧ (hx S j = false → hv S' j = hv S j ∧ hl S' j = hl S j - dl))
    (fun q t v hlt hI => by
      obtain ⟨S', y1, y2, ⟨y3, y4, y5⟩, y6, y7, y8⟩ := hI
      show ∃ s', _ ∧ bX1_shiftPotentials_98_l2 n (z dl) (lX1_shiftPotentials_98_l2 n (z dl) q) (z (t : Int)) v = _
      unfold bX1_shiftPotentials_98_l2
      rw [(htab_f ht y2).2.1, if_neg (zge (by omega)), a_106 (by omega), obind, (y1 t (by omega)).2.2.2.2.2, y5]
      obtain ⟨k1, k2⟩ := (y8 t).1 (by omega)
      by_cases hvt : hx S t = true
      · have hpt := hpi t (by omega) hvt
        have hut : hu S' (hp S t) = hu S (hp S t) := y7 _ (fun j h1 h2 h3 => by
          have := hinj j t (by omega) (by omega) h2 hvt h3
          omega)
        rw [if_pos hvt, if_neg (show ¬ z 1 = z 0 from z10), a_103 (by omega), obind, (y1 t (by omega)).2.2.2.1, y3, a_101 (by omega), obind, (y1 (hp S t) (by omega)).1, hut, z_add, s_101 (by omega), obind]
        obtain ⟨m1, e1, j1, o1, r1⟩ := w_1 v 101 (hp S t) (z (hu S (hp S t) + dl))
        obtain ⟨m2, e2, j2, o2, r2⟩ := w_1 m1 102 t (z (hv S t - dl))
        rw [e1, a_102 (by omega), obind, o1 102 (by decide), (y1 t (by omega)).2.1, k1, z_sub, s_102 (by omega), obind, e2, show z 1 = z (1 : Int) from rfl, z_add]
        refine ⟨m2, ⟨mkH (fun i => if i = hp S t then hu S (hp S t) + dl else hu S' i) (fun j => if j = t then hv S t - dl else hv S' j) (hl S') (hp S') (hw S') (hx S'), fun i hi' => ?_, hfr_tr y2 (hfr_tr (hfr_1 (by omega) j1 o1) (hfr_1 (by omega) j2 o2)), ⟨y3, y4, y5⟩, fun j h1 h2 => ?_, fun i hi => ?_, fun j => ⟨fun h1 => ?_, fun h1 h2 => ?_, fun h1 h2 => ?_⟩⟩, rfl⟩
        · obtain ⟨g1, g2, g3, g4, g5, g6⟩ := y1 i hi'
          refine ⟨?_, ?_, by rw [o2 105 (by decide), o1 105 (by decide)]; exact g3, by rw [o2 103 (by decide), o1 103 (by decide)]; exact g4, by rw [o2 104 (by decide), o1 104 (by decide)]; exact g5, by rw [o2 106 (by decide), o1 106 (by decide)]; exact g6⟩
          · rw [o2 101 (by decide), r1]
            show _ = z (if i = hp S t then hu S (hp S t) + dl else hu S' i)
            by_cases e : i = hp S t
            · rw [if_pos e, if_pos e]
            · rw [if_neg e, if_neg e]
              exact g1
          · rw [r2]
            show _ = z (if i = t then hv S t - dl else hv S' i)
            by_cases e : i = t
            · rw [if_pos e, if_pos e]
            · rw [if_neg e, if_neg e, o1 102 (by decide)]
              exact g2
        · show (if hp S j = hp S t then _ else hu S' (hp S j)) = _
          by_cases e : hp S j = hp S t
          · rw [if_pos e, e]
          · rw [if_neg e]
            refine y6 j ?_ h2
            have : ¬ j = t := fun g => e (by rw [g])
            omega
        · show (if i = hp S t then _ else hu S' i) = _
          rw [if_neg (fun g => hi t (by omega) hvt g.symm)]
          exact y7 i (fun j h1 h2 => hi j (by omega) h2)
        · show (if j = t then _ else hv S' j) = _ ∧ _
          rw [if_neg (by omega)]
          exact (y8 j).1 (by omega)
        · show (if j = t then hv S t - dl else hv S' j) = _ ∧ hl S' j = _
          by_cases e : j = t
          · rw [if_pos e, e]
            exact ⟨rfl, k2⟩
          · rw [if_neg e]
            exact (y8 j).2.1 (by omega) h2
        · show (if j = t then hv S t - dl else hv S' j) = _ ∧ hl S' j = _
          have e : ¬ j = t := fun g => by rw [g, hvt] at h2; cases h2
          rw [if_neg e]
          exact (y8 j).2.2 (by omega) h2
      · have hvf := Bool.eq_false_iff.mpr hvt
        obtain ⟨m1, e1, j1, o1, r1⟩ := w_1 v 105 t (z (hl S t - dl))
        rw [if_neg hvt, if_pos rfl, a_105 (by omega), obind, (y1 t (by omega)).2.2.1, k2, z_sub, s_105 (by omega), obind, e1, show z 1 = z (1 : Int) from rfl, z_add]
        refine ⟨m1, ⟨mkH (hu S') (hv S') (fun j => if j = t then hl S t - dl else hl S' j) (hp S') (hw S') (hx S'), fun i hi' => ?_, hfr_tr y2 (hfr_1 (by omega) j1 o1), ⟨y3, y4, y5⟩, fun j h1 h2 => ?_, fun i hi => ?_, fun j => ⟨fun h1 => ?_, fun h1 h2 => ?_, fun h1 h2 => ?_⟩⟩, rfl⟩
        · obtain ⟨g1, g2, g3, g4, g5, g6⟩ := y1 i hi'
          refine ⟨by rw [o1 101 (by decide)]; exact g1, by rw [o1 102 (by decide)]; exact g2, ?_, by rw [o1 103 (by decide)]; exact g4, by rw [o1 104 (by decide)]; exact g5, by rw [o1 106 (by decide)]; exact g6⟩
          rw [r1]
          show _ = z (if i = t then hl S t - dl else hl S' i)
          by_cases e : i = t
          · rw [if_pos e, if_pos e]
          · rw [if_neg e, if_neg e]
            exact g3
        · refine y6 j ?_ h2
          have : ¬ j = t := fun g => by rw [g, hvf] at h2; cases h2
          omega
        · exact y7 i (fun j h1 h2 => hi j (by omega) h2)
        · show _ ∧ (if j = t then _ else hl S' j) = _
          rw [if_neg (by omega)]
          exact (y8 j).1 (by omega)
        · show _ ∧ (if j = t then hl S t - dl else hl S' j) = _
          have e : ¬ j = t := fun g => by rw [g, hvf] at h2; cases h2
          rw [if_neg e]
          exact (y8 j).2.1 (by omega) h2
        · show hv S' j = _ ∧ (if j = t then hl S t - dl else hl S' j) = _
          by_cases e : j = t
          · rw [if_pos e, e]
            exact ⟨k1, rfl⟩
          · rw [if_neg e]
            exact (y8 j).2.2 (by omega) h2)
    (fun q v hI => by
      obtain ⟨S', y1, y2, y3, y6, y7, y8⟩ := hI
      refine ⟨v, S', ?_, y1, y2, y3, fun j h1 h2 => y6 j (by omega) h2, fun i hi => y7 i (fun j h1 h2 => hi j (by omega) h2), fun j h1 => ⟨(y8 j).2.1 (by omega), (y8 j).2.2 (by omega)⟩⟩
      show bX1_shiftPotentials_98_l2 n (z dl) (lX1_shiftPotentials_98_l2 n (z dl) q) (z ((M + 1 : Nat) : Int)) v = _
      unfold bX1_shiftPotentials_98_l2
      rw [(htab_f ht y2).2.1, if_pos (zlt (by omega))]) (M + 1) 0 n m (by omega) (by omega) ⟨S, hr, hfr_rf, ⟨rfl, rfl, rfl⟩, fun j h => absurd h (Nat.not_lt_zero _), fun _ _ => rfl, fun j => ⟨fun _ => ⟨rfl, rfl⟩, fun h => absurd h (Nat.not_lt_zero _), fun h => absurd h (Nat.not_lt_zero _)⟩⟩
  obtain ⟨m', S', e1, g⟩ := F
  have e1 : lX1_shiftPotentials_98_l2 n (z dl) n (z 0) m = some m' := e1
  unfold fX1_shiftPotentials_98
  rw [e1, obind]
  exact ⟨m', S', rfl, g⟩
end HUNG

