/-! programs: the model reads a whole text -/
section MPROG
variable {n T a : Nat} {t : Nat → Nat}
theorem rk_1 (h : tOk T t) (hn : 100 ≤ n) (ha : a ≤ 60) {m : pmI} {p : Nat} (hp : p ≤ T) (hs : MS m T t p a []) : ∃ m', fX9_readsRest n (z 100) (z (a : Int)) m = some (z (if (RK T t 1 [97, 110, 99, 101, 114, 32] p).1 = true then 1 else 0), m') ∧ MS m' T t (RK T t 1 [97, 110, 99, 101, 114, 32] p).2.1 a (RK T t 1 [97, 110, 99, 101, 114, 32] p).2.2 ∧ gB m m' a := by
  unfold fX9_readsRest
  rw [if_pos rfl, za1, za3]
  exact m_tail (k := 1) hp (mw100021 h hn hp hs) (Blk_seq (w1 := [100, 100]) (Blk_place (n := n) h hn ha (by omega)) (Blk_seq (w1 := [42]) (Blk_sign (ch := 42) h (by omega) (by omega) (by omega) (by omega)) (Blk_seq (w1 := [110]) (Blk_num2 (n := n) (len := 2) h hn ha (by omega)) Blk_unit)))
theorem rk_7 (h : tOk T t) (hn : 100 ≤ n) (ha : a ≤ 60) {m : pmI} {p : Nat} (hp : p ≤ T) (hs : MS m T t p a []) : ∃ m', fX9_readsRest n (z 110) (z (a : Int)) m = some (z (if (RK T t 7 [97, 105, 108, 115, 32] p).1 = true then 1 else 0), m') ∧ MS m' T t (RK T t 7 [97, 105, 108, 115, 32] p).2.1 a (RK T t 7 [97, 105, 108, 115, 32] p).2.2 ∧ gB m m' a := by
  unfold fX9_readsRest
  rw [if_neg (by decide), if_neg (by decide), if_pos rfl, za1]
  exact m_tail (k := 7) hp (mw100025 h hn hp hs) (Blk_seq (w1 := [110]) (Blk_num2 (n := n) (len := 0) h hn ha (by omega)) Blk_unit)
theorem rk_5 (h : tOk T t) (hn : 100 ≤ n) (ha : a ≤ 60) {m : pmI} {p : Nat} (hp : p ≤ T) (hs : MS m T t p a []) : ∃ m', fX9_readsRest n (z 119) (z (a : Int)) m = some (z (if (RK T t 5 [97, 108, 107, 32] p).1 = true then 1 else 0), m') ∧ MS m' T t (RK T t 5 [97, 108, 107, 32] p).2.1 a (RK T t 5 [97, 108, 107, 32] p).2.2 ∧ gB m m' a := by
  unfold fX9_readsRest
  rw [if_neg (by decide), if_neg (by decide), if_neg (by decide), if_neg (by decide), if_pos rfl, za1, za2]
  exact m_tail (k := 5) hp (mw100023 h hn hp hs) (Blk_seq (w1 := [110]) (Blk_num2 (n := n) (len := 0) h hn ha (by omega)) (Blk_seq (w1 := [62]) (Blk_sign (ch := 62) h (by omega) (by omega) (by omega) (by omega)) (Blk_seq (w1 := [100, 100]) (Blk_place (n := n) (len := 1) h hn ha (by omega)) Blk_unit)))
theorem rk_6 (h : tOk T t) (hn : 100 ≤ n) (ha : a ≤ 60) {m : pmI} {p : Nat} (hp : p ≤ T) (hs : MS m T t p a []) : ∃ m', fX9_readsRest n (z 120) (z (a : Int)) m = some (z (if (RK T t 6 [120, 105, 116, 32] p).1 = true then 1 else 0), m') ∧ MS m' T t (RK T t 6 [120, 105, 116, 32] p).2.1 a (RK T t 6 [120, 105, 116, 32] p).2.2 ∧ gB m m' a := by
  unfold fX9_readsRest
  rw [if_neg (by decide), if_neg (by decide), if_neg (by decide), if_neg (by decide), if_neg (by decide), if_pos rfl, za1]
  exact m_tail (k := 6) hp (mw100024 h hn hp hs) (Blk_seq (w1 := [100, 100]) (Blk_place (n := n) (len := 0) h hn ha (by omega)) Blk_unit)
theorem rk_8 (h : tOk T t) (hn : 100 ≤ n) {m : pmI} {p : Nat} (hp : p ≤ T) (hs : MS m T t p a []) : ∃ m', fX9_readsRest n (z 108) (z (a : Int)) m = some (z (if (RK T t 8 [101, 97, 118, 101] p).1 = true then 1 else 0), m') ∧ MS m' T t (RK T t 8 [101, 97, 118, 101] p).2.1 a (RK T t 8 [101, 97, 118, 101] p).2.2 ∧ gB m m' a := by
  obtain ⟨m1, e1, s1, g1⟩ := mw100026 (n := n) h hn hp hs
  unfold fX9_readsRest RK
  rw [if_neg (by decide), if_neg (by decide), if_neg (by decide), if_neg (by decide), if_neg (by decide), if_neg (by decide), e1, obind]
  dsimp only
  by_cases e : mt T t [101, 97, 118, 101] p = 4
  · rw [e] at s1
    rw [if_pos e, if_pos (Or.inr rfl), if_pos (show mt T t [101, 97, 118, 101] p = ([101, 97, 118, 101] : List Nat).length from e)]
    exact ⟨m1, rfl, s1, g1⟩
  · rw [if_neg e, if_pos (Or.inl rfl), if_neg (show ¬ mt T t [101, 97, 118, 101] p = ([101, 97, 118, 101] : List Nat).length from e)]
    exact ⟨m1, rfl, s1, g1⟩
theorem rk_3 (h : tOk T t) (hn : 100 ≤ n) (ha : a ≤ 60) {m : pmI} {p : Nat} (hp : p ≤ T) (hs : MS m T t p a []) : ∃ m', fX9_readsRest n (z 102) (z (a : Int)) m = some (z (if (RK T t 3 [105, 103, 117, 114, 101, 32] p).1 = true then 1 else 0), m') ∧ MS m' T t (RK T t 3 [105, 103, 117, 114, 101, 32] p).2.1 a (RK T t 3 [105, 103, 117, 114, 101, 32] p).2.2 ∧ gB m m' a := by
  have key : ∃ m', fX9_readsFigure n (z (a : Int)) m = some (z (if (RK T t 3 [105, 103, 117, 114, 101, 32] p).1 = true then 1 else 0), m') ∧ MS m' T t (RK T t 3 [105, 103, 117, 114, 101, 32] p).2.1 a (RK T t 3 [105, 103, 117, 114, 101, 32] p).2.2 ∧ gB m m' a := by
    unfold fX9_readsFigure
    rw [za1]
    exact m_tail (k := 3) hp (mw100022 h hn hp hs) (Blk_seq (w1 := [100]) (Blk_num1 (n := n) (len := 0) h hn ha (by omega)) (Blk_seq (w1 := [58]) (Blk_sign (ch := 58) h (by omega) (by omega) (by omega) (by omega)) (Blk_figure (n := n) h hn ha)))
  obtain ⟨m1, e1, r1⟩ := key
  unfold fX9_readsRest
  rw [if_neg (by decide), if_pos rfl, e1, obind]
  dsimp only
  rw [bitt]
  exact ⟨m1, rfl, r1⟩
theorem rk_p (h : tOk T t) (hn : 100 ≤ n) (ha : a ≤ 60) {m : pmI} {p : Nat} (hp : p ≤ T) (hs : MS m T t p a []) (h126 : m.1 126 a = z 112) : ∃ (k e : Nat) (w : List Nat) (m' : pmI), (k = 0 ∧ e = 1 ∧ w = [111, 112, 32] ∧ sg T t p = 114 ∨ k = 2 ∧ e = 1 ∧ w = [105, 114, 32] ∧ sg T t p = 97 ∨ k = 4 ∧ e = 0 ∧ w = [101, 114, 102, 111, 114, 109, 32] ∧ ¬ sg T t p = 114 ∧ ¬ sg T t p = 97) ∧ fX9_readsRest n (z 112) (z (a : Int)) m = some (z (if (RK T t k w (p + e)).1 = true then 1 else 0), m') ∧ MS m' T t (RK T t k w (p + e)).2.1 a (RK T t k w (p + e)).2.2 ∧ hBc m m' a ∧ (∀ x, ¬ x = 22 → m'.1 113 x = m.1 113 x) ∧ m'.1 126 a = z (kd k : Int) := by
  have hT := h.1
  have sb := sg_b h p
  -- the two signs that may stand there
  have sign : ∀ (ch : Nat) (m : pmI), ch ≤ 200 → MS m T t p a [] → ∃ m1, fX9_isSign (z (ch : Int)) m = some (z (if sg T t p = (ch : Int) then 1 else 0), m1) ∧ MS m1 T t (if sg T t p = (ch : Int) then p + 1 else p) a [] ∧ gB m m1 a := fun ch m hch hs => by
    unfold fX9_isSign jX9_isSign_13
    rw [m_now h hs.1 hs.2.1 (by omega), obind, hs.2.1]
    by_cases g : sg T t p = (ch : Int)
    · obtain ⟨m1, e1, s1, g1⟩ := MS_pos hs (z (p : Int) + z 1) (p + 1) (by rw [show z 1 = z (1 : Int) from rfl, z_add]; rfl)
      rw [if_pos (by rw [g]), if_neg z10, pmLet_eq, e1, if_pos (Or.inr rfl), if_pos g, if_pos g]
      exact ⟨m1, rfl, s1, g1⟩
    · obtain ⟨m1, e1, s1, g1⟩ := MS_pos hs (z (p : Int) + z 0) p (by rw [show z 0 = z (0 : Int) from rfl, z_add, Int.add_zero])
      rw [if_neg (zne (by omega)), if_pos rfl, pmLet_eq, e1, if_pos (Or.inl rfl), if_neg g, if_neg g]
      exact ⟨m1, rfl, s1, g1⟩
  have wrap : ∀ (X : Option (Int32 × pmI)) (b : Bool) (m1 : pmI), X = some (z (if b = true then 1 else 0), m1) → (X.bind fun v20 => if v20.1 = z 0 ∨ v20.1 = z 1 then some (v20.1, v20.2) else none) = some (z (if b = true then 1 else 0), m1) := fun X b m1 hX => by
    rw [hX, obind]
    exact bitt
  unfold fX9_readsRest
  rw [if_neg (by decide), if_neg (by decide), if_neg (by decide), if_pos rfl]
  unfold fX9_readsP
  obtain ⟨m1, e1, s1, g1⟩ := sign 114 m (by omega) hs
  have e1 : fX9_isSign (z 114) m = some (z (if sg T t p = 114 then 1 else 0), m1) := e1
  have s1 : MS m1 T t (if sg T t p = 114 then p + 1 else p) a [] := s1
  rw [e1, obind]
  dsimp only
  by_cases c1 : sg T t p = 114
  · have hl := sg_lt (T := T) (t := t) (p := p) (by omega)
    rw [if_pos c1] at s1
    rw [if_pos c1, if_neg (by decide), za1]
    obtain ⟨m2, e2, s2, g2⟩ := m_tail (k := 0) (w := [111, 112, 32]) (p := p + 1) (by omega) (mw100018 (n := n) h hn (by omega) s1) (Blk_seq (w1 := [100, 100]) (Blk_place (n := n) (len := 0) h hn ha (by omega)) Blk_unit)
    have gg := gB_tr g1 g2
    exact ⟨0, 1, _, m2, Or.inl ⟨rfl, rfl, rfl, c1⟩, wrap _ _ _ e2, s2, hBc_g gg, gg.2.2.1, by rw [gg.2.2.2 a (Nat.le_refl _)]; exact h126⟩
  · rw [if_neg c1] at s1
    obtain ⟨m2, e2, s2, g2⟩ := sign 97 m1 (by omega) s1
    have e2 : fX9_isSign (z 97) m1 = some (z (if sg T t p = 97 then 1 else 0), m2) := e2
    have s2 : MS m2 T t (if sg T t p = 97 then p + 1 else p) a [] := s2
    rw [if_neg c1, if_pos rfl, e2, obind]
    dsimp only
    by_cases c2 : sg T t p = 97
    · have hl := sg_lt (T := T) (t := t) (p := p) (by omega)
      rw [if_pos c2] at s2
      obtain ⟨m3, e3, s3, v3, o3, j3, b3⟩ := MS_code s2 (z 97)
      rw [if_pos c2, if_neg (by decide), if_pos (okI_z (by omega)), z_nat (by omega), pmLet_eq, e3, za1, za2]
      obtain ⟨m4, e4, s4, g4⟩ := m_tail (k := 2) (w := [105, 114, 32]) (p := p + 1) (by omega) (mw100019 (n := n) h hn (by omega) s3) (Blk_seq (w1 := [110]) (Blk_num2 (n := n) (len := 0) h hn ha (by omega)) (Blk_seq (w1 := [38]) (Blk_sign (ch := 38) h (by omega) (by omega) (by omega) (by omega)) (Blk_seq (w1 := [110]) (Blk_num2 (n := n) (len := 1) h hn ha (by omega)) Blk_unit)))
      have g3 : hBc m2 m3 a := ⟨fun i _ y => o3 i y, j3, fun x _ _ => by rw [o3 113 (by decide)], fun b hb => b3 b (by omega)⟩
      exact ⟨2, 1, _, m4, Or.inr (Or.inl ⟨rfl, rfl, rfl, c2⟩), wrap _ _ _ e4, s4, hBc_tr (hBc_g (gB_tr g1 g2)) (hBc_tr g3 (hBc_g g4)), fun x hx => by rw [g4.2.2.1 x hx, o3 113 (by decide), g2.2.2.1 x hx, g1.2.2.1 x hx], by rw [g4.2.2.2 a (Nat.le_refl _)]; exact v3⟩
    · rw [if_neg c2] at s2
      obtain ⟨m3, e3, s3, v3, o3, j3, b3⟩ := MS_code s2 (z 101)
      rw [if_neg c2, if_pos rfl, if_pos (okI_z (by omega)), z_nat (by omega), pmLet_eq, e3, za1, za2]
      obtain ⟨m4, e4, s4, g4⟩ := m_tail (k := 4) (w := [101, 114, 102, 111, 114, 109, 32]) (p := p) hp (mw100020 (n := n) h hn hp s3) (Blk_seq (w1 := [100]) (Blk_num1 (n := n) (len := 0) h hn ha (by omega)) (Blk_seq (w1 := [32]) (Blk_sign (ch := 32) h (by omega) (by omega) (by omega) (by omega)) (Blk_seq (w1 := [110]) (Blk_num2 (n := n) (len := 1) h hn ha (by omega)) Blk_unit)))
      have g3 : hBc m2 m3 a := ⟨fun i _ y => o3 i y, j3, fun x _ _ => by rw [o3 113 (by decide)], fun b hb => b3 b (by omega)⟩
      exact ⟨4, 0, _, m4, Or.inr (Or.inr ⟨rfl, rfl, rfl, c1, c2⟩), wrap _ _ _ e4, s4, hBc_tr (hBc_g (gB_tr g1 g2)) (hBc_tr g3 (hBc_g g4)), fun x hx => by rw [g4.2.2.1 x hx, o3 113 (by decide), g2.2.2.1 x hx, g1.2.2.1 x hx], by rw [g4.2.2.2 a (Nat.le_refl _)]; exact v3⟩
/-- the commands read so far -/
def MPR (m : pmI) (cs : List Cm) : Prop := m.1 113 23 = z (cs.length : Int) ∧ ∀ i k as, cs[i]? = some (k, as) → (k < 9 ∧ List.length as ≤ 3) ∧ m.1 126 (5 * i) = z ((kd k : Nat) : Int) ∧ ∀ j, j < List.length as → m.1 126 (5 * i + 1 + j) = z ((as.getD j 0 : Nat) : Int)
theorem m_isFirst {x : Int} (hx : -1 ≤ x ∧ x < 65536) (m : pmI) : fX9_isFirst (z x) m = some (if x = 112 ∨ x = 100 ∨ x = 102 ∨ x = 119 ∨ x = 101 ∨ x = 110 ∨ x = 108 then z 1 else z 0) := by
  unfold fX9_isFirst
  simp (disch := omega) only [z_eq]
  by_cases h1 : x = 112
  · rw [if_pos h1, if_pos (Or.inl h1)]
  · rw [if_neg h1]
    by_cases h2 : x = 100
    · rw [if_pos h2, if_pos (by omega)]
    · rw [if_neg h2]
      by_cases h3 : x = 102
      · rw [if_pos h3, if_pos (by omega)]
      · rw [if_neg h3]
        by_cases h4 : x = 119
        · rw [if_pos h4, if_pos (by omega)]
        · rw [if_neg h4]
          by_cases h5 : x = 101
          · rw [if_pos h5, if_pos (by omega)]
          · rw [if_neg h5]
            by_cases h6 : x = 110
            · rw [if_pos h6, if_pos (by omega)]
            · rw [if_neg h6]
              by_cases h7 : x = 108
              · rw [if_pos h7, if_pos (by omega)]
              · rw [if_neg h7, if_neg (by omega)]
theorem m_readsCommand (h : tOk T t) (hn : 100 ≤ n) {m : pmI} {p : Nat} {cs : List Cm} (hm : mT m T t) (hp : p ≤ T) (h22 : m.1 113 22 = z (p : Int)) (hP : MPR m cs) (h6 : 6 * cs.length ≤ p) : ∃ m', fX9_readsCommand n m = some (z (if (rCmd T t p).1 = true then 1 else 0), m') ∧ m'.1 113 22 = z ((rCmd T t p).2.1 : Int) ∧ hBc m m' (5 * cs.length) ∧ ((rCmd T t p).1 = true → MPR m' (cs ++ [(rCmd T t p).2.2])) := by
  have hT := h.1
  have sb := sg_b h p
  unfold fX9_readsCommand
  rw [m_now h hm h22 (by omega), obind, m_isFirst sb, obind]
  by_cases hf : sg T t p = 112 ∨ sg T t p = 100 ∨ sg T t p = 102 ∨ sg T t p = 119 ∨ sg T t p = 101 ∨ sg T t p = 110 ∨ sg T t p = 108
  · have hl := sg_lt (T := T) (t := t) (p := p) (by omega)
    -- behind the first sign
    have mid : ∀ (x : Int), ∃ m5, MS m5 T t (p + 1) (5 * cs.length) [] ∧ m5.1 126 (5 * cs.length) = z x ∧ m5.1 113 23 = z ((cs.length + 1 : Nat) : Int) ∧ hBc m m5 (5 * cs.length) ∧ ∀ (b : Bool) (q : Nat) (as : List Nat) (m' : pmI), fX9_readsRest n (z x) (z ((5 * cs.length : Nat) : Int)) m5 = some (z (if b = true then 1 else 0), m') → jX9_readsCommand_38 n (z 5 * m.1 113 23) (z 5 * m.1 113 23) (z x) m = some (z (if b = true then 1 else 0), m') := fun x => by
      obtain ⟨m1, e1, j1, o1, r1⟩ := w_1 m 126 (5 * cs.length) (z x)
      obtain ⟨m2, e2, j2, o2, r2⟩ := w_1 m1 113 22 (m1.1 113 22 + z 1)
      obtain ⟨m3, e3, j3, o3, r3⟩ := w_1 m2 113 23 (m2.1 113 23 + z 1)
      have v126 : m3.1 126 (5 * cs.length) = z x := by rw [o3 126 (by decide), o2 126 (by decide), r1, if_pos rfl]
      refine ⟨m3, ⟨⟨by rw [r3, if_neg (by decide), r2, if_neg (by decide), o1 113 (by decide)]; exact hm.1, fun k hk => by rw [o3 125 (by decide), o2 125 (by decide), o1 125 (by decide)]; exact hm.2 k hk⟩, by rw [r3, if_neg (by decide), r2, if_pos rfl, o1 113 (by decide), h22, show z 1 = z (1 : Int) from rfl, z_add]; rfl, fun i hi => absurd hi (Nat.not_lt_zero _)⟩, v126, by rw [r3, if_pos rfl, r2, if_neg (by decide), o1 113 (by decide), hP.1, show z 1 = z (1 : Int) from rfl, z_add]; rfl, ⟨fun i a b => by rw [o3 i a, o2 i a, o1 i b], by rw [j3, j2, j1], fun x a b => by rw [r3, if_neg b, r2, if_neg a, o1 113 (by decide)], fun b hb => by rw [o3 126 (by decide), o2 126 (by decide), r1, if_neg (by omega)]⟩, fun b q as m' hR => ?_⟩
      unfold jX9_readsCommand_38
      rw [hP.1, z_mul, show (5 : Int) * (cs.length : Int) = ((5 * cs.length : Nat) : Int) by omega, if_pos (okI_z (by omega)), z_nat (by omega), pmLet_eq, e1, pmLet_eq, e2, pmLet_eq, e3, if_pos (okI_z (by omega)), v126, hR, obind]
      exact bitt
    have fin : ∀ (k e : Nat) (w : List Nat) (m5 m' : pmI), k < 9 → ((rCmd T t p).1 = (RK T t k w (p + 1 + e)).1 ∧ (rCmd T t p).2.1 = (RK T t k w (p + 1 + e)).2.1 ∧ ((rCmd T t p).1 = true → (rCmd T t p).2.2 = (k, (RK T t k w (p + 1 + e)).2.2))) → m5.1 113 23 = z ((cs.length + 1 : Nat) : Int) → hBc m m5 (5 * cs.length) → MS m' T t (RK T t k w (p + 1 + e)).2.1 (5 * cs.length) (RK T t k w (p + 1 + e)).2.2 → hBc m5 m' (5 * cs.length) → (∀ x, ¬ x = 22 → m'.1 113 x = m5.1 113 x) → m'.1 126 (5 * cs.length) = z (kd k : Int) → m'.1 113 22 = z ((rCmd T t p).2.1 : Int) ∧ hBc m m' (5 * cs.length) ∧ ((rCmd T t p).1 = true → MPR m' (cs ++ [(rCmd T t p).2.2])) := fun k e w m5 m' hk hr h23 b5 s' b' x' v' => by
      obtain ⟨r1, r2, r3⟩ := hr
      refine ⟨by rw [r2]; exact s'.2.1, hBc_tr b5 b', fun ok => ?_⟩
      rw [r3 ok]
      have hna : (RK T t k w (p + 1 + e)).2.2.length ≤ 3 := by
        have hsp : na (sp k) ≤ 3 := (show ∀ k, k < 9 → na (sp k) ≤ 3 by decide) k hk
        unfold RK
        split
        · have := rParts_na (T := T) (t := t) (sp k) (p + 1 + e + w.length) []
          have : ([] : List Nat).length = 0 := rfl
          omega
        · show ([] : List Nat).length ≤ 3
          exact Nat.zero_le _
      refine ⟨?_, fun i k' as' hi => ?_⟩
      · rw [x' 23 (by decide), h23, List.length_append]
        rfl
      · by_cases ei : i < cs.length
        · rw [List.getElem?_append_left ei] at hi
          obtain ⟨a0, a1, a2⟩ := hP.2 i k' as' hi
          exact ⟨a0, by rw [b'.2.2.2 _ (by omega), b5.2.2.2 _ (by omega)]; exact a1, fun j hj => by rw [b'.2.2.2 _ (by omega), b5.2.2.2 _ (by omega)]; exact a2 j hj⟩
        · have hlt := (List.getElem?_eq_some_iff.mp hi).1
          rw [List.length_append] at hlt
          have hlt : i < cs.length + 1 := hlt
          have ei2 : i = cs.length := by omega
          rw [List.getElem?_append_right (by omega), ei2, Nat.sub_self] at hi
          have hi : some (k, (RK T t k w (p + 1 + e)).2.2) = some (k', as') := hi
          cases hi
          rw [ei2]
          exact ⟨⟨hk, hna⟩, v', s'.2.2⟩
    have ha60 : 5 * cs.length ≤ 60 := by omega
    have go : ∀ (k : Nat) (w : List Nat) (x : Int), k < 9 → x = (kd k : Int) → (∀ m5, MS m5 T t (p + 1) (5 * cs.length) [] → ∃ m', fX9_readsRest n (z x) (z ((5 * cs.length : Nat) : Int)) m5 = some (z (if (RK T t k w (p + 1)).1 = true then 1 else 0), m') ∧ MS m' T t (RK T t k w (p + 1)).2.1 (5 * cs.length) (RK T t k w (p + 1)).2.2 ∧ gB m5 m' (5 * cs.length)) → ((rCmd T t p).1 = (RK T t k w (p + 1)).1 ∧ (rCmd T t p).2.1 = (RK T t k w (p + 1)).2.1 ∧ ((rCmd T t p).1 = true → (rCmd T t p).2.2 = (k, (RK T t k w (p + 1)).2.2))) → ∃ m', jX9_readsCommand_38 n (z 5 * m.1 113 23) (z 5 * m.1 113 23) (z x) m = some (z (if (rCmd T t p).1 = true then 1 else 0), m') ∧ m'.1 113 22 = z ((rCmd T t p).2.1 : Int) ∧ hBc m m' (5 * cs.length) ∧ ((rCmd T t p).1 = true → MPR m' (cs ++ [(rCmd T t p).2.2])) := fun k w x hk hx hR hr => by
      obtain ⟨m5, s5, v5, h23, b5, q5⟩ := mid x
      obtain ⟨m6, e6, s6, g6⟩ := hR m5 s5
      refine ⟨m6, ?_, fin k 0 w m5 m6 hk hr h23 b5 s6 (hBc_g g6) g6.2.2.1 (by rw [g6.2.2.2 _ (Nat.le_refl _), v5, hx])⟩
      rw [hr.1]
      exact q5 _ 0 [] m6 e6
    rw [if_pos hf, if_neg z10]
    have solo : ∀ (k : Nat) (w : List Nat), k < 9 → sg T t p = (fst9 k : Int) → (∀ j, j < 9 → ¬ j = k → ¬ fst9 j = fst9 k) → wd k = fst9 k :: w → (rCmd T t p).1 = (RK T t k w (p + 1)).1 ∧ (rCmd T t p).2.1 = (RK T t k w (p + 1)).2.1 ∧ ((rCmd T t p).1 = true → (rCmd T t p).2.2 = (k, (RK T t k w (p + 1)).2.2)) := fun k w hk hs hu hw => rCmd_k (e := 1) (rW_solo hk hs hu) (by rw [hw]; exact mt_1 hs) (by rw [hw, List.length_cons]; omega)
    by_cases he : sg T t p = 101
    · rw [if_pos (by rw [he])]
      exact go 6 [120, 105, 116, 32] 120 (by omega) rfl (fun m5 s5 => rk_6 (n := n) h hn ha60 (by omega) s5) (solo 6 _ (by omega) he (by decide) rfl)
    · rw [if_neg (zne (by omega))]
      rcases hf with hf | hf | hf | hf | hf | hf | hf
      · obtain ⟨m5, s5, v5, h23, b5, q5⟩ := mid 112
        obtain ⟨k, e, w, m6, hk, e6, s6, g6, x6, v6⟩ := rk_p (n := n) h hn ha60 (by omega) s5 v5
        have hr : (rCmd T t p).1 = (RK T t k w (p + 1 + e)).1 ∧ (rCmd T t p).2.1 = (RK T t k w (p + 1 + e)).2.1 ∧ ((rCmd T t p).1 = true → (rCmd T t p).2.2 = (k, (RK T t k w (p + 1 + e)).2.2)) := by
          have hw := rW_p (T := T) (t := t) (p := p) (k := k) hf (by rcases hk with ⟨a, -, -, b⟩ | ⟨a, -, -, b⟩ | ⟨a, -, -, b⟩ <;> omega)
          rw [show p + 1 + e = p + (1 + e) by omega]
          rcases hk with ⟨rfl, rfl, rfl, g⟩ | ⟨rfl, rfl, rfl, g⟩ | ⟨rfl, rfl, rfl, g⟩
          · exact rCmd_k hw (by rw [show mt T t (wd 0) p = 1 + mt T t [114, 111, 112, 32] (p + 1) from mt_1 hf, show mt T t [114, 111, 112, 32] (p + 1) = 1 + mt T t [111, 112, 32] (p + 1 + 1) from mt_1 g, show p + (1 + 1) = p + 1 + 1 by omega]; omega) rfl
          · exact rCmd_k hw (by rw [show mt T t (wd 2) p = 1 + mt T t [97, 105, 114, 32] (p + 1) from mt_1 hf, show mt T t [97, 105, 114, 32] (p + 1) = 1 + mt T t [105, 114, 32] (p + 1 + 1) from mt_1 g, show p + (1 + 1) = p + 1 + 1 by omega]; omega) rfl
          · exact rCmd_k hw (mt_1 hf) rfl
        rw [hf]
        refine ⟨m6, ?_, fin k e w m5 m6 (by rcases hk with ⟨a, -⟩ | ⟨a, -⟩ | ⟨a, -⟩ <;> omega) hr h23 b5 s6 g6 x6 v6⟩
        rw [hr.1]
        exact q5 _ 0 [] m6 e6
      · rw [hf]
        exact go 1 [97, 110, 99, 101, 114, 32] 100 (by omega) rfl (fun m5 s5 => rk_1 (n := n) h hn ha60 (by omega) s5) (solo 1 _ (by omega) hf (by decide) rfl)
      · rw [hf]
        exact go 3 [105, 103, 117, 114, 101, 32] 102 (by omega) rfl (fun m5 s5 => rk_3 (n := n) h hn ha60 (by omega) s5) (solo 3 _ (by omega) hf (by decide) rfl)
      · rw [hf]
        exact go 5 [97, 108, 107, 32] 119 (by omega) rfl (fun m5 s5 => rk_5 (n := n) h hn ha60 (by omega) s5) (solo 5 _ (by omega) hf (by decide) rfl)
      · exact absurd hf he
      · rw [hf]
        exact go 7 [97, 105, 108, 115, 32] 110 (by omega) rfl (fun m5 s5 => rk_7 (n := n) h hn ha60 (by omega) s5) (solo 7 _ (by omega) hf (by decide) rfl)
      · rw [hf]
        exact go 8 [101, 97, 118, 101] 108 (by omega) rfl (fun m5 s5 => rk_8 (n := n) h hn (by omega) s5) (solo 8 _ (by omega) hf (by decide) rfl)
  · have hno : rW T t p 9 0 0 = (none, p) := rW_no (fun j hj g => by
      have : ∀ j, j < 9 → fst9 j = 112 ∨ fst9 j = 100 ∨ fst9 j = 102 ∨ fst9 j = 119 ∨ fst9 j = 101 ∨ fst9 j = 110 ∨ fst9 j = 108 := by decide
      have := this j hj
      omega)
    have hr : rCmd T t p = (false, p, (0, [])) := by
      unfold rCmd
      rw [hno]
    rw [if_neg hf, if_pos rfl, hr]
    exact ⟨m, rfl, h22, hBc_rf, fun g => (nomatch (show false = true from g))⟩
end MPROG
