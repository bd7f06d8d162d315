/-! programs: how the model reads -/
/-- the model's reader: the place, the values behind a command's code -/
def MS (m : pmI) (T : Nat) (t : Nat → Nat) (p a : Nat) (as : List Nat) : Prop := mT m T t ∧ m.1 113 22 = z (p : Int) ∧ ∀ i, i < as.length → m.1 126 (a + 1 + i) = z (as.getD i 0 : Int)
def gB (m m' : pmI) (a : Nat) : Prop := (∀ i, ¬ i = 113 → ¬ i = 126 → m'.1 i = m.1 i) ∧ m'.2 = m.2 ∧ (∀ x, ¬ x = 22 → m'.1 113 x = m.1 113 x) ∧ ∀ b, b ≤ a → m'.1 126 b = m.1 126 b
theorem gB_rf {m : pmI} {a : Nat} : gB m m a := ⟨fun _ _ _ => rfl, rfl, fun _ _ => rfl, fun _ _ => rfl⟩
theorem gB_tr {m m1 m2 : pmI} {a : Nat} (h1 : gB m m1 a) (h2 : gB m1 m2 a) : gB m m2 a := ⟨fun i x y => (h2.1 i x y).trans (h1.1 i x y), h2.2.1.trans h1.2.1, fun x y => (h2.2.2.1 x y).trans (h1.2.2.1 x y), fun b hb => (h2.2.2.2 b hb).trans (h1.2.2.2 b hb)⟩
theorem rParts_app {T : Nat} {t : Nat → Nat} (w2 : List Nat) : ∀ (w1 : List Nat) (p : Nat) (as : List Nat), rParts T t (w1 ++ w2) p as = if (rParts T t w1 p as).1 = true then rParts T t w2 (rParts T t w1 p as).2.1 (rParts T t w1 p as).2.2 else (false, (rParts T t w1 p as).2.1, (rParts T t w1 p as).2.2)
  | [], p, as => by
    show rParts T t w2 p as = if true = true then rParts T t w2 p as else _
    rw [if_pos rfl]
  | c :: w, p, as => by
    show (if (rPart T t c p as).1 = true then rParts T t (w ++ w2) (rPart T t c p as).2.1 (rPart T t c p as).2.2 else (false, (rPart T t c p as).2.1, (rPart T t c p as).2.2)) = _
    have ih := rParts_app (T := T) (t := t) w2 w (rPart T t c p as).2.1 (rPart T t c p as).2.2
    by_cases ok : (rPart T t c p as).1 = true
    · have e : rParts T t (c :: w) p as = rParts T t w (rPart T t c p as).2.1 (rPart T t c p as).2.2 := if_pos ok
      rw [if_pos ok, e, ih]
    · have e : rParts T t (c :: w) p as = (false, (rPart T t c p as).2.1, (rPart T t c p as).2.2) := if_neg ok
      rw [if_neg ok, e]
      dsimp only
      rw [if_neg (by decide)]
/-- a piece of the model's reader that reads the parts w, with len values kept before -/
def Blk (T : Nat) (t : Nat → Nat) (a len : Nat) (f : pmI → Option (Int32 × pmI)) (w : List Nat) : Prop := ∀ (m : pmI) (p : Nat) (as : List Nat), as.length = len → p ≤ T → MS m T t p a as → ∃ m', f m = some (z (if (rParts T t w p as).1 = true then 1 else 0), m') ∧ MS m' T t (rParts T t w p as).2.1 a (rParts T t w p as).2.2 ∧ gB m m' a
section MREAD
variable {n T a : Nat} {t : Nat → Nat}
theorem rParts_len : ∀ (w : List Nat) (p : Nat) (as : List Nat), (rParts T t w p as).1 = true → (rParts T t w p as).2.2.length = as.length + na w
  | [], _, _, _ => rfl
  | c :: w, p, as, h => by
    have h1 := rPart_na (T := T) (t := t) (ch := c) (p := p) (as := as)
    have h2 := na_cons c w
    by_cases ok : (rPart T t c p as).1 = true
    · have e : rParts T t (c :: w) p as = rParts T t w (rPart T t c p as).2.1 (rPart T t c p as).2.2 := if_pos ok
      rw [e] at h ⊢
      have := rParts_len w (rPart T t c p as).2.1 (rPart T t c p as).2.2 h
      omega
    · have e : rParts T t (c :: w) p as = (false, (rPart T t c p as).2.1, (rPart T t c p as).2.2) := if_neg ok
      rw [e] at h
      cases h
theorem Blk_unit {len : Nat} : Blk T t a len (fun m => some (z 1, m)) [] := fun m p as _ _ hs => ⟨m, rfl, hs, gB_rf⟩
theorem Blk_seq {len : Nat} {f g : pmI → Option (Int32 × pmI)} {w1 w2 : List Nat} (h1 : Blk T t a len f w1) (h2 : Blk T t a (len + na w1) g w2) : Blk T t a len (fun m => (f m).bind fun v => if v.1 = z 0 then some (z 0, v.2) else g v.2) (w1 ++ w2) := fun m p as hl hp hs => by
  obtain ⟨m1, e1, s1, g1⟩ := h1 m p as hl hp hs
  have pb := rParts_b (T := T) (t := t) w1 p as hp
  rw [rParts_app]
  by_cases ok : (rParts T t w1 p as).1 = true
  · obtain ⟨m2, e2, s2, g2⟩ := h2 m1 _ _ (by rw [rParts_len w1 p as ok, hl]) pb.2 s1
    refine ⟨m2, ?_, by rw [if_pos ok]; exact s2, gB_tr g1 g2⟩
    show (f m).bind _ = _
    rw [e1, obind]
    dsimp only
    rw [if_pos ok, if_neg (by decide), if_pos ok]
    exact e2
  · refine ⟨m1, ?_, by rw [if_neg ok]; exact s1, g1⟩
    show (f m).bind _ = _
    rw [e1, obind]
    dsimp only
    rw [if_neg ok, if_pos rfl, if_neg ok]
    rfl
theorem MS_pos {m : pmI} {p : Nat} {as : List Nat} (h : MS m T t p a as) (x : Int32) (p' : Nat) (hx : x = z (p' : Int)) : ∃ m', (pmU m.1 113 22 x, m.2) = m' ∧ MS m' T t p' a as ∧ gB m m' a := by
  obtain ⟨m1, e1, j1, o1, r1⟩ := w_1 m 113 22 x
  refine ⟨m1, e1, ⟨⟨by rw [r1, if_neg (by decide)]; exact h.1.1, fun k hk => by rw [o1 125 (by decide)]; exact h.1.2 k hk⟩, by rw [r1, if_pos rfl, hx], fun i hi => by rw [o1 126 (by decide)]; exact h.2.2 i hi⟩, fun i x _ => o1 i x, j1, fun x hx => by rw [r1, if_neg hx], fun b _ => by rw [o1 126 (by decide)]⟩
theorem MS_keep {m : pmI} {p : Nat} {as : List Nat} (h : MS m T t p a as) (v : Nat) : ∃ m', (pmU m.1 126 (a + 1 + as.length) (z (v : Int)), m.2) = m' ∧ MS m' T t p a (as ++ [v]) ∧ gB m m' a := by
  obtain ⟨m1, e1, j1, o1, r1⟩ := w_1 m 126 (a + 1 + as.length) (z (v : Int))
  refine ⟨m1, e1, ⟨⟨by rw [o1 113 (by decide)]; exact h.1.1, fun k hk => by rw [o1 125 (by decide)]; exact h.1.2 k hk⟩, by rw [o1 113 (by decide)]; exact h.2.1, fun i hi => ?_⟩, fun i _ x => o1 i x, j1, fun x _ => by rw [o1 113 (by decide)], fun b hb => by rw [r1, if_neg (by omega)]⟩
  rw [List.length_append] at hi
  have hi : i < as.length + 1 := hi
  rw [r1]
  by_cases e : i = as.length
  · rw [if_pos (by rw [e]), e, getD_r]
  · rw [if_neg (by omega), getD_l (by omega)]
    exact h.2.2 i (by omega)
theorem Blk_sign (h : tOk T t) {len ch : Nat} (hch : ch ≤ 200) (hc1 : ¬ ch = 100) (hc2 : ¬ ch = 109) (hc3 : ¬ ch = 110) : Blk T t a len (fX9_isSign (z (ch : Int))) [ch] := fun m p as _ hp hs => by
  have hT := h.1
  have sb := sg_b h p
  have e : rParts T t [ch] p as = if sg T t p = (ch : Int) then (true, p + 1, as) else (false, p, as) := by
    show (if (rPart T t ch p as).1 = true then (true, (rPart T t ch p as).2.1, (rPart T t ch p as).2.2) else (false, (rPart T t ch p as).2.1, (rPart T t ch p as).2.2)) = _
    have e0 : rPart T t ch p as = if sg T t p = (ch : Int) then (true, p + 1, as) else (false, p, as) := by
      unfold rPart
      rw [if_neg hc1, if_neg hc2, if_neg hc3]
    rw [e0]
    by_cases g : sg T t p = (ch : Int)
    · rw [if_pos g]
      rfl
    · rw [if_neg g]
      rfl
  rw [e]
  unfold fX9_isSign jX9_isSign_13
  rw [m_now h hs.1 hs.2.1 (by omega), obind, hs.2.1]
  by_cases g : sg T t p = (ch : Int)
  · obtain ⟨m1, e1, s1, g1⟩ := MS_pos hs (z (p : Int) + z 1) (p + 1) (by rw [show z 1 = z (1 : Int) from rfl, z_add]; rfl)
    rw [if_pos (by rw [g]), if_neg z10, pmLet_eq, e1, if_pos (Or.inr rfl), if_pos g]
    exact ⟨m1, rfl, s1, g1⟩
  · obtain ⟨m1, e1, s1, g1⟩ := MS_pos hs (z (p : Int) + z 0) p (by rw [show z 0 = z (0 : Int) from rfl, z_add, Int.add_zero])
    rw [if_neg (zne (by omega)), if_pos rfl, pmLet_eq, e1, if_pos (Or.inl rfl), if_neg g]
    exact ⟨m1, rfl, s1, g1⟩
theorem m_numL (h : tOk T t) {D : Nat} (hD : D ≤ 5) {i2 : Int32} : ∀ (d v k p q : Nat) (m : pmI) (as : List Nat), k + d = D → d < q → p ≤ T → MS m T t p a as → ∃ m', lX9_isNumber_l5 n (z (D : Int)) i2 q (z (v : Int)) (z (k : Int)) m = some (z ((num T t d v k p).1 : Int), z ((num T t d v k p).2.1 : Int), m') ∧ MS m' T t (num T t d v k p).2.2 a as ∧ gB m m' a := by
  have hT := h.1
  intro d
  induction d with
  | zero =>
    intro v k p q m as h1 h2 hp hs
    obtain ⟨q, rfl⟩ : ∃ j, q = j + 1 := ⟨q - 1, by omega⟩
    show ∃ m', bX9_isNumber_l5 n (z (D : Int)) i2 (lX9_isNumber_l5 n (z (D : Int)) i2 q) (z (v : Int)) (z (k : Int)) m = _ ∧ _
    unfold bX9_isNumber_l5
    rw [if_neg (zge (by omega))]
    exact ⟨m, rfl, hs, gB_rf⟩
  | succ d ih =>
    intro v k p q m as h1 h2 hp hs
    obtain ⟨q, rfl⟩ : ∃ j, q = j + 1 := ⟨q - 1, by omega⟩
    show ∃ m', bX9_isNumber_l5 n (z (D : Int)) i2 (lX9_isNumber_l5 n (z (D : Int)) i2 q) (z (v : Int)) (z (k : Int)) m = _ ∧ _
    have sb := sg_b h p
    unfold bX9_isNumber_l5 num
    rw [if_pos (zlt (by omega)), m_now h hs.1 hs.2.1 (by omega), obind, m_isIn (by omega), obind]
    by_cases hd : dig T t p = true
    · have hd2 := dig_iff.mp hd
      have hl := sg_lt (T := T) (t := t) (p := p) (by omega)
      obtain ⟨m1, e1, s1, g1⟩ := MS_pos hs (z (p : Int) + z 1) (p + 1) (by rw [show z 1 = z (1 : Int) from rfl, z_add]; rfl)
      obtain ⟨m2, e2, s2, g2⟩ := ih (10 * v + ((sg T t p).toNat - 48)) (k + 1) (p + 1) q m1 as (by omega) (by omega) (by omega) s1
      rw [if_pos hd2, if_neg z10, obind, hs.2.1, pmLet_eq, e1, if_pos hd, z_mul, z_add, z_sub, show z 1 = z (1 : Int) from rfl, z_add, show (10 : Int) * (v : Int) + sg T t p - 48 = ((10 * v + ((sg T t p).toNat - 48) : Nat) : Int) by omega]
      exact ⟨m2, e2, s2, gB_tr g1 g2⟩
    · rw [if_neg (fun g => hd (dig_iff.mpr g)), if_pos rfl, if_neg hd]
      exact ⟨m, rfl, hs, gB_rf⟩
theorem m_nmbr (h : tOk T t) (hn : 100 ≤ n) (ha : a ≤ 60) {len D : Nat} (hD : D ≤ 5) (hlen : len ≤ 3) {m : pmI} {p : Nat} {as : List Nat} (hl : as.length = len) (hp : p ≤ T) (hs : MS m T t p a as) : ∃ m', fX9_isNumber n (z (D : Int)) (z ((a + 1 + len : Nat) : Int)) m = some (z (if 0 < (num T t D 0 0 p).2.1 then 1 else 0), m') ∧ MS m' T t (num T t D 0 0 p).2.2 a (as ++ [(num T t D 0 0 p).1]) ∧ gB m m' a := by
  obtain ⟨m1, e1, s1, g1⟩ := m_numL (n := n) (a := a) (i2 := z ((a + 1 + len : Nat) : Int)) h hD D 0 0 p n m as (by omega) (by omega) hp hs
  have nb := (num_b (T := T) (t := t) D 0 0 p (by decide) hp).2.2
  obtain ⟨m2, e2, s2, g2⟩ := MS_keep s1 (num T t D 0 0 p).1
  unfold fX9_isNumber jX9_isNumber_54
  have e1 : lX9_isNumber_l5 n (z (D : Int)) (z ((a + 1 + len : Nat) : Int)) n (z 0) (z 0) m = _ := e1
  rw [e1, obind]
  dsimp only
  rw [if_pos (okI_z (by omega)), z_nat (by omega), ← hl, pmLet_eq, e2]
  by_cases hl2 : 0 < (num T t D 0 0 p).2.1
  · rw [if_pos (zlt (by omega)), if_pos hl2]
    exact ⟨m2, rfl, s2, gB_tr g1 g2⟩
  · rw [if_neg (zge (by omega)), if_neg hl2]
    exact ⟨m2, rfl, s2, gB_tr g1 g2⟩
theorem Blk_num1 (h : tOk T t) (hn : 100 ≤ n) (ha : a ≤ 60) {len : Nat} (hlen : len ≤ 3) : Blk T t a len (fX9_isNumber n (z 1) (z ((a + 1 + len : Nat) : Int))) [100] := fun m p as hl hp hs => by
  obtain ⟨m1, e1, s1, g1⟩ := m_nmbr (n := n) (D := 1) h hn ha (by omega) hlen hl hp hs
  have e : rParts T t [100] p as = (decide (0 < (num T t 1 0 0 p).2.1), (num T t 1 0 0 p).2.2, as ++ [(num T t 1 0 0 p).1]) := by
    show (if decide (0 < (num T t 1 0 0 p).2.1) = true then (true, (num T t 1 0 0 p).2.2, as ++ [(num T t 1 0 0 p).1]) else (false, (num T t 1 0 0 p).2.2, as ++ [(num T t 1 0 0 p).1])) = _
    cases decide (0 < (num T t 1 0 0 p).2.1) <;> rfl
  rw [e]
  refine ⟨m1, ?_, s1, g1⟩
  have e1 : fX9_isNumber n (z 1) (z ((a + 1 + len : Nat) : Int)) m = _ := e1
  rw [e1]
  dsimp only
  by_cases hd : 0 < (num T t 1 0 0 p).2.1
  · rw [if_pos hd, if_pos (decide_eq_true hd)]
  · rw [if_neg hd, if_neg (show ¬ decide (0 < (num T t 1 0 0 p).2.1) = true by rw [decide_eq_false hd]; decide)]
theorem Blk_num2 (h : tOk T t) (hn : 100 ≤ n) (ha : a ≤ 60) {len : Nat} (hlen : len ≤ 3) : Blk T t a len (fX9_isNumber n (z 2) (z ((a + 1 + len : Nat) : Int))) [110] := fun m p as hl hp hs => by
  obtain ⟨m1, e1, s1, g1⟩ := m_nmbr (n := n) (D := 2) h hn ha (by omega) hlen hl hp hs
  have e : rParts T t [110] p as = (decide (0 < (num T t 2 0 0 p).2.1), (num T t 2 0 0 p).2.2, as ++ [(num T t 2 0 0 p).1]) := by
    show (if decide (0 < (num T t 2 0 0 p).2.1) = true then (true, (num T t 2 0 0 p).2.2, as ++ [(num T t 2 0 0 p).1]) else (false, (num T t 2 0 0 p).2.2, as ++ [(num T t 2 0 0 p).1])) = _
    cases decide (0 < (num T t 2 0 0 p).2.1) <;> rfl
  rw [e]
  refine ⟨m1, ?_, s1, g1⟩
  have e1 : fX9_isNumber n (z 2) (z ((a + 1 + len : Nat) : Int)) m = _ := e1
  rw [e1]
  dsimp only
  by_cases hd : 0 < (num T t 2 0 0 p).2.1
  · rw [if_pos hd, if_pos (decide_eq_true hd)]
  · rw [if_neg hd, if_neg (show ¬ decide (0 < (num T t 2 0 0 p).2.1) = true by rw [decide_eq_false hd]; decide)]
theorem Blk_place (h : tOk T t) (hn : 100 ≤ n) (ha : a ≤ 60) {len : Nat} (hlen : len ≤ 2) : Blk T t a len (fX9_isPlace n (z ((a + 1 + len : Nat) : Int))) [100, 100] := by
  have b1 := Blk_num1 (n := n) (a := a) (len := len) h hn ha (by omega)
  have b2 := Blk_num1 (n := n) (a := a) (len := len + 1) h hn ha (by omega)
  have b := Blk_seq (w1 := [100]) b1 (Blk_seq (w1 := [100]) b2 (Blk_unit (len := len + 1 + 1)))
  intro m p as hl hp hs
  obtain ⟨m1, e1, r⟩ := b m p as hl hp hs
  refine ⟨m1, ?_, r⟩
  unfold fX9_isPlace
  rw [show z 1 = z (1 : Int) from rfl, z_add]
  exact e1
theorem m_mvsL (h : tOk T t) {i1 : Int32} : ∀ (d p q : Nat) (m : pmI) (as : List Nat), T ≤ p + d → d < q → p ≤ T → MS m T t p a as → ∃ m', lX9_readsFigure_l44 n i1 q m = some m' ∧ MS m' T t (mvs T t d p) a as ∧ gB m m' a := by
  have hT := h.1
  have step : ∀ (p q : Nat) (m : pmI), p ≤ T → mT m T t → m.1 113 22 = z (p : Int) → mvIx (sg T t p) = none → lX9_readsFigure_l44 n i1 (q + 1) m = some m := fun p q m hp hm h22 hv => by
    have sb := sg_b h p
    show bX9_readsFigure_l44 n i1 (lX9_readsFigure_l44 n i1 q) m = _
    unfold bX9_readsFigure_l44
    rw [m_now h hm h22 (by omega), obind, m_isMove (by omega), obind, if_pos hv, if_pos rfl]
  intro d
  induction d with
  | zero =>
    intro p q m as h1 h2 hp hs
    obtain ⟨q, rfl⟩ : ∃ j, q = j + 1 := ⟨q - 1, by omega⟩
    have e : sg T t p = -1 := by unfold sg; rw [if_neg (by omega)]
    rw [step p q m hp hs.1 hs.2.1 (by rw [e]; decide)]
    exact ⟨m, rfl, hs, gB_rf⟩
  | succ d ih =>
    intro p q m as h1 h2 hp hs
    obtain ⟨q, rfl⟩ : ∃ j, q = j + 1 := ⟨q - 1, by omega⟩
    have sb := sg_b h p
    unfold mvs
    cases hv : mvIx (sg T t p) with
    | none =>
      rw [if_pos rfl, step p q m hp hs.1 hs.2.1 hv]
      exact ⟨m, rfl, hs, gB_rf⟩
    | some v =>
      have hl : p < T := by
        unfold sg at hv
        split at hv
        · assumption
        · rw [show mvIx (-1) = none by decide] at hv; cases hv
      obtain ⟨m1, e1, s1, g1⟩ := MS_pos hs (z (p : Int) + z 1) (p + 1) (by rw [show z 1 = z (1 : Int) from rfl, z_add]; rfl)
      obtain ⟨m2, e2, s2, g2⟩ := ih (p + 1) q m1 as (by omega) (by omega) (by omega) s1
      rw [if_neg (Option.some_ne_none v)]
      refine ⟨m2, ?_, s2, gB_tr g1 g2⟩
      show bX9_readsFigure_l44 n i1 (lX9_readsFigure_l44 n i1 q) m = _
      unfold bX9_readsFigure_l44
      rw [m_now h hs.1 hs.2.1 (by omega), obind, m_isMove (by omega), obind, hv, if_neg (Option.some_ne_none v), if_neg z10, hs.2.1, pmLet_eq, e1]
      exact e2
theorem mw_gen (h : tOk T t) (w : List Nat) (hw : ∀ ch, ch ∈ w → ch ≤ 200) (l : Nat → Int32 → pmI → Option (pmI ⊕ (Int32 × pmI))) (hs : ∀ (k i ch : Nat) (m : pmI), w[i]? = some ch → l (k + 1) (z (i : Int)) m = (fX9_isSign (z (ch : Int)) m).bind fun v => if v.1 = z 0 then some (.inr (z 0, v.2)) else l k (z ((i : Int) + 1)) v.2) (he : ∀ k m, l (k + 1) (z (w.length : Int)) m = some (.inl m)) : ∀ (d i k p : Nat) (m : pmI), i + d = w.length → d < k → p ≤ T → MS m T t p a [] → ∃ m', l k (z (i : Int)) m = some (if mt T t (w.drop i) p = (w.drop i).length then .inl m' else .inr (z 0, m')) ∧ MS m' T t (p + mt T t (w.drop i) p) a [] ∧ gB m m' a
  | 0, i, k + 1, p, m, h1, _, hp, hcs => by
    obtain rfl : i = w.length := by omega
    rw [he, List.drop_length]
    exact ⟨m, by rw [if_pos]; rfl, hcs, gB_rf⟩
  | d + 1, i, k + 1, p, m, h1, h2, hp, hcs => by
    have hi : i < w.length := by omega
    have hT := h.1
    have sb := sg_b h p
    have hch := hw _ (List.getElem_mem hi)
    rw [hs k i w[i] m (List.getElem?_eq_getElem hi), List.drop_eq_getElem_cons hi]
    have hsig : ∃ m1, fX9_isSign (z (w[i] : Int)) m = some (z (if sg T t p = (w[i] : Int) then 1 else 0), m1) ∧ MS m1 T t (if sg T t p = (w[i] : Int) then p + 1 else p) a [] ∧ gB m m1 a := by
      unfold fX9_isSign jX9_isSign_13
      rw [m_now h hcs.1 hcs.2.1 (by omega), obind, hcs.2.1]
      by_cases g : sg T t p = (w[i] : Int)
      · obtain ⟨m1, e1, s1, g1⟩ := MS_pos hcs (z (p : Int) + z 1) (p + 1) (by rw [show z 1 = z (1 : Int) from rfl, z_add]; rfl)
        rw [if_pos (by rw [g]), if_neg z10, pmLet_eq, e1, if_pos (Or.inr rfl), if_pos g, if_pos g]
        exact ⟨m1, rfl, s1, g1⟩
      · obtain ⟨m1, e1, s1, g1⟩ := MS_pos hcs (z (p : Int) + z 0) p (by rw [show z 0 = z (0 : Int) from rfl, z_add, Int.add_zero])
        rw [if_neg (zne (by omega)), if_pos rfl, pmLet_eq, e1, if_pos (Or.inl rfl), if_neg g, if_neg g]
        exact ⟨m1, rfl, s1, g1⟩
    obtain ⟨m1, e1, s1, g1⟩ := hsig
    rw [e1, obind]
    dsimp only
    unfold mt
    by_cases g : sg T t p = (w[i] : Int)
    · have hl := sg_lt (T := T) (t := t) (p := p) (by omega)
      rw [if_pos g] at s1
      obtain ⟨m2, e2, s2, g2⟩ := mw_gen h w hw l hs he d (i + 1) k (p + 1) m1 (by omega) (by omega) (by omega) s1
      have e2 : l k (z ((i : Int) + 1)) m1 = _ := e2
      rw [if_pos g, if_neg (by decide), e2, if_pos g]
      refine ⟨m2, ?_, by rw [show p + (1 + mt T t (w.drop (i + 1)) (p + 1)) = p + 1 + mt T t (w.drop (i + 1)) (p + 1) by omega]; exact s2, gB_tr g1 g2⟩
      by_cases hf : mt T t (w.drop (i + 1)) (p + 1) = (w.drop (i + 1)).length
      · rw [if_pos hf, if_pos (by rw [List.length_cons]; omega)]
      · rw [if_neg hf, if_neg (by rw [List.length_cons]; omega)]
    · rw [if_neg g] at s1
      rw [if_neg g, if_pos rfl, if_neg g, Nat.add_zero]
      exact ⟨m1, by rw [if_neg (show ¬ 0 = (w[i] :: w.drop (i + 1)).length by rw [List.length_cons]; omega)], s1, g1⟩

theorem len100018 (m : pmI) : fJ0_length_8abf5_100018 m = some (z 3) := (by decide +kernel : fJ0_length_8abf5_100018 m00 = some (z 3))
theorem ch1000180 : ∀ i : Nat, i < 3 → fJ0_charAt_5068e_100018 (z (i : Int)) m00 = some (z (([111, 112, 32] : List Nat).getD i 0 : Int)) := by decide +kernel
theorem ch100018 {i : Nat} (h : i < 3) (m : pmI) : fJ0_charAt_5068e_100018 (z (i : Int)) m = some (z (([111, 112, 32] : List Nat).getD i 0 : Int)) := ch1000180 i h
theorem mw100018 (h : tOk T t) (hn : 100 ≤ n) {p : Nat} {m : pmI} (hp : p ≤ T) (hs : MS m T t p a []) : ∃ m', fX9_isWord_100018 n m = some (z (if mt T t [111, 112, 32] p = 3 then 1 else 0), m') ∧ MS m' T t (p + mt T t [111, 112, 32] p) a [] ∧ gB m m' a := by
  obtain ⟨m1, e1, r1⟩ := mw_gen (a := a) h [111, 112, 32] (by decide) (lX9_isWord_100018_l2 n) (fun k i ch m hch => by
    have hi : i < 3 := (List.getElem?_eq_some_iff.mp hch).1
    have hg : ([111, 112, 32] : List Nat).getD i 0 = ch := by rw [List.getD_eq_getElem?_getD, hch]; rfl
    show bX9_isWord_100018_l2 n (lX9_isWord_100018_l2 n k) (z (i : Int)) m = _
    unfold bX9_isWord_100018_l2
    rw [len100018, obind, if_pos (zlt (by omega)), ch100018 hi, obind, hg, show z 1 = z (1 : Int) from rfl, z_add]) (fun k m => by
    show bX9_isWord_100018_l2 n (lX9_isWord_100018_l2 n k) (z 3) m = _
    unfold bX9_isWord_100018_l2
    rw [len100018, obind, if_neg (zge (by omega))]) 3 0 n p m rfl (by omega) hp hs
  have e1 : lX9_isWord_100018_l2 n n (z 0) m = some (if mt T t [111, 112, 32] p = 3 then .inl m1 else .inr (z 0, m1)) := e1
  unfold fX9_isWord_100018
  rw [e1, obind]
  by_cases e : mt T t [111, 112, 32] p = 3
  · rw [if_pos e, oS_l, if_pos e]
    exact ⟨m1, rfl, r1⟩
  · rw [if_neg e, oS_r, if_neg e]
    exact ⟨m1, rfl, r1⟩
theorem len100019 (m : pmI) : fJ0_length_8abf5_100019 m = some (z 3) := (by decide +kernel : fJ0_length_8abf5_100019 m00 = some (z 3))
theorem ch1000190 : ∀ i : Nat, i < 3 → fJ0_charAt_5068e_100019 (z (i : Int)) m00 = some (z (([105, 114, 32] : List Nat).getD i 0 : Int)) := by decide +kernel
theorem ch100019 {i : Nat} (h : i < 3) (m : pmI) : fJ0_charAt_5068e_100019 (z (i : Int)) m = some (z (([105, 114, 32] : List Nat).getD i 0 : Int)) := ch1000190 i h
theorem mw100019 (h : tOk T t) (hn : 100 ≤ n) {p : Nat} {m : pmI} (hp : p ≤ T) (hs : MS m T t p a []) : ∃ m', fX9_isWord_100019 n m = some (z (if mt T t [105, 114, 32] p = 3 then 1 else 0), m') ∧ MS m' T t (p + mt T t [105, 114, 32] p) a [] ∧ gB m m' a := by
  obtain ⟨m1, e1, r1⟩ := mw_gen (a := a) h [105, 114, 32] (by decide) (lX9_isWord_100019_l2 n) (fun k i ch m hch => by
    have hi : i < 3 := (List.getElem?_eq_some_iff.mp hch).1
    have hg : ([105, 114, 32] : List Nat).getD i 0 = ch := by rw [List.getD_eq_getElem?_getD, hch]; rfl
    show bX9_isWord_100019_l2 n (lX9_isWord_100019_l2 n k) (z (i : Int)) m = _
    unfold bX9_isWord_100019_l2
    rw [len100019, obind, if_pos (zlt (by omega)), ch100019 hi, obind, hg, show z 1 = z (1 : Int) from rfl, z_add]) (fun k m => by
    show bX9_isWord_100019_l2 n (lX9_isWord_100019_l2 n k) (z 3) m = _
    unfold bX9_isWord_100019_l2
    rw [len100019, obind, if_neg (zge (by omega))]) 3 0 n p m rfl (by omega) hp hs
  have e1 : lX9_isWord_100019_l2 n n (z 0) m = some (if mt T t [105, 114, 32] p = 3 then .inl m1 else .inr (z 0, m1)) := e1
  unfold fX9_isWord_100019
  rw [e1, obind]
  by_cases e : mt T t [105, 114, 32] p = 3
  · rw [if_pos e, oS_l, if_pos e]
    exact ⟨m1, rfl, r1⟩
  · rw [if_neg e, oS_r, if_neg e]
    exact ⟨m1, rfl, r1⟩
theorem len100020 (m : pmI) : fJ0_length_8abf5_100020 m = some (z 7) := (by decide +kernel : fJ0_length_8abf5_100020 m00 = some (z 7))
theorem ch1000200 : ∀ i : Nat, i < 7 → fJ0_charAt_5068e_100020 (z (i : Int)) m00 = some (z (([101, 114, 102, 111, 114, 109, 32] : List Nat).getD i 0 : Int)) := by decide +kernel
theorem ch100020 {i : Nat} (h : i < 7) (m : pmI) : fJ0_charAt_5068e_100020 (z (i : Int)) m = some (z (([101, 114, 102, 111, 114, 109, 32] : List Nat).getD i 0 : Int)) := ch1000200 i h
theorem mw100020 (h : tOk T t) (hn : 100 ≤ n) {p : Nat} {m : pmI} (hp : p ≤ T) (hs : MS m T t p a []) : ∃ m', fX9_isWord_100020 n m = some (z (if mt T t [101, 114, 102, 111, 114, 109, 32] p = 7 then 1 else 0), m') ∧ MS m' T t (p + mt T t [101, 114, 102, 111, 114, 109, 32] p) a [] ∧ gB m m' a := by
  obtain ⟨m1, e1, r1⟩ := mw_gen (a := a) h [101, 114, 102, 111, 114, 109, 32] (by decide) (lX9_isWord_100020_l2 n) (fun k i ch m hch => by
    have hi : i < 7 := (List.getElem?_eq_some_iff.mp hch).1
    have hg : ([101, 114, 102, 111, 114, 109, 32] : List Nat).getD i 0 = ch := by rw [List.getD_eq_getElem?_getD, hch]; rfl
    show bX9_isWord_100020_l2 n (lX9_isWord_100020_l2 n k) (z (i : Int)) m = _
    unfold bX9_isWord_100020_l2
    rw [len100020, obind, if_pos (zlt (by omega)), ch100020 hi, obind, hg, show z 1 = z (1 : Int) from rfl, z_add]) (fun k m => by
    show bX9_isWord_100020_l2 n (lX9_isWord_100020_l2 n k) (z 7) m = _
    unfold bX9_isWord_100020_l2
    rw [len100020, obind, if_neg (zge (by omega))]) 7 0 n p m rfl (by omega) hp hs
  have e1 : lX9_isWord_100020_l2 n n (z 0) m = some (if mt T t [101, 114, 102, 111, 114, 109, 32] p = 7 then .inl m1 else .inr (z 0, m1)) := e1
  unfold fX9_isWord_100020
  rw [e1, obind]
  by_cases e : mt T t [101, 114, 102, 111, 114, 109, 32] p = 7
  · rw [if_pos e, oS_l, if_pos e]
    exact ⟨m1, rfl, r1⟩
  · rw [if_neg e, oS_r, if_neg e]
    exact ⟨m1, rfl, r1⟩
theorem len100021 (m : pmI) : fJ0_length_8abf5_100021 m = some (z 6) := (by decide +kernel : fJ0_length_8abf5_100021 m00 = some (z 6))
theorem ch1000210 : ∀ i : Nat, i < 6 → fJ0_charAt_5068e_100021 (z (i : Int)) m00 = some (z (([97, 110, 99, 101, 114, 32] : List Nat).getD i 0 : Int)) := by decide +kernel
theorem ch100021 {i : Nat} (h : i < 6) (m : pmI) : fJ0_charAt_5068e_100021 (z (i : Int)) m = some (z (([97, 110, 99, 101, 114, 32] : List Nat).getD i 0 : Int)) := ch1000210 i h
theorem mw100021 (h : tOk T t) (hn : 100 ≤ n) {p : Nat} {m : pmI} (hp : p ≤ T) (hs : MS m T t p a []) : ∃ m', fX9_isWord_100021 n m = some (z (if mt T t [97, 110, 99, 101, 114, 32] p = 6 then 1 else 0), m') ∧ MS m' T t (p + mt T t [97, 110, 99, 101, 114, 32] p) a [] ∧ gB m m' a := by
  obtain ⟨m1, e1, r1⟩ := mw_gen (a := a) h [97, 110, 99, 101, 114, 32] (by decide) (lX9_isWord_100021_l2 n) (fun k i ch m hch => by
    have hi : i < 6 := (List.getElem?_eq_some_iff.mp hch).1
    have hg : ([97, 110, 99, 101, 114, 32] : List Nat).getD i 0 = ch := by rw [List.getD_eq_getElem?_getD, hch]; rfl
    show bX9_isWord_100021_l2 n (lX9_isWord_100021_l2 n k) (z (i : Int)) m = _
    unfold bX9_isWord_100021_l2
    rw [len100021, obind, if_pos (zlt (by omega)), ch100021 hi, obind, hg, show z 1 = z (1 : Int) from rfl, z_add]) (fun k m => by
    show bX9_isWord_100021_l2 n (lX9_isWord_100021_l2 n k) (z 6) m = _
    unfold bX9_isWord_100021_l2
    rw [len100021, obind, if_neg (zge (by omega))]) 6 0 n p m rfl (by omega) hp hs
  have e1 : lX9_isWord_100021_l2 n n (z 0) m = some (if mt T t [97, 110, 99, 101, 114, 32] p = 6 then .inl m1 else .inr (z 0, m1)) := e1
  unfold fX9_isWord_100021
  rw [e1, obind]
  by_cases e : mt T t [97, 110, 99, 101, 114, 32] p = 6
  · rw [if_pos e, oS_l, if_pos e]
    exact ⟨m1, rfl, r1⟩
  · rw [if_neg e, oS_r, if_neg e]
    exact ⟨m1, rfl, r1⟩
theorem len100022 (m : pmI) : fJ0_length_8abf5_100022 m = some (z 6) := (by decide +kernel : fJ0_length_8abf5_100022 m00 = some (z 6))
theorem ch1000220 : ∀ i : Nat, i < 6 → fJ0_charAt_5068e_100022 (z (i : Int)) m00 = some (z (([105, 103, 117, 114, 101, 32] : List Nat).getD i 0 : Int)) := by decide +kernel
theorem ch100022 {i : Nat} (h : i < 6) (m : pmI) : fJ0_charAt_5068e_100022 (z (i : Int)) m = some (z (([105, 103, 117, 114, 101, 32] : List Nat).getD i 0 : Int)) := ch1000220 i h
theorem mw100022 (h : tOk T t) (hn : 100 ≤ n) {p : Nat} {m : pmI} (hp : p ≤ T) (hs : MS m T t p a []) : ∃ m', fX9_isWord_100022 n m = some (z (if mt T t [105, 103, 117, 114, 101, 32] p = 6 then 1 else 0), m') ∧ MS m' T t (p + mt T t [105, 103, 117, 114, 101, 32] p) a [] ∧ gB m m' a := by
  obtain ⟨m1, e1, r1⟩ := mw_gen (a := a) h [105, 103, 117, 114, 101, 32] (by decide) (lX9_isWord_100022_l2 n) (fun k i ch m hch => by
    have hi : i < 6 := (List.getElem?_eq_some_iff.mp hch).1
    have hg : ([105, 103, 117, 114, 101, 32] : List Nat).getD i 0 = ch := by rw [List.getD_eq_getElem?_getD, hch]; rfl
    show bX9_isWord_100022_l2 n (lX9_isWord_100022_l2 n k) (z (i : Int)) m = _
    unfold bX9_isWord_100022_l2
    rw [len100022, obind, if_pos (zlt (by omega)), ch100022 hi, obind, hg, show z 1 = z (1 : Int) from rfl, z_add]) (fun k m => by
    show bX9_isWord_100022_l2 n (lX9_isWord_100022_l2 n k) (z 6) m = _
    unfold bX9_isWord_100022_l2
    rw [len100022, obind, if_neg (zge (by omega))]) 6 0 n p m rfl (by omega) hp hs
  have e1 : lX9_isWord_100022_l2 n n (z 0) m = some (if mt T t [105, 103, 117, 114, 101, 32] p = 6 then .inl m1 else .inr (z 0, m1)) := e1
  unfold fX9_isWord_100022
  rw [e1, obind]
  by_cases e : mt T t [105, 103, 117, 114, 101, 32] p = 6
  · rw [if_pos e, oS_l, if_pos e]
    exact ⟨m1, rfl, r1⟩
  · rw [if_neg e, oS_r, if_neg e]
    exact ⟨m1, rfl, r1⟩
theorem len100023 (m : pmI) : fJ0_length_8abf5_100023 m = some (z 4) := (by decide +kernel : fJ0_length_8abf5_100023 m00 = some (z 4))
theorem ch1000230 : ∀ i : Nat, i < 4 → fJ0_charAt_5068e_100023 (z (i : Int)) m00 = some (z (([97, 108, 107, 32] : List Nat).getD i 0 : Int)) := by decide +kernel
theorem ch100023 {i : Nat} (h : i < 4) (m : pmI) : fJ0_charAt_5068e_100023 (z (i : Int)) m = some (z (([97, 108, 107, 32] : List Nat).getD i 0 : Int)) := ch1000230 i h
theorem mw100023 (h : tOk T t) (hn : 100 ≤ n) {p : Nat} {m : pmI} (hp : p ≤ T) (hs : MS m T t p a []) : ∃ m', fX9_isWord_100023 n m = some (z (if mt T t [97, 108, 107, 32] p = 4 then 1 else 0), m') ∧ MS m' T t (p + mt T t [97, 108, 107, 32] p) a [] ∧ gB m m' a := by
  obtain ⟨m1, e1, r1⟩ := mw_gen (a := a) h [97, 108, 107, 32] (by decide) (lX9_isWord_100023_l2 n) (fun k i ch m hch => by
    have hi : i < 4 := (List.getElem?_eq_some_iff.mp hch).1
    have hg : ([97, 108, 107, 32] : List Nat).getD i 0 = ch := by rw [List.getD_eq_getElem?_getD, hch]; rfl
    show bX9_isWord_100023_l2 n (lX9_isWord_100023_l2 n k) (z (i : Int)) m = _
    unfold bX9_isWord_100023_l2
    rw [len100023, obind, if_pos (zlt (by omega)), ch100023 hi, obind, hg, show z 1 = z (1 : Int) from rfl, z_add]) (fun k m => by
    show bX9_isWord_100023_l2 n (lX9_isWord_100023_l2 n k) (z 4) m = _
    unfold bX9_isWord_100023_l2
    rw [len100023, obind, if_neg (zge (by omega))]) 4 0 n p m rfl (by omega) hp hs
  have e1 : lX9_isWord_100023_l2 n n (z 0) m = some (if mt T t [97, 108, 107, 32] p = 4 then .inl m1 else .inr (z 0, m1)) := e1
  unfold fX9_isWord_100023
  rw [e1, obind]
  by_cases e : mt T t [97, 108, 107, 32] p = 4
  · rw [if_pos e, oS_l, if_pos e]
    exact ⟨m1, rfl, r1⟩
  · rw [if_neg e, oS_r, if_neg e]
    exact ⟨m1, rfl, r1⟩
theorem len100024 (m : pmI) : fJ0_length_8abf5_100024 m = some (z 4) := (by decide +kernel : fJ0_length_8abf5_100024 m00 = some (z 4))
theorem ch1000240 : ∀ i : Nat, i < 4 → fJ0_charAt_5068e_100024 (z (i : Int)) m00 = some (z (([120, 105, 116, 32] : List Nat).getD i 0 : Int)) := by decide +kernel
theorem ch100024 {i : Nat} (h : i < 4) (m : pmI) : fJ0_charAt_5068e_100024 (z (i : Int)) m = some (z (([120, 105, 116, 32] : List Nat).getD i 0 : Int)) := ch1000240 i h
theorem mw100024 (h : tOk T t) (hn : 100 ≤ n) {p : Nat} {m : pmI} (hp : p ≤ T) (hs : MS m T t p a []) : ∃ m', fX9_isWord_100024 n m = some (z (if mt T t [120, 105, 116, 32] p = 4 then 1 else 0), m') ∧ MS m' T t (p + mt T t [120, 105, 116, 32] p) a [] ∧ gB m m' a := by
  obtain ⟨m1, e1, r1⟩ := mw_gen (a := a) h [120, 105, 116, 32] (by decide) (lX9_isWord_100024_l2 n) (fun k i ch m hch => by
    have hi : i < 4 := (List.getElem?_eq_some_iff.mp hch).1
    have hg : ([120, 105, 116, 32] : List Nat).getD i 0 = ch := by rw [List.getD_eq_getElem?_getD, hch]; rfl
    show bX9_isWord_100024_l2 n (lX9_isWord_100024_l2 n k) (z (i : Int)) m = _
    unfold bX9_isWord_100024_l2
    rw [len100024, obind, if_pos (zlt (by omega)), ch100024 hi, obind, hg, show z 1 = z (1 : Int) from rfl, z_add]) (fun k m => by
    show bX9_isWord_100024_l2 n (lX9_isWord_100024_l2 n k) (z 4) m = _
    unfold bX9_isWord_100024_l2
    rw [len100024, obind, if_neg (zge (by omega))]) 4 0 n p m rfl (by omega) hp hs
  have e1 : lX9_isWord_100024_l2 n n (z 0) m = some (if mt T t [120, 105, 116, 32] p = 4 then .inl m1 else .inr (z 0, m1)) := e1
  unfold fX9_isWord_100024
  rw [e1, obind]
  by_cases e : mt T t [120, 105, 116, 32] p = 4
  · rw [if_pos e, oS_l, if_pos e]
    exact ⟨m1, rfl, r1⟩
  · rw [if_neg e, oS_r, if_neg e]
    exact ⟨m1, rfl, r1⟩
theorem len100025 (m : pmI) : fJ0_length_8abf5_100025 m = some (z 5) := (by decide +kernel : fJ0_length_8abf5_100025 m00 = some (z 5))
theorem ch1000250 : ∀ i : Nat, i < 5 → fJ0_charAt_5068e_100025 (z (i : Int)) m00 = some (z (([97, 105, 108, 115, 32] : List Nat).getD i 0 : Int)) := by decide +kernel
theorem ch100025 {i : Nat} (h : i < 5) (m : pmI) : fJ0_charAt_5068e_100025 (z (i : Int)) m = some (z (([97, 105, 108, 115, 32] : List Nat).getD i 0 : Int)) := ch1000250 i h
theorem mw100025 (h : tOk T t) (hn : 100 ≤ n) {p : Nat} {m : pmI} (hp : p ≤ T) (hs : MS m T t p a []) : ∃ m', fX9_isWord_100025 n m = some (z (if mt T t [97, 105, 108, 115, 32] p = 5 then 1 else 0), m') ∧ MS m' T t (p + mt T t [97, 105, 108, 115, 32] p) a [] ∧ gB m m' a := by
  obtain ⟨m1, e1, r1⟩ := mw_gen (a := a) h [97, 105, 108, 115, 32] (by decide) (lX9_isWord_100025_l2 n) (fun k i ch m hch => by
    have hi : i < 5 := (List.getElem?_eq_some_iff.mp hch).1
    have hg : ([97, 105, 108, 115, 32] : List Nat).getD i 0 = ch := by rw [List.getD_eq_getElem?_getD, hch]; rfl
    show bX9_isWord_100025_l2 n (lX9_isWord_100025_l2 n k) (z (i : Int)) m = _
    unfold bX9_isWord_100025_l2
    rw [len100025, obind, if_pos (zlt (by omega)), ch100025 hi, obind, hg, show z 1 = z (1 : Int) from rfl, z_add]) (fun k m => by
    show bX9_isWord_100025_l2 n (lX9_isWord_100025_l2 n k) (z 5) m = _
    unfold bX9_isWord_100025_l2
    rw [len100025, obind, if_neg (zge (by omega))]) 5 0 n p m rfl (by omega) hp hs
  have e1 : lX9_isWord_100025_l2 n n (z 0) m = some (if mt T t [97, 105, 108, 115, 32] p = 5 then .inl m1 else .inr (z 0, m1)) := e1
  unfold fX9_isWord_100025
  rw [e1, obind]
  by_cases e : mt T t [97, 105, 108, 115, 32] p = 5
  · rw [if_pos e, oS_l, if_pos e]
    exact ⟨m1, rfl, r1⟩
  · rw [if_neg e, oS_r, if_neg e]
    exact ⟨m1, rfl, r1⟩
theorem len100026 (m : pmI) : fJ0_length_8abf5_100026 m = some (z 4) := (by decide +kernel : fJ0_length_8abf5_100026 m00 = some (z 4))
theorem ch1000260 : ∀ i : Nat, i < 4 → fJ0_charAt_5068e_100026 (z (i : Int)) m00 = some (z (([101, 97, 118, 101] : List Nat).getD i 0 : Int)) := by decide +kernel
theorem ch100026 {i : Nat} (h : i < 4) (m : pmI) : fJ0_charAt_5068e_100026 (z (i : Int)) m = some (z (([101, 97, 118, 101] : List Nat).getD i 0 : Int)) := ch1000260 i h
theorem mw100026 (h : tOk T t) (hn : 100 ≤ n) {p : Nat} {m : pmI} (hp : p ≤ T) (hs : MS m T t p a []) : ∃ m', fX9_isWord_100026 n m = some (z (if mt T t [101, 97, 118, 101] p = 4 then 1 else 0), m') ∧ MS m' T t (p + mt T t [101, 97, 118, 101] p) a [] ∧ gB m m' a := by
  obtain ⟨m1, e1, r1⟩ := mw_gen (a := a) h [101, 97, 118, 101] (by decide) (lX9_isWord_100026_l2 n) (fun k i ch m hch => by
    have hi : i < 4 := (List.getElem?_eq_some_iff.mp hch).1
    have hg : ([101, 97, 118, 101] : List Nat).getD i 0 = ch := by rw [List.getD_eq_getElem?_getD, hch]; rfl
    show bX9_isWord_100026_l2 n (lX9_isWord_100026_l2 n k) (z (i : Int)) m = _
    unfold bX9_isWord_100026_l2
    rw [len100026, obind, if_pos (zlt (by omega)), ch100026 hi, obind, hg, show z 1 = z (1 : Int) from rfl, z_add]) (fun k m => by
    show bX9_isWord_100026_l2 n (lX9_isWord_100026_l2 n k) (z 4) m = _
    unfold bX9_isWord_100026_l2
    rw [len100026, obind, if_neg (zge (by omega))]) 4 0 n p m rfl (by omega) hp hs
  have e1 : lX9_isWord_100026_l2 n n (z 0) m = some (if mt T t [101, 97, 118, 101] p = 4 then .inl m1 else .inr (z 0, m1)) := e1
  unfold fX9_isWord_100026
  rw [e1, obind]
  by_cases e : mt T t [101, 97, 118, 101] p = 4
  · rw [if_pos e, oS_l, if_pos e]
    exact ⟨m1, rfl, r1⟩
  · rw [if_neg e, oS_r, if_neg e]
    exact ⟨m1, rfl, r1⟩
end MREAD
