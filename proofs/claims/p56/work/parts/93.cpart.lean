/-! programs: how the class reads what follows a word, and all of it -/
def CS (m : pmI) (p c : Nat) (as : List Nat) : Prop := m.1 107 5 = z (p : Int) ∧ m.1 107 2 = z (c : Int) ∧ m.1 107 6 = z (as.length : Int) ∧ ∀ i, i < as.length → m.1 110 (3 * c + i) = z (as.getD i 0 : Int)
def gA (m m' : pmI) (c : Nat) : Prop := dfrP m m' ∧ m'.1 109 = m.1 109 ∧ ∀ b, b < 3 * c → m'.1 110 b = m.1 110 b
theorem gA_rf {m : pmI} {c : Nat} : gA m m c := ⟨dfrP_rf, rfl, fun _ _ => rfl⟩
theorem gA_tr {m m1 m2 : pmI} {c : Nat} (h1 : gA m m1 c) (h2 : gA m1 m2 c) : gA m m2 c := ⟨dfrP_tr h1.1 h2.1, h2.2.1.trans h1.2.1, fun b hb => (h2.2.2 b hb).trans (h1.2.2 b hb)⟩
def na : List Nat → Nat
  | [] => 0
  | c :: w => (if c = 100 then 1 else if c = 109 then 2 else if c = 110 then 1 else 0) + na w
theorem na_cons (c : Nat) (w : List Nat) : na (c :: w) = na [c] + na w := by simp only [na, Nat.add_zero]
theorem getD_l {as : List Nat} {v i : Nat} (h : i < as.length) : (as ++ [v]).getD i 0 = as.getD i 0 := by rw [List.getD_eq_getElem?_getD, List.getD_eq_getElem?_getD, List.getElem?_append_left h]
theorem getD_r {as : List Nat} {v : Nat} : (as ++ [v]).getD as.length 0 = v := by
  rw [List.getD_eq_getElem?_getD, List.getElem?_append_right (Nat.le_refl _), Nat.sub_self]
  rfl
section CREAD2
variable {n T c : Nat} {t : Nat → Nat}
theorem CS_pos {m : pmI} {p : Nat} {as : List Nat} (h : CS m p c as) (x : Int32) (p' : Nat) (hx : x = z (p' : Int)) : ∃ m', (pmU m.1 107 5 x, m.2) = m' ∧ CS m' p' c as ∧ gA m m' c := by
  obtain ⟨m1, e1, f1, r1, o1, o2⟩ := w_107 m 5 x (by decide)
  refine ⟨m1, e1, ⟨by rw [r1, if_pos rfl, hx], by rw [r1, if_neg (by decide)]; exact h.2.1, by rw [r1, if_neg (by decide)]; exact h.2.2.1, fun i hi => by rw [o2]; exact h.2.2.2 i hi⟩, f1, o1, fun b _ => by rw [o2]⟩
theorem c_keep {m : pmI} {p : Nat} {as : List Nat} (h : CS m p c as) (hc : c < 10) (ha : as.length < 3) (v : Nat) : ∃ m', fX4_keepArgument_107 (z (v : Int)) m = some m' ∧ CS m' p c (as ++ [v]) ∧ gA m m' c := by
  unfold fX4_keepArgument_107
  obtain ⟨m1, e1, j1, o1, r1⟩ := w_1 m 110 (3 * c + as.length) (z (v : Int))
  obtain ⟨m2, e2, f2, r2, q1, q2⟩ := w_107 m1 6 (m1.1 107 6 + z 1) (by decide)
  rw [h.2.1, h.2.2.1, z_mul, z_add, show (c : Int) * 3 + (as.length : Int) = ((3 * c + as.length : Nat) : Int) by omega, s_110 (by omega), obind, e1, e2]
  have f1 : dfrP m m1 := ⟨fun i _ _ b => o1 i b, j1, by rw [o1 107 (by decide)]⟩
  refine ⟨m2, rfl, ⟨by rw [r2, if_neg (by decide), o1 107 (by decide)]; exact h.1, by rw [r2, if_neg (by decide), o1 107 (by decide)]; exact h.2.1, ?_, fun i hi => ?_⟩, dfrP_tr f1 f2, by rw [q1, o1 109 (by decide)], fun b hb => ?_⟩
  · rw [r2, if_pos rfl, o1 107 (by decide), h.2.2.1, show z 1 = z (1 : Int) from rfl, z_add, List.length_append]
    rfl
  · rw [q2, r1]
    rw [List.length_append] at hi
    have hi : i < as.length + 1 := hi
    by_cases e : i = as.length
    · rw [if_pos (by rw [e]), e, getD_r]
    · rw [if_neg (by omega), getD_l (by omega)]
      exact h.2.2.2 i (by omega)
  · rw [q2, r1, if_neg (by omega)]
theorem c_digit {x : Int} (hx : -1 ≤ x ∧ x < 65536) (m : pmI) : fX4_isDigit (z x) m = some (if 48 ≤ x ∧ x ≤ 57 then z 1 else z 0) := by
  unfold fX4_isDigit
  by_cases h1 : x < 48
  · rw [if_pos (zlt (by omega)), if_neg (by omega)]
  · rw [if_neg (zge (by omega))]
    by_cases h2 : 57 < x
    · rw [if_pos (zlt (by omega)), if_neg (by omega)]
    · rw [if_neg (zge (by omega)), if_pos (by omega)]
theorem c_numL (h : tOk T t) {D : Nat} (hD : D ≤ 5) : ∀ (d v k p q : Nat) (m : pmI) (as : List Nat), k + d = D → d < q → p ≤ T → cT m T t → CS m p c as → ∃ m', lX4_readNumber_107_l4 n (z (D : Int)) q (z (v : Int)) (z (k : Int)) m = some (z ((num T t d v k p).1 : Int), z ((num T t d v k p).2.1 : Int), m') ∧ CS m' (num T t d v k p).2.2 c as ∧ gA m m' c := by
  have hT := h.1
  intro d
  induction d with
  | zero =>
    intro v k p q m as h1 h2 hp hm hs
    obtain ⟨q, rfl⟩ : ∃ j, q = j + 1 := ⟨q - 1, by omega⟩
    show ∃ m', bX4_readNumber_107_l4 n (z (D : Int)) (lX4_readNumber_107_l4 n (z (D : Int)) q) (z (v : Int)) (z (k : Int)) m = _ ∧ _
    unfold bX4_readNumber_107_l4
    rw [if_neg (zge (by omega))]
    exact ⟨m, rfl, hs, gA_rf⟩
  | succ d ih =>
    intro v k p q m as h1 h2 hp hm hs
    obtain ⟨q, rfl⟩ : ∃ j, q = j + 1 := ⟨q - 1, by omega⟩
    show ∃ m', bX4_readNumber_107_l4 n (z (D : Int)) (lX4_readNumber_107_l4 n (z (D : Int)) q) (z (v : Int)) (z (k : Int)) m = _ ∧ _
    have sb := sg_b h p
    unfold bX4_readNumber_107_l4 num
    rw [if_pos (zlt (by omega)), hs.1, c_sg h hm (by omega), obind, c_digit sb, obind]
    by_cases hd : dig T t p = true
    · have hd2 := dig_iff.mp hd
      have hl := sg_lt (T := T) (t := t) (p := p) (by omega)
      obtain ⟨m1, e1, s1, g1⟩ := CS_pos hs (z (p : Int) + z 1) (p + 1) (by rw [show z 1 = z (1 : Int) from rfl, z_add]; rfl)
      obtain ⟨m2, e2, s2, g2⟩ := ih (10 * v + ((sg T t p).toNat - 48)) (k + 1) (p + 1) q m1 as (by omega) (by omega) (by omega) (cT_f hm g1.1) s1
      rw [if_pos hd2, if_neg z10, obind, pmLet_eq, e1, if_pos hd, z_mul, z_add, z_sub, show z 1 = z (1 : Int) from rfl, z_add, show (10 : Int) * (v : Int) + sg T t p - 48 = ((10 * v + ((sg T t p).toNat - 48) : Nat) : Int) by omega]
      exact ⟨m2, e2, s2, gA_tr g1 g2⟩
    · rw [if_neg (fun g => hd (dig_iff.mpr g)), if_pos rfl, if_neg hd]
      exact ⟨m, rfl, hs, gA_rf⟩
theorem c_number (h : tOk T t) {D p : Nat} {m : pmI} {as : List Nat} (hD : D ≤ 5) (hn : 100 ≤ n) (hp : p ≤ T) (hm : cT m T t) (hs : CS m p c as) (hc : c < 10) (ha : as.length < 3) : ∃ m', fX4_readNumber_107 n (z (D : Int)) m = some (z (if 0 < (num T t D 0 0 p).2.1 then 1 else 0), m') ∧ CS m' (num T t D 0 0 p).2.2 c (as ++ [(num T t D 0 0 p).1]) ∧ gA m m' c := by
  obtain ⟨m1, e1, s1, g1⟩ := c_numL (n := n) (c := c) h hD D 0 0 p n m as (by omega) (by omega) hp hm hs
  have nb := (num_b (T := T) (t := t) D 0 0 p (by decide) hp).2.2
  obtain ⟨m2, e2, s2, g2⟩ := c_keep s1 hc ha (num T t D 0 0 p).1
  unfold fX4_readNumber_107 jX4_readNumber_107_56
  have e1 : lX4_readNumber_107_l4 n (z (D : Int)) n (z 0) (z 0) m = _ := e1
  rw [e1, obind]
  dsimp only
  rw [e2, obind]
  by_cases hl : 0 < (num T t D 0 0 p).2.1
  · rw [if_pos (zlt (by omega)), if_pos hl]
    exact ⟨m2, rfl, s2, gA_tr g1 g2⟩
  · rw [if_neg (zge (by omega)), if_neg hl]
    exact ⟨m2, rfl, s2, gA_tr g1 g2⟩
theorem c_mvsL (h : tOk T t) (hn : 100 ≤ n) : ∀ (d i p q : Nat) (m : pmI) (as : List Nat), i + d = 60 → d < q → p ≤ T → cT m T t → CS m p c as → ∃ m', lX4_readMoves_107_l10 n q (z (i : Int)) m = some m' ∧ CS m' (mvs T t d p) c as ∧ gA m m' c := by
  have hT := h.1
  intro d
  induction d with
  | zero =>
    intro i p q m as h1 h2 hp hm hs
    obtain ⟨q, rfl⟩ : ∃ j, q = j + 1 := ⟨q - 1, by omega⟩
    show ∃ m', bX4_readMoves_107_l10 n (lX4_readMoves_107_l10 n q) (z (i : Int)) m = _ ∧ _
    unfold bX4_readMoves_107_l10
    rw [if_neg (zge (by omega))]
    exact ⟨m, rfl, hs, gA_rf⟩
  | succ d ih =>
    intro i p q m as h1 h2 hp hm hs
    obtain ⟨q, rfl⟩ : ∃ j, q = j + 1 := ⟨q - 1, by omega⟩
    show ∃ m', bX4_readMoves_107_l10 n (lX4_readMoves_107_l10 n q) (z (i : Int)) m = _ ∧ _
    have sb := sg_b h p
    unfold bX4_readMoves_107_l10 mvs
    rw [if_pos (zlt (by omega)), hs.1, c_sg h hm (by omega), obind, c_moveIndex (n := n) (by omega) (by omega), obind]
    cases hv : mvIx (sg T t p) with
    | none =>
      rw [oz_n, if_pos rfl, if_pos rfl]
      exact ⟨m, rfl, hs, gA_rf⟩
    | some v =>
      have hv5 := (mvIx_some hv).1
      have hl : p < T := by
        unfold sg at hv
        split at hv
        · assumption
        · rw [show mvIx (-1) = none by decide] at hv; cases hv
      obtain ⟨m1, e1, s1, g1⟩ := CS_pos hs (z (p : Int) + z 1) (p + 1) (by rw [show z 1 = z (1 : Int) from rfl, z_add]; rfl)
      obtain ⟨m2, e2, s2, g2⟩ := ih (i + 1) (p + 1) q m1 as (by omega) (by omega) (by omega) (cT_f hm g1.1) s1
      rw [oz_s, if_neg (zne (by omega)), pmLet_eq, e1, if_neg (Option.some_ne_none v), show z 1 = z (1 : Int) from rfl, z_add]
      exact ⟨m2, e2, s2, gA_tr g1 g2⟩
theorem c_part (h : tOk T t) {p ch : Nat} {m : pmI} {as : List Nat} (hn : 100 ≤ n) (hp : p ≤ T) (hm : cT m T t) (hs : CS m p c as) (hc : c < 10) (ha : as.length + na [ch] ≤ 3) (hch : ch ≤ 200) : ∃ m', fX4_readPart_107 n (z (ch : Int)) m = some (z (if (rPart T t ch p as).1 = true then 1 else 0), m') ∧ CS m' (rPart T t ch p as).2.1 c (rPart T t ch p as).2.2 ∧ gA m m' c := by
  have hT := h.1
  have sb := sg_b h p
  have ha : as.length + ((if ch = 100 then 1 else if ch = 109 then 2 else if ch = 110 then 1 else 0) + 0) ≤ 3 := ha
  unfold fX4_readPart_107 rPart
  by_cases h1 : ch = 100
  · rw [if_pos h1] at ha
    obtain ⟨m1, e1, s1, g1⟩ := c_number (n := n) (D := 1) h (by omega) hn hp hm hs hc (by omega)
    have e1 : fX4_readNumber_107 n (z 1) m = _ := e1
    rw [if_pos (by rw [h1]; rfl), if_pos h1, e1, obind]
    refine ⟨m1, ?_, s1, g1⟩
    by_cases hl : 0 < (num T t 1 0 0 p).2.1
    · rw [if_pos hl, if_pos (Or.inr rfl), if_pos (decide_eq_true hl)]
    · rw [if_neg hl, if_pos (Or.inl rfl), if_neg (show ¬ decide (0 < (num T t 1 0 0 p).2.1) = true by rw [decide_eq_false hl]; decide)]
  · rw [if_neg h1] at ha
    have hz1 : ¬ z (ch : Int) = z 100 := zne (by omega)
    rw [if_neg hz1, if_neg h1]
    by_cases h2 : ch = 109
    · rw [if_pos h2] at ha
      have mb := mvs_b (T := T) (t := t) 60 p hp
      obtain ⟨m1, e1, s1, g1⟩ := c_keep hs hc (by omega) p
      obtain ⟨m2, e2, s2, g2⟩ := c_mvsL (n := n) (c := c) h hn 60 0 p n m1 (as ++ [p]) (by omega) (by omega) hp (cT_f hm g1.1) s1
      obtain ⟨m3, e3, s3, g3⟩ := c_keep s2 hc (by rw [List.length_append]; show as.length + 1 < 3; omega) (mvs T t 60 p)
      have e2 : lX4_readMoves_107_l10 n n (z 0) m1 = some m2 := e2
      unfold fX4_readMoves_107 jX4_readMoves_107_47
      rw [if_pos (by rw [h2]; rfl), if_pos h2, hs.1, e1, obind, e2, obind, s2.1, e3, obind, obind]
      exact ⟨m3, rfl, s3, gA_tr g1 (gA_tr g2 g3)⟩
    · rw [if_neg h2] at ha
      have hz2 : ¬ z (ch : Int) = z 109 := zne (by omega)
      rw [if_neg hz2, if_neg h2]
      by_cases h3 : ch = 110
      · rw [if_pos h3] at ha
        obtain ⟨m1, e1, s1, g1⟩ := c_number (n := n) (D := 2) h (by omega) hn hp hm hs hc (by omega)
        have e1 : fX4_readNumber_107 n (z 2) m = _ := e1
        rw [if_pos (by rw [h3]; rfl), if_pos h3, e1, obind]
        refine ⟨m1, ?_, s1, g1⟩
        by_cases hl : 0 < (num T t 2 0 0 p).2.1
        · rw [if_pos hl, if_pos (Or.inr rfl), if_pos (decide_eq_true hl)]
        · rw [if_neg hl, if_pos (Or.inl rfl), if_neg (show ¬ decide (0 < (num T t 2 0 0 p).2.1) = true by rw [decide_eq_false hl]; decide)]
      · have hz3 : ¬ z (ch : Int) = z 110 := zne (by omega)
        rw [if_neg hz3, if_neg h3]
        unfold fX4_readSign_107
        rw [hs.1, c_sg h hm (by omega), obind]
        by_cases hq : sg T t p = (ch : Int)
        · obtain ⟨m1, e1, s1, g1⟩ := CS_pos hs (z (p : Int) + z 1) (p + 1) (by rw [show z 1 = z (1 : Int) from rfl, z_add]; rfl)
          rw [if_pos (by rw [hq]), pmLet_eq, e1, obind, if_pos (Or.inr rfl), if_pos hq]
          exact ⟨m1, rfl, s1, g1⟩
        · rw [if_neg (zne (by omega)), obind, if_pos (Or.inl rfl), if_neg hq]
          exact ⟨m, rfl, hs, gA_rf⟩
theorem rPart_na {ch p : Nat} {as : List Nat} : (rPart T t ch p as).2.2.length = as.length + na [ch] := by
  show _ = as.length + ((if ch = 100 then 1 else if ch = 109 then 2 else if ch = 110 then 1 else 0) + 0)
  unfold rPart
  by_cases h1 : ch = 100
  · rw [if_pos h1, if_pos h1, List.length_append]
    rfl
  · rw [if_neg h1, if_neg h1]
    by_cases h2 : ch = 109
    · rw [if_pos h2, if_pos h2, List.length_append, List.length_append]
      rfl
    · rw [if_neg h2, if_neg h2]
      by_cases h3 : ch = 110
      · rw [if_pos h3, if_pos h3, List.length_append]
        rfl
      · rw [if_neg h3, if_neg h3]
        split <;> rfl
theorem shp (h : tOk T t) (hn : 100 ≤ n) (hc : c < 10) (w : List Nat) (hw : ∀ ch, ch ∈ w → ch ≤ 200) (l : Nat → Int32 → pmI → Option (pmI ⊕ (Int32 × pmI))) (hs : ∀ (k i ch : Nat) (m : pmI), w[i]? = some ch → l (k + 1) (z (i : Int)) m = (fX4_readPart_107 n (z (ch : Int)) m).bind fun v => if v.1 = z 0 then some (.inr (z 0, v.2)) else l k (z ((i : Int) + 1)) v.2) (he : ∀ k m, l (k + 1) (z (w.length : Int)) m = some (.inl m)) : ∀ (d i k p : Nat) (m : pmI) (as : List Nat), i + d = w.length → d < k → p ≤ T → cT m T t → CS m p c as → as.length + na (w.drop i) ≤ 3 → ∃ m', l k (z (i : Int)) m = some (if (rParts T t (w.drop i) p as).1 = true then .inl m' else .inr (z 0, m')) ∧ CS m' (rParts T t (w.drop i) p as).2.1 c (rParts T t (w.drop i) p as).2.2 ∧ gA m m' c
  | 0, i, k + 1, p, m, as, h1, _, hp, hm, hcs, ha => by
    obtain rfl : i = w.length := by omega
    rw [he, List.drop_length]
    exact ⟨m, rfl, hcs, gA_rf⟩
  | d + 1, i, k + 1, p, m, as, h1, h2, hp, hm, hcs, ha => by
    have hi : i < w.length := by omega
    rw [hs k i w[i] m (List.getElem?_eq_getElem hi), List.drop_eq_getElem_cons hi]
    rw [List.drop_eq_getElem_cons hi] at ha
    have hna := na_cons w[i] (w.drop (i + 1))
    have ha1 : as.length + na [w[i]] ≤ 3 := by omega
    obtain ⟨m1, e1, s1, g1⟩ := c_part (n := n) h hn hp hm hcs hc ha1 (hw _ (List.getElem_mem hi))
    have pb := rPart_b (T := T) (t := t) (c := w[i]) (as := as) hp
    rw [e1, obind]
    unfold rParts
    by_cases ok : (rPart T t w[i] p as).1 = true
    · obtain ⟨m2, e2, s2, g2⟩ := shp h hn hc w hw l hs he d (i + 1) k (rPart T t w[i] p as).2.1 m1 (rPart T t w[i] p as).2.2 (by omega) (by omega) pb.2 (cT_f hm g1.1) s1 (by rw [rPart_na]; omega)
      have e2 : l k (z ((i : Int) + 1)) m1 = _ := e2
      dsimp only
      rw [if_pos ok, if_neg (by decide), if_pos ok]
      exact ⟨m2, e2, s2, gA_tr g1 g2⟩
    · dsimp only
      rw [if_neg ok, if_pos rfl, if_neg ok]
      exact ⟨m1, rfl, s1, g1⟩

theorem len100009 (m : pmI) : fJ0_length_8abf5_100009 m = some (z 2) := (by decide +kernel : fJ0_length_8abf5_100009 m00 = some (z 2))
theorem ch1000090 : ∀ i : Nat, i < 2 → fJ0_charAt_5068e_100009 (z (i : Int)) m00 = some (z (([100, 100] : List Nat).getD i 0 : Int)) := by decide +kernel
theorem ch100009 {i : Nat} (h : i < 2) (m : pmI) : fJ0_charAt_5068e_100009 (z (i : Int)) m = some (z (([100, 100] : List Nat).getD i 0 : Int)) := ch1000090 i h
theorem sh100009 (h : tOk T t) (hn : 100 ≤ n) (hc : c < 10) {i1 : Int32} {p : Nat} {m : pmI} (hp : p ≤ T) (hm : cT m T t) (hs : CS m p c []) : ∃ m', lX4_readCommand_107_l24_100009 n i1 n (z 0) m = some (if (rParts T t [100, 100] p []).1 = true then .inl m' else .inr (z 0, m')) ∧ CS m' (rParts T t [100, 100] p []).2.1 c (rParts T t [100, 100] p []).2.2 ∧ gA m m' c :=
  shp (n := n) h hn hc [100, 100] (by decide) (lX4_readCommand_107_l24_100009 n i1) (fun k i ch m hch => by
    have hi : i < 2 := (List.getElem?_eq_some_iff.mp hch).1
    have hg : ([100, 100] : List Nat).getD i 0 = ch := by rw [List.getD_eq_getElem?_getD, hch]; rfl
    show bX4_readCommand_107_l24_100009 n i1 (lX4_readCommand_107_l24_100009 n i1 k) (z (i : Int)) m = _
    unfold bX4_readCommand_107_l24_100009
    rw [len100009, obind, if_pos (zlt (by omega)), ch100009 hi, obind, hg, show z 1 = z (1 : Int) from rfl, z_add]) (fun k m => by
    show bX4_readCommand_107_l24_100009 n i1 (lX4_readCommand_107_l24_100009 n i1 k) (z 2) m = _
    unfold bX4_readCommand_107_l24_100009
    rw [len100009, obind, if_neg (zge (by omega))]) 2 0 n p m [] rfl (by omega) hp hm hs (by decide)
theorem len100010 (m : pmI) : fJ0_length_8abf5_100010 m = some (z 4) := (by decide +kernel : fJ0_length_8abf5_100010 m00 = some (z 4))
theorem ch1000100 : ∀ i : Nat, i < 4 → fJ0_charAt_5068e_100010 (z (i : Int)) m00 = some (z (([100, 100, 42, 110] : List Nat).getD i 0 : Int)) := by decide +kernel
theorem ch100010 {i : Nat} (h : i < 4) (m : pmI) : fJ0_charAt_5068e_100010 (z (i : Int)) m = some (z (([100, 100, 42, 110] : List Nat).getD i 0 : Int)) := ch1000100 i h
theorem sh100010 (h : tOk T t) (hn : 100 ≤ n) (hc : c < 10) {i1 : Int32} {p : Nat} {m : pmI} (hp : p ≤ T) (hm : cT m T t) (hs : CS m p c []) : ∃ m', lX4_readCommand_107_l24_100010 n i1 n (z 0) m = some (if (rParts T t [100, 100, 42, 110] p []).1 = true then .inl m' else .inr (z 0, m')) ∧ CS m' (rParts T t [100, 100, 42, 110] p []).2.1 c (rParts T t [100, 100, 42, 110] p []).2.2 ∧ gA m m' c :=
  shp (n := n) h hn hc [100, 100, 42, 110] (by decide) (lX4_readCommand_107_l24_100010 n i1) (fun k i ch m hch => by
    have hi : i < 4 := (List.getElem?_eq_some_iff.mp hch).1
    have hg : ([100, 100, 42, 110] : List Nat).getD i 0 = ch := by rw [List.getD_eq_getElem?_getD, hch]; rfl
    show bX4_readCommand_107_l24_100010 n i1 (lX4_readCommand_107_l24_100010 n i1 k) (z (i : Int)) m = _
    unfold bX4_readCommand_107_l24_100010
    rw [len100010, obind, if_pos (zlt (by omega)), ch100010 hi, obind, hg, show z 1 = z (1 : Int) from rfl, z_add]) (fun k m => by
    show bX4_readCommand_107_l24_100010 n i1 (lX4_readCommand_107_l24_100010 n i1 k) (z 4) m = _
    unfold bX4_readCommand_107_l24_100010
    rw [len100010, obind, if_neg (zge (by omega))]) 4 0 n p m [] rfl (by omega) hp hm hs (by decide)
theorem len100011 (m : pmI) : fJ0_length_8abf5_100011 m = some (z 3) := (by decide +kernel : fJ0_length_8abf5_100011 m00 = some (z 3))
theorem ch1000110 : ∀ i : Nat, i < 3 → fJ0_charAt_5068e_100011 (z (i : Int)) m00 = some (z (([110, 38, 110] : List Nat).getD i 0 : Int)) := by decide +kernel
theorem ch100011 {i : Nat} (h : i < 3) (m : pmI) : fJ0_charAt_5068e_100011 (z (i : Int)) m = some (z (([110, 38, 110] : List Nat).getD i 0 : Int)) := ch1000110 i h
theorem sh100011 (h : tOk T t) (hn : 100 ≤ n) (hc : c < 10) {i1 : Int32} {p : Nat} {m : pmI} (hp : p ≤ T) (hm : cT m T t) (hs : CS m p c []) : ∃ m', lX4_readCommand_107_l24_100011 n i1 n (z 0) m = some (if (rParts T t [110, 38, 110] p []).1 = true then .inl m' else .inr (z 0, m')) ∧ CS m' (rParts T t [110, 38, 110] p []).2.1 c (rParts T t [110, 38, 110] p []).2.2 ∧ gA m m' c :=
  shp (n := n) h hn hc [110, 38, 110] (by decide) (lX4_readCommand_107_l24_100011 n i1) (fun k i ch m hch => by
    have hi : i < 3 := (List.getElem?_eq_some_iff.mp hch).1
    have hg : ([110, 38, 110] : List Nat).getD i 0 = ch := by rw [List.getD_eq_getElem?_getD, hch]; rfl
    show bX4_readCommand_107_l24_100011 n i1 (lX4_readCommand_107_l24_100011 n i1 k) (z (i : Int)) m = _
    unfold bX4_readCommand_107_l24_100011
    rw [len100011, obind, if_pos (zlt (by omega)), ch100011 hi, obind, hg, show z 1 = z (1 : Int) from rfl, z_add]) (fun k m => by
    show bX4_readCommand_107_l24_100011 n i1 (lX4_readCommand_107_l24_100011 n i1 k) (z 3) m = _
    unfold bX4_readCommand_107_l24_100011
    rw [len100011, obind, if_neg (zge (by omega))]) 3 0 n p m [] rfl (by omega) hp hm hs (by decide)
theorem len100012 (m : pmI) : fJ0_length_8abf5_100012 m = some (z 3) := (by decide +kernel : fJ0_length_8abf5_100012 m00 = some (z 3))
theorem ch1000120 : ∀ i : Nat, i < 3 → fJ0_charAt_5068e_100012 (z (i : Int)) m00 = some (z (([100, 58, 109] : List Nat).getD i 0 : Int)) := by decide +kernel
theorem ch100012 {i : Nat} (h : i < 3) (m : pmI) : fJ0_charAt_5068e_100012 (z (i : Int)) m = some (z (([100, 58, 109] : List Nat).getD i 0 : Int)) := ch1000120 i h
theorem sh100012 (h : tOk T t) (hn : 100 ≤ n) (hc : c < 10) {i1 : Int32} {p : Nat} {m : pmI} (hp : p ≤ T) (hm : cT m T t) (hs : CS m p c []) : ∃ m', lX4_readCommand_107_l24_100012 n i1 n (z 0) m = some (if (rParts T t [100, 58, 109] p []).1 = true then .inl m' else .inr (z 0, m')) ∧ CS m' (rParts T t [100, 58, 109] p []).2.1 c (rParts T t [100, 58, 109] p []).2.2 ∧ gA m m' c :=
  shp (n := n) h hn hc [100, 58, 109] (by decide) (lX4_readCommand_107_l24_100012 n i1) (fun k i ch m hch => by
    have hi : i < 3 := (List.getElem?_eq_some_iff.mp hch).1
    have hg : ([100, 58, 109] : List Nat).getD i 0 = ch := by rw [List.getD_eq_getElem?_getD, hch]; rfl
    show bX4_readCommand_107_l24_100012 n i1 (lX4_readCommand_107_l24_100012 n i1 k) (z (i : Int)) m = _
    unfold bX4_readCommand_107_l24_100012
    rw [len100012, obind, if_pos (zlt (by omega)), ch100012 hi, obind, hg, show z 1 = z (1 : Int) from rfl, z_add]) (fun k m => by
    show bX4_readCommand_107_l24_100012 n i1 (lX4_readCommand_107_l24_100012 n i1 k) (z 3) m = _
    unfold bX4_readCommand_107_l24_100012
    rw [len100012, obind, if_neg (zge (by omega))]) 3 0 n p m [] rfl (by omega) hp hm hs (by decide)
theorem len100013 (m : pmI) : fJ0_length_8abf5_100013 m = some (z 3) := (by decide +kernel : fJ0_length_8abf5_100013 m00 = some (z 3))
theorem ch1000130 : ∀ i : Nat, i < 3 → fJ0_charAt_5068e_100013 (z (i : Int)) m00 = some (z (([100, 32, 110] : List Nat).getD i 0 : Int)) := by decide +kernel
theorem ch100013 {i : Nat} (h : i < 3) (m : pmI) : fJ0_charAt_5068e_100013 (z (i : Int)) m = some (z (([100, 32, 110] : List Nat).getD i 0 : Int)) := ch1000130 i h
theorem sh100013 (h : tOk T t) (hn : 100 ≤ n) (hc : c < 10) {i1 : Int32} {p : Nat} {m : pmI} (hp : p ≤ T) (hm : cT m T t) (hs : CS m p c []) : ∃ m', lX4_readCommand_107_l24_100013 n i1 n (z 0) m = some (if (rParts T t [100, 32, 110] p []).1 = true then .inl m' else .inr (z 0, m')) ∧ CS m' (rParts T t [100, 32, 110] p []).2.1 c (rParts T t [100, 32, 110] p []).2.2 ∧ gA m m' c :=
  shp (n := n) h hn hc [100, 32, 110] (by decide) (lX4_readCommand_107_l24_100013 n i1) (fun k i ch m hch => by
    have hi : i < 3 := (List.getElem?_eq_some_iff.mp hch).1
    have hg : ([100, 32, 110] : List Nat).getD i 0 = ch := by rw [List.getD_eq_getElem?_getD, hch]; rfl
    show bX4_readCommand_107_l24_100013 n i1 (lX4_readCommand_107_l24_100013 n i1 k) (z (i : Int)) m = _
    unfold bX4_readCommand_107_l24_100013
    rw [len100013, obind, if_pos (zlt (by omega)), ch100013 hi, obind, hg, show z 1 = z (1 : Int) from rfl, z_add]) (fun k m => by
    show bX4_readCommand_107_l24_100013 n i1 (lX4_readCommand_107_l24_100013 n i1 k) (z 3) m = _
    unfold bX4_readCommand_107_l24_100013
    rw [len100013, obind, if_neg (zge (by omega))]) 3 0 n p m [] rfl (by omega) hp hm hs (by decide)
theorem len100014 (m : pmI) : fJ0_length_8abf5_100014 m = some (z 4) := (by decide +kernel : fJ0_length_8abf5_100014 m00 = some (z 4))
theorem ch1000140 : ∀ i : Nat, i < 4 → fJ0_charAt_5068e_100014 (z (i : Int)) m00 = some (z (([110, 62, 100, 100] : List Nat).getD i 0 : Int)) := by decide +kernel
theorem ch100014 {i : Nat} (h : i < 4) (m : pmI) : fJ0_charAt_5068e_100014 (z (i : Int)) m = some (z (([110, 62, 100, 100] : List Nat).getD i 0 : Int)) := ch1000140 i h
theorem sh100014 (h : tOk T t) (hn : 100 ≤ n) (hc : c < 10) {i1 : Int32} {p : Nat} {m : pmI} (hp : p ≤ T) (hm : cT m T t) (hs : CS m p c []) : ∃ m', lX4_readCommand_107_l24_100014 n i1 n (z 0) m = some (if (rParts T t [110, 62, 100, 100] p []).1 = true then .inl m' else .inr (z 0, m')) ∧ CS m' (rParts T t [110, 62, 100, 100] p []).2.1 c (rParts T t [110, 62, 100, 100] p []).2.2 ∧ gA m m' c :=
  shp (n := n) h hn hc [110, 62, 100, 100] (by decide) (lX4_readCommand_107_l24_100014 n i1) (fun k i ch m hch => by
    have hi : i < 4 := (List.getElem?_eq_some_iff.mp hch).1
    have hg : ([110, 62, 100, 100] : List Nat).getD i 0 = ch := by rw [List.getD_eq_getElem?_getD, hch]; rfl
    show bX4_readCommand_107_l24_100014 n i1 (lX4_readCommand_107_l24_100014 n i1 k) (z (i : Int)) m = _
    unfold bX4_readCommand_107_l24_100014
    rw [len100014, obind, if_pos (zlt (by omega)), ch100014 hi, obind, hg, show z 1 = z (1 : Int) from rfl, z_add]) (fun k m => by
    show bX4_readCommand_107_l24_100014 n i1 (lX4_readCommand_107_l24_100014 n i1 k) (z 4) m = _
    unfold bX4_readCommand_107_l24_100014
    rw [len100014, obind, if_neg (zge (by omega))]) 4 0 n p m [] rfl (by omega) hp hm hs (by decide)
theorem len100015 (m : pmI) : fJ0_length_8abf5_100015 m = some (z 1) := (by decide +kernel : fJ0_length_8abf5_100015 m00 = some (z 1))
theorem ch1000150 : ∀ i : Nat, i < 1 → fJ0_charAt_5068e_100015 (z (i : Int)) m00 = some (z (([110] : List Nat).getD i 0 : Int)) := by decide +kernel
theorem ch100015 {i : Nat} (h : i < 1) (m : pmI) : fJ0_charAt_5068e_100015 (z (i : Int)) m = some (z (([110] : List Nat).getD i 0 : Int)) := ch1000150 i h
theorem sh100015 (h : tOk T t) (hn : 100 ≤ n) (hc : c < 10) {i1 : Int32} {p : Nat} {m : pmI} (hp : p ≤ T) (hm : cT m T t) (hs : CS m p c []) : ∃ m', lX4_readCommand_107_l24_100015 n i1 n (z 0) m = some (if (rParts T t [110] p []).1 = true then .inl m' else .inr (z 0, m')) ∧ CS m' (rParts T t [110] p []).2.1 c (rParts T t [110] p []).2.2 ∧ gA m m' c :=
  shp (n := n) h hn hc [110] (by decide) (lX4_readCommand_107_l24_100015 n i1) (fun k i ch m hch => by
    have hi : i < 1 := (List.getElem?_eq_some_iff.mp hch).1
    have hg : ([110] : List Nat).getD i 0 = ch := by rw [List.getD_eq_getElem?_getD, hch]; rfl
    show bX4_readCommand_107_l24_100015 n i1 (lX4_readCommand_107_l24_100015 n i1 k) (z (i : Int)) m = _
    unfold bX4_readCommand_107_l24_100015
    rw [len100015, obind, if_pos (zlt (by omega)), ch100015 hi, obind, hg, show z 1 = z (1 : Int) from rfl, z_add]) (fun k m => by
    show bX4_readCommand_107_l24_100015 n i1 (lX4_readCommand_107_l24_100015 n i1 k) (z 1) m = _
    unfold bX4_readCommand_107_l24_100015
    rw [len100015, obind, if_neg (zge (by omega))]) 1 0 n p m [] rfl (by omega) hp hm hs (by decide)
theorem len100016 (m : pmI) : fJ0_length_8abf5_100016 m = some (z 0) := (by decide +kernel : fJ0_length_8abf5_100016 m00 = some (z 0))
theorem sh100016 (h : tOk T t) (hn : 100 ≤ n) (hc : c < 10) {i1 : Int32} {p : Nat} {m : pmI} (hp : p ≤ T) (hm : cT m T t) (hs : CS m p c []) : ∃ m', lX4_readCommand_107_l24_100016 n i1 n (z 0) m = some (if (rParts T t [] p []).1 = true then .inl m' else .inr (z 0, m')) ∧ CS m' (rParts T t [] p []).2.1 c (rParts T t [] p []).2.2 ∧ gA m m' c :=
  shp (n := n) h hn hc [] (by decide) (lX4_readCommand_107_l24_100016 n i1) (fun k i ch m hch => by
    have hi : i < 0 := (List.getElem?_eq_some_iff.mp hch).1
    have hg : ([] : List Nat).getD i 0 = ch := by rw [List.getD_eq_getElem?_getD, hch]; rfl
    show bX4_readCommand_107_l24_100016 n i1 (lX4_readCommand_107_l24_100016 n i1 k) (z (i : Int)) m = _
    unfold bX4_readCommand_107_l24_100016
    exact absurd hi (Nat.not_lt_zero _)) (fun k m => by
    show bX4_readCommand_107_l24_100016 n i1 (lX4_readCommand_107_l24_100016 n i1 k) (z 0) m = _
    unfold bX4_readCommand_107_l24_100016
    rw [len100016, obind, if_neg (zge (by omega))]) 0 0 n p m [] rfl (by omega) hp hm hs (by decide)
end CREAD2

