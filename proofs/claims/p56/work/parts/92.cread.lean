/-! programs: how the class reads a command -/
/-- the word at p: which of d more words from i on, or how far -/
def rW (T : Nat) (t : Nat → Nat) (p : Nat) : Nat → Nat → Nat → Option Nat × Nat
  | 0, _, far => (none, p + far)
  | d + 1, i, far => if mt T t (wd i) p = (wd i).length then (some i, p + (wd i).length) else rW T t p d (i + 1) (max far (mt T t (wd i) p))
def dig (T : Nat) (t : Nat → Nat) (p : Nat) : Bool := decide (48 ≤ sg T t p) && decide (sg T t p ≤ 57)
/-- a number of at most d digits: its value, how many, the place behind it -/
def num (T : Nat) (t : Nat → Nat) : Nat → Nat → Nat → Nat → Nat × Nat × Nat
  | 0, v, k, p => (v, k, p)
  | d + 1, v, k, p => if dig T t p = true then num T t d (10 * v + ((sg T t p).toNat - 48)) (k + 1) (p + 1) else (v, k, p)
/-- the place behind the moves -/
def mvs (T : Nat) (t : Nat → Nat) : Nat → Nat → Nat
  | 0, p => p
  | d + 1, p => if mvIx (sg T t p) = none then p else mvs T t d (p + 1)
/-- a part of a command: d a digit, n a number, m moves, else the sign itself -/
def rPart (T : Nat) (t : Nat → Nat) (c : Nat) (p : Nat) (as : List Nat) : Bool × Nat × List Nat :=
  if c = 100 then (decide (0 < (num T t 1 0 0 p).2.1), (num T t 1 0 0 p).2.2, as ++ [(num T t 1 0 0 p).1])
  else if c = 109 then (true, mvs T t 60 p, as ++ [p] ++ [mvs T t 60 p])
  else if c = 110 then (decide (0 < (num T t 2 0 0 p).2.1), (num T t 2 0 0 p).2.2, as ++ [(num T t 2 0 0 p).1])
  else if sg T t p = (c : Int) then (true, p + 1, as) else (false, p, as)
def rParts (T : Nat) (t : Nat → Nat) : List Nat → Nat → List Nat → Bool × Nat × List Nat
  | [], p, as => (true, p, as)
  | c :: w, p, as => if (rPart T t c p as).1 = true then rParts T t w (rPart T t c p as).2.1 (rPart T t c p as).2.2 else ((false, (rPart T t c p as).2.1, (rPart T t c p as).2.2))
theorem dig_iff {T : Nat} {t : Nat → Nat} {p : Nat} : dig T t p = true ↔ 48 ≤ sg T t p ∧ sg T t p ≤ 57 := by
  unfold dig
  rw [Bool.and_eq_true, decide_eq_true_eq, decide_eq_true_eq]
theorem sg_lt {T : Nat} {t : Nat → Nat} {p : Nat} (h : 0 ≤ sg T t p) : p < T := by
  unfold sg at h
  split at h
  · assumption
  · omega
theorem num_b {T : Nat} {t : Nat → Nat} : ∀ (d v k p : Nat), v + 1 ≤ 10 ^ k → p ≤ T → (num T t d v k p).1 + 1 ≤ 10 ^ (k + d) ∧ (p ≤ (num T t d v k p).2.2 ∧ (num T t d v k p).2.2 ≤ T) ∧ (num T t d v k p).2.1 ≤ k + d
  | 0, v, k, p, h, hp => ⟨h, ⟨Nat.le_refl _, hp⟩, Nat.le_refl _⟩
  | d + 1, v, k, p, h, hp => by
    unfold num
    by_cases hd : dig T t p = true
    · rw [if_pos hd]
      have hs := dig_iff.mp hd
      have hl := sg_lt (T := T) (t := t) (p := p) (by omega)
      have ih := num_b (T := T) (t := t) d (10 * v + ((sg T t p).toNat - 48)) (k + 1) (p + 1) (by
        have e : 10 ^ (k + 1) = 10 ^ k * 10 := Nat.pow_succ 10 k
        rw [e]
        generalize 10 ^ k = X at h ⊢
        omega) (by omega)
      rw [show k + 1 + d = k + (d + 1) by omega] at ih
      exact ⟨ih.1, ⟨by omega, ih.2.1.2⟩, ih.2.2⟩
    · rw [if_neg hd]
      have : 10 ^ k ≤ 10 ^ (k + (d + 1)) := Nat.pow_le_pow_right (by omega) (by omega)
      exact ⟨by show v + 1 ≤ _; omega, ⟨Nat.le_refl _, hp⟩, by show k ≤ _; omega⟩
theorem mvs_b {T : Nat} {t : Nat → Nat} : ∀ (d p : Nat), p ≤ T → p ≤ mvs T t d p ∧ mvs T t d p ≤ T
  | 0, p, hp => ⟨Nat.le_refl _, hp⟩
  | d + 1, p, hp => by
    unfold mvs
    split
    · exact ⟨Nat.le_refl _, hp⟩
    · rename_i h
      have hl : p < T := by
        unfold sg at h
        split at h
        · assumption
        · exact absurd (by decide) h
      have := mvs_b (T := T) (t := t) d (p + 1) (by omega)
      omega
theorem rPart_b {T : Nat} {t : Nat → Nat} {c p : Nat} {as : List Nat} (hp : p ≤ T) : p ≤ (rPart T t c p as).2.1 ∧ (rPart T t c p as).2.1 ≤ T := by
  unfold rPart
  split
  · exact (num_b 1 0 0 p (by decide) hp).2.1
  · split
    · exact mvs_b 60 p hp
    · split
      · exact (num_b 2 0 0 p (by decide) hp).2.1
      · split
        · rename_i h
          have := sg_lt (T := T) (t := t) (p := p) (by omega)
          exact ⟨by show p ≤ p + 1; omega, by show p + 1 ≤ T; omega⟩
        · exact ⟨Nat.le_refl _, hp⟩
theorem rParts_b {T : Nat} {t : Nat → Nat} : ∀ (w : List Nat) (p : Nat) (as : List Nat), p ≤ T → p ≤ (rParts T t w p as).2.1 ∧ (rParts T t w p as).2.1 ≤ T
  | [], p, as, hp => ⟨Nat.le_refl _, hp⟩
  | c :: w, p, as, hp => by
    unfold rParts
    have h1 := rPart_b (T := T) (t := t) (c := c) (as := as) hp
    split
    · have h2 := rParts_b (T := T) (t := t) w (rPart T t c p as).2.1 (rPart T t c p as).2.2 h1.2
      omega
    · exact h1
/-- what the reader of the class has -/
def CP (m : pmI) (p c : Nat) : Prop := m.1 107 5 = z (p : Int) ∧ m.1 107 2 = z (c : Int)
/-- what reading leaves -/
def dfrP (m m' : pmI) : Prop := (∀ i, ¬ i = 107 → ¬ i = 109 → ¬ i = 110 → m'.1 i = m.1 i) ∧ m'.2 = m.2 ∧ m'.1 107 1 = m.1 107 1
theorem dfrP_rf {m : pmI} : dfrP m m := ⟨fun _ _ _ _ => rfl, rfl, rfl⟩
theorem dfrP_tr {m m1 m2 : pmI} (h1 : dfrP m m1) (h2 : dfrP m1 m2) : dfrP m m2 := ⟨fun i a b c => (h2.1 i a b c).trans (h1.1 i a b c), h2.2.1.trans h1.2.1, h2.2.2.trans h1.2.2⟩
theorem cT_f {m m' : pmI} {T : Nat} {t : Nat → Nat} (h : cT m T t) (f : dfrP m m') : cT m' T t := ⟨f.2.2.trans h.1, fun k hk => by rw [f.1 108 (by decide) (by decide) (by decide)]; exact h.2 k hk⟩
theorem w_107 (m : pmI) (k : Nat) (x : Int32) (hk : ¬ k = 1) : ∃ m', (pmU m.1 107 k x, m.2) = m' ∧ dfrP m m' ∧ (∀ b, m'.1 107 b = if b = k then x else m.1 107 b) ∧ m'.1 109 = m.1 109 ∧ m'.1 110 = m.1 110 := by
  obtain ⟨m', e, j, o, r⟩ := w_1 m 107 k x
  exact ⟨m', e, ⟨fun i a _ _ => o i a, j, by rw [r, if_neg (fun g => hk g.symm)]⟩, r, o 109 (by decide), o 110 (by decide)⟩
section CREAD
variable {m : pmI} {n T p c : Nat} {t : Nat → Nat}
theorem c_readWord (h : tOk T t) (hm : cT m T t) (h5 : CP m p c) (hp : p ≤ T) (hn : 100 ≤ n) : ∃ m', fX4_readWord_107 n m = some (z (oz (rW T t p 9 0 0).1), m') ∧ dfrP m m' ∧ CP m' (rW T t p 9 0 0).2 c ∧ m'.1 109 = m.1 109 ∧ m'.1 110 = m.1 110 := by
  have hT := h.1
  have key : ∀ (d i far q : Nat), i + d = 9 → d < q → far ≤ 100 → ∃ R : Option ((Int32) ⊕ (Int32 × pmI)), lX4_readWord_107_l4 n m q (z (far : Int)) (z (i : Int)) = R ∧ ((∃ f : Nat, R = some (.inl (z (f : Int))) ∧ rW T t p d i far = (none, p + f)) ∨ ∃ (k len : Nat), R = some (.inr (z (k : Int), (pmU m.1 107 5 (m.1 107 5 + z (len : Int)), m.2))) ∧ rW T t p d i far = (some k, p + len)) := by
    intro d
    induction d with
    | zero =>
      intro i far q h1 h2 h3
      obtain ⟨q, rfl⟩ : ∃ j, q = j + 1 := ⟨q - 1, by omega⟩
      refine ⟨_, rfl, Or.inl ⟨far, ?_, rfl⟩⟩
      show bX4_readWord_107_l4 n m (lX4_readWord_107_l4 n m q) (z (far : Int)) (z (i : Int)) = _
      unfold bX4_readWord_107_l4
      rw [if_neg (zge (by omega))]
    | succ d ih =>
      intro i far q h1 h2 h3
      obtain ⟨q, rfl⟩ : ∃ j, q = j + 1 := ⟨q - 1, by omega⟩
      have hmt := mt_le (T := T) (t := t) (wd i) p
      have hwl : (wd i).length ≤ 8 := by
        have : ∀ i, i < 9 → (wd i).length ≤ 8 := by decide
        exact this i (by omega)
      have fin : ∀ R, R = lX4_readWord_107_l4 n m (q + 1) (z (far : Int)) (z (i : Int)) → R = (if z (mt T t (wd i) p : Int) = z ((wd i).length : Int) then some (.inr (z (i : Int), (pmU m.1 107 5 (m.1 107 5 + z (mt T t (wd i) p : Int)), m.2))) else (fJ9_max_7cf53 (z (far : Int)) (z (mt T t (wd i) p : Int)) m).bind fun v4 => lX4_readWord_107_l4 n m q v4 (z (i : Int) + z 1)) → ∃ R, lX4_readWord_107_l4 n m (q + 1) (z (far : Int)) (z (i : Int)) = R ∧ ((∃ f : Nat, R = some (.inl (z (f : Int))) ∧ rW T t p (d + 1) i far = (none, p + f)) ∨ ∃ (k len : Nat), R = some (.inr (z (k : Int), (pmU m.1 107 5 (m.1 107 5 + z (len : Int)), m.2))) ∧ rW T t p (d + 1) i far = (some k, p + len)) := by
        intro R hR hR2
        by_cases e : mt T t (wd i) p = (wd i).length
        · refine ⟨R, hR.symm, Or.inr ⟨i, (wd i).length, ?_, ?_⟩⟩
          · rw [hR2, if_pos (by rw [e]), e]
          · show (if mt T t (wd i) p = (wd i).length then _ else _) = _
            rw [if_pos e]
        · obtain ⟨R2, g1, g2⟩ := ih (i + 1) (max far (mt T t (wd i) p)) q (by omega) (by omega) (by omega)
          have hz : ¬ z (mt T t (wd i) p : Int) = z ((wd i).length : Int) := zne (by omega)
          have hmax : fJ9_max_7cf53 (z (far : Int)) (z (mt T t (wd i) p : Int)) m = some (z ((max far (mt T t (wd i) p) : Nat) : Int)) := by
            unfold fJ9_max_7cf53
            by_cases hl : far < mt T t (wd i) p
            · rw [if_pos (zlt (by omega)), show max far (mt T t (wd i) p) = mt T t (wd i) p by omega]
            · rw [if_neg (zge (by omega)), show max far (mt T t (wd i) p) = far by omega]
          refine ⟨R2, ?_, ?_⟩
          · rw [← hR, hR2, if_neg hz, hmax, obind, show z 1 = z (1 : Int) from rfl, z_add]
            exact g1
          · have e2 : rW T t p (d + 1) i far = rW T t p d (i + 1) (max far (mt T t (wd i) p)) := by
              show (if mt T t (wd i) p = (wd i).length then _ else _) = _
              rw [if_neg e]
            rw [e2]
            exact g2
      have hcmp : ∀ a b : Nat, a < 10 → b < 10 → ¬ a = b → ¬ z (a : Int) = z (b : Int) := fun a b ha hb hab => zne (by omega)
      refine fin _ rfl ?_
      show bX4_readWord_107_l4 n m (lX4_readWord_107_l4 n m q) (z (far : Int)) (z (i : Int)) = _
      unfold bX4_readWord_107_l4 fX4_wordOf
      rw [if_pos (zlt (by omega))]
      rcases (show i = 0 ∨ i = 1 ∨ i = 2 ∨ i = 3 ∨ i = 4 ∨ i = 5 ∨ i = 6 ∨ i = 7 ∨ i = 8 by omega) with rfl | rfl | rfl | rfl | rfl | rfl | rfl | rfl | rfl

      · rw [if_pos (show z ((0 : Nat) : Int) = z 0 from rfl), obind, if_pos rfl, cm100000 h hm h5.1 (by omega) hn, obind, len100000, obind]
        rfl
      · rw [if_neg (by decide), if_pos (show z ((1 : Nat) : Int) = z 1 from rfl), obind, if_neg (by decide), if_pos rfl, cm100001 h hm h5.1 (by omega) hn, obind, len100001, obind]
        rfl
      · rw [if_neg (by decide), if_neg (by decide), if_pos (show z ((2 : Nat) : Int) = z 2 from rfl), obind, if_neg (by decide), if_neg (by decide), if_pos rfl, cm100002 h hm h5.1 (by omega) hn, obind, len100002, obind]
        rfl
      · rw [if_neg (by decide), if_neg (by decide), if_neg (by decide), if_pos (show z ((3 : Nat) : Int) = z 3 from rfl), obind, if_neg (by decide), if_neg (by decide), if_neg (by decide), if_pos rfl, cm100003 h hm h5.1 (by omega) hn, obind, len100003, obind]
        rfl
      · rw [if_neg (by decide), if_neg (by decide), if_neg (by decide), if_neg (by decide), if_pos (show z ((4 : Nat) : Int) = z 4 from rfl), obind, if_neg (by decide), if_neg (by decide), if_neg (by decide), if_neg (by decide), if_pos rfl, cm100004 h hm h5.1 (by omega) hn, obind, len100004, obind]
        rfl
      · rw [if_neg (by decide), if_neg (by decide), if_neg (by decide), if_neg (by decide), if_neg (by decide), if_pos (show z ((5 : Nat) : Int) = z 5 from rfl), obind, if_neg (by decide), if_neg (by decide), if_neg (by decide), if_neg (by decide), if_neg (by decide), if_pos rfl, cm100005 h hm h5.1 (by omega) hn, obind, len100005, obind]
        rfl
      · rw [if_neg (by decide), if_neg (by decide), if_neg (by decide), if_neg (by decide), if_neg (by decide), if_neg (by decide), if_pos (show z ((6 : Nat) : Int) = z 6 from rfl), obind, if_neg (by decide), if_neg (by decide), if_neg (by decide), if_neg (by decide), if_neg (by decide), if_neg (by decide), if_pos rfl, cm100006 h hm h5.1 (by omega) hn, obind, len100006, obind]
        rfl
      · rw [if_neg (by decide), if_neg (by decide), if_neg (by decide), if_neg (by decide), if_neg (by decide), if_neg (by decide), if_neg (by decide), if_pos (show z ((7 : Nat) : Int) = z 7 from rfl), obind, if_neg (by decide), if_neg (by decide), if_neg (by decide), if_neg (by decide), if_neg (by decide), if_neg (by decide), if_neg (by decide), if_pos rfl, cm100007 h hm h5.1 (by omega) hn, obind, len100007, obind]
        rfl
      · rw [if_neg (by decide), if_neg (by decide), if_neg (by decide), if_neg (by decide), if_neg (by decide), if_neg (by decide), if_neg (by decide), if_neg (by decide), obind, if_neg (by decide), if_neg (by decide), if_neg (by decide), if_neg (by decide), if_neg (by decide), if_neg (by decide), if_neg (by decide), if_neg (by decide), if_pos rfl, cm100008 h hm h5.1 (by omega) hn, obind, len100008, obind]
        rfl
  obtain ⟨R, e1, g⟩ := key 9 0 0 n rfl (by omega) (by omega)
  have e1 : lX4_readWord_107_l4 n m n (z 0) (z 0) = R := e1
  unfold fX4_readWord_107
  rw [e1]
  rcases g with ⟨f, rfl, g2⟩ | ⟨k, len, rfl, g2⟩
  · obtain ⟨m1, e2, f1, r1, o1, o2⟩ := w_107 m 5 (m.1 107 5 + z (f : Int)) (by decide)
    rw [obind, oS_l, pmLet_eq, e2, g2]
    refine ⟨m1, rfl, f1, ⟨by rw [r1, if_pos rfl, h5.1, z_add]; rfl, by rw [r1, if_neg (by decide)]; exact h5.2⟩, o1, o2⟩
  · obtain ⟨m1, e2, f1, r1, o1, o2⟩ := w_107 m 5 (m.1 107 5 + z (len : Int)) (by decide)
    rw [obind, oS_r, e2, g2]
    refine ⟨m1, rfl, f1, ⟨by rw [r1, if_pos rfl, h5.1, z_add]; rfl, by rw [r1, if_neg (by decide)]; exact h5.2⟩, o1, o2⟩
end CREAD

