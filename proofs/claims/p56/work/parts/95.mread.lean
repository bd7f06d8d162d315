/-! programs: how the model reads -/
/-- the model's reader: the place, the values behind a command's code -/
def MS (m : pmI) (T : Nat) (t : Nat → Nat) (p a : Nat) (as : List Nat) : Prop := mT m T t ∧ m.1 113 22 = z (p : Int) ∧ ∀ i, i < as.length → m.1 126 (a + 1 + i) = z (as.getD i 0 : Int)
def gB (m m' : pmI) (a : Nat) : Prop := (∀ i, ¬ i = 113 → ¬ i = 126 → m'.1 i = m.1 i) ∧ m'.2 = m.2 ∧ (∀ x, ¬ x = 22 → m'.1 113 x = m.1 113 x) ∧ ∀ b, b ≤ a → m'.1 126 b = m.1 126 b
theorem gB_rf {m : pmI} {a : Nat} : gB m m a := ⟨fun _ _ _ => rfl, rfl, fun _ _ => rfl, fun _ _ => rfl⟩
theorem gB_tr {m m1 m2 : pmI} {a : Nat} (h1 : gB m m1 a) (h2 : gB m1 m2 a) : gB m m2 a := ⟨fun i x y => (h2.1 i x y).trans (h1.1 i x y), h2.2.1.trans h1.2.1, fun x y => (h2.2.2.1 x y).trans (h1.2.2.1 x y), fun b hb => (h2.2.2.2 b hb).trans (h1.2.2.2 b hb)⟩
theorem rParts_app {T : Nat} {t : Nat → Nat} (w2 : List Nat) : ∀ (w1 : List Nat) (p : Nat) (as : List Nat), rParts T t (w1 ++ w2) p as = if (rParts T t w1 p as).1 = true then rParts T t w2 (rParts T t w1 p as).2.1 (rParts T t w1 p as).2.2 else (false, (rParts T t w1 p as).2.1, (rParts T t w1 p as).2.2)
  | [], p, as => by
    show rParts T t w2 p as = if true = true then rParts T t w2 p as else _
    rw [if_pos rfl]
  | c :: w, p, as => by
    show (if (rPart T t c p as).1 = true then rParts T t (w ++ w2) (rPart T t c p as).2.1 (rPart T t c p as).2.2 else (false, (rPart T t c p as).2.1, (rPart T t c p as).2.2)) = _
    have ih := rParts_app (T := T) (t := t) w2 w (rPart T t c p as).2.1 (rPart T t c p as).2.2
    by_cases ok : (rPart T t c p as).1 = true
    · have e : rParts T t (c :: w) p as = rParts T t w (rPart T t c p as).2.1 (rPart T t c p as).2.2 := if_pos ok
      rw [if_pos ok, e, ih]
    · have e : rParts T t (c :: w) p as = (false, (rPart T t c p as).2.1, (rPart T t c p as).2.2) := if_neg ok
      rw [if_neg ok, e]
      dsimp only
      rw [if_neg (by decide)]
/-- a piece of the model's reader that reads the parts w, with len values kept before -/
def Blk (T : Nat) (t : Nat → Nat) (a len : Nat) (f : pmI → Option (Int32 × pmI)) (w : List Nat) : Prop := ∀ (m : pmI) (p : Nat) (as : List Nat), as.length = len → p ≤ T → MS m T t p a as → ∃ m', f m = some (z (if (rParts T t w p as).1 = true then 1 else 0), m') ∧ MS m' T t (rParts T t w p as).2.1 a (rParts T t w p as).2.2 ∧ gB m m' a
section MREAD
variable {n T a : Nat} {t : Nat → Nat}
theorem rParts_len : ∀ (w : List Nat) (p : Nat) (as : List Nat), (rParts T t w p as).1 = true → (rParts T t w p as).2.2.length = as.length + na w
  | [], _, _, _ => rfl
  | c :: w, p, as, h => by
    have h1 := rPart_na (T := T) (t := t) (ch := c) (p := p) (as := as)
    have h2 := na_cons c w
    by_cases ok : (rPart T t c p as).1 = true
    · have e : rParts T t (c :: w) p as = rParts T t w (rPart T t c p as).2.1 (rPart T t c p as).2.2 := if_pos ok
      rw [e] at h ⊢
      have := rParts_len w (rPart T t c p as).2.1 (rPart T t c p as).2.2 h
      omega
    · have e : rParts T t (c :: w) p as = (false, (rPart T t c p as).2.1, (rPart T t c p as).2.2) := if_neg ok
      rw [e] at h
      cases h
theorem Blk_unit {len : Nat} : Blk T t a len (fun m => some (z 1, m)) [] := fun m p as _ _ hs => ⟨m, rfl, hs, gB_rf⟩
theorem Blk_seq {len : Nat} {f g : pmI → Option (Int32 × pmI)} {w1 w2 : List Nat} (h1 : Blk T t a len f w1) (h2 : Blk T t a (len + na w1) g w2) : Blk T t a len (fun m => (f m).bind fun v => if v.1 = z 0 then some (z 0, v.2) else g v.2) (w1 ++ w2) := fun m p as hl hp hs => by
  obtain ⟨m1, e1, s1, g1⟩ := h1 m p as hl hp hs
  have pb := rParts_b (T := T) (t := t) w1 p as hp
  rw [rParts_app]
  by_cases ok : (rParts T t w1 p as).1 = true
  · obtain ⟨m2, e2, s2, g2⟩ := h2 m1 _ _ (by rw [rParts_len w1 p as ok, hl]) pb.2 s1
    refine ⟨m2, ?_, by rw [if_pos ok]; exact s2, gB_tr g1 g2⟩
    show (f m).bind _ = _
    rw [e1, obind]
    dsimp only
    rw [if_pos ok, if_neg (by decide), if_pos ok]
    exact e2
  · refine ⟨m1, ?_, by rw [if_neg ok]; exact s1, g1⟩
    show (f m).bind _ = _
    rw [e1, obind]
    dsimp only
    rw [if_neg ok, if_pos rfl, if_neg ok]
    rfl
theorem MS_pos {m : pmI} {p : Nat} {as : List Nat} (h : MS m T t p a as) (x : Int32) (p' : Nat) (hx : x = z (p' : Int)) : ∃ m', (pmU m.1 113 22 x, m.2) = m' ∧ MS m' T t p' a as ∧ gB m m' a := by
  obtain ⟨m1, e1, j1, o1, r1⟩ := w_1 m 113 22 x
  refine ⟨m1, e1, ⟨⟨by rw [r1, if_neg (by decide)]; exact h.1.1, fun k hk => by rw [o1 125 (by decide)]; exact h.1.2 k hk⟩, by rw [r1, if_pos rfl, hx], fun i hi => by rw [o1 126 (by decide)]; exact h.2.2 i hi⟩, fun i x _ => o1 i x, j1, fun x hx => by rw [r1, if_neg hx], fun b _ => by rw [o1 126 (by decide)]⟩
theorem MS_keep {m : pmI} {p : Nat} {as : List Nat} (h : MS m T t p a as) (v : Nat) : ∃ m', (pmU m.1 126 (a + 1 + as.length) (z (v : Int)), m.2) = m' ∧ MS m' T t p a (as ++ [v]) ∧ gB m m' a := by
  obtain ⟨m1, e1, j1, o1, r1⟩ := w_1 m 126 (a + 1 + as.length) (z (v : Int))
  refine ⟨m1, e1, ⟨⟨by rw [o1 113 (by decide)]; exact h.1.1, fun k hk => by rw [o1 125 (by decide)]; exact h.1.2 k hk⟩, by rw [o1 113 (by decide)]; exact h.2.1, fun i hi => ?_⟩, fun i _ x => o1 i x, j1, fun x _ => by rw [o1 113 (by decide)], fun b hb => by rw [r1, if_neg (by omega)]⟩
  rw [List.length_append] at hi
  have hi : i < as.length + 1 := hi
  rw [r1]
  by_cases e : i = as.length
  · rw [if_pos (by rw [e]), e, getD_r]
  · rw [if_neg (by omega), getD_l (by omega)]
    exact h.2.2 i (by omega)
end MREAD

