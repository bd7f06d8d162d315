/-! programs: the model reads a command -/
theorem mt_0 {T : Nat} {t : Nat → Nat} {p c : Nat} {w : List Nat} (h : ¬ sg T t p = (c : Int)) : mt T t (c :: w) p = 0 := if_neg h
theorem mt_1 {T : Nat} {t : Nat → Nat} {p c : Nat} {w : List Nat} (h : sg T t p = (c : Int)) : mt T t (c :: w) p = 1 + mt T t w (p + 1) := if_pos h
theorem rW_rest {T : Nat} {t : Nat → Nat} {p : Nat} : ∀ (d i far : Nat), (∀ j, i ≤ j → j < i + d → mt T t (wd j) p ≤ far ∧ ¬ mt T t (wd j) p = (wd j).length) → rW T t p d i far = (none, p + far)
  | 0, _, _, _ => rfl
  | d + 1, i, far, h => by
    unfold rW
    obtain ⟨a, b⟩ := h i (Nat.le_refl _) (by omega)
    rw [if_neg b, show max far (mt T t (wd i) p) = far by omega]
    exact rW_rest d (i + 1) far (fun j h1 h2 => h j (by omega) (by omega))
theorem rW_one {T : Nat} {t : Nat → Nat} {p k : Nat} : ∀ (d i far : Nat), i ≤ k → k < i + d → far ≤ mt T t (wd k) p → (∀ j, i ≤ j → j < i + d → ¬ j = k → mt T t (wd j) p ≤ mt T t (wd k) p ∧ ¬ mt T t (wd j) p = (wd j).length) → rW T t p d i far = if mt T t (wd k) p = (wd k).length then (some k, p + (wd k).length) else (none, p + mt T t (wd k) p)
  | 0, i, far, h1, h2, _, _ => by omega
  | d + 1, i, far, h1, h2, h3, h4 => by
    unfold rW
    by_cases e : i = k
    · subst e
      by_cases hm : mt T t (wd i) p = (wd i).length
      · rw [if_pos hm, if_pos hm]
      · rw [if_neg hm, if_neg hm, show max far (mt T t (wd i) p) = mt T t (wd i) p by omega]
        exact rW_rest d (i + 1) _ (fun j a b => h4 j (by omega) (by omega) (by omega))
    · obtain ⟨a, b⟩ := h4 i (Nat.le_refl _) (by omega) e
      rw [if_neg b]
      exact rW_one d (i + 1) _ (by omega) (by omega) (by omega) (fun j x y z' => h4 j (by omega) (by omega) z')
/-- a command read to its end, from behind its first signs -/
def RK (T : Nat) (t : Nat → Nat) (k : Nat) (w : List Nat) (p : Nat) : Bool × Nat × List Nat := if mt T t w p = w.length then rParts T t (sp k) (p + w.length) [] else (false, p + mt T t w p, [])
theorem rCmd_k {T : Nat} {t : Nat → Nat} {p k e : Nat} {w : List Nat} (h : rW T t p 9 0 0 = if mt T t (wd k) p = (wd k).length then (some k, p + (wd k).length) else (none, p + mt T t (wd k) p)) (h1 : mt T t (wd k) p = e + mt T t w (p + e)) (h2 : (wd k).length = e + w.length) : (rCmd T t p).1 = (RK T t k w (p + e)).1 ∧ (rCmd T t p).2.1 = (RK T t k w (p + e)).2.1 ∧ ((rCmd T t p).1 = true → (rCmd T t p).2.2 = (k, (RK T t k w (p + e)).2.2)) := by
  unfold rCmd RK
  rw [h1, h2] at h
  by_cases g : mt T t w (p + e) = w.length
  · rw [if_pos (by omega)] at h
    rw [h, if_pos g, show p + (e + w.length) = p + e + w.length by omega]
    exact ⟨rfl, rfl, fun _ => rfl⟩
  · rw [if_neg (by omega)] at h
    rw [h, if_neg g, show p + (e + mt T t w (p + e)) = p + e + mt T t w (p + e) by omega]
    exact ⟨rfl, rfl, fun g => (nomatch (show false = true from g))⟩
/-- which kind begins so -/
def fst9 (k : Nat) : Nat := if k = 0 then 112 else if k = 1 then 100 else if k = 2 then 112 else if k = 3 then 102 else if k = 4 then 112 else if k = 5 then 119 else if k = 6 then 101 else if k = 7 then 110 else 108
theorem mt_fst {T : Nat} {t : Nat → Nat} {p : Nat} : ∀ j, j < 9 → ¬ sg T t p = (fst9 j : Int) → mt T t (wd j) p = 0 := fun j hj h => by
  rcases (show j = 0 ∨ j = 1 ∨ j = 2 ∨ j = 3 ∨ j = 4 ∨ j = 5 ∨ j = 6 ∨ j = 7 ∨ j = 8 by omega) with rfl | rfl | rfl | rfl | rfl | rfl | rfl | rfl | rfl <;> exact mt_0 h
theorem wd_len : ∀ j, j < 9 → ¬ 0 = (wd j).length ∧ ¬ 1 = (wd j).length := by decide
/-- a word that alone begins so -/
theorem rW_solo {T : Nat} {t : Nat → Nat} {p k : Nat} (hk : k < 9) (hs : sg T t p = (fst9 k : Int)) (hu : ∀ j, j < 9 → ¬ j = k → ¬ fst9 j = fst9 k) : rW T t p 9 0 0 = if mt T t (wd k) p = (wd k).length then (some k, p + (wd k).length) else (none, p + mt T t (wd k) p) :=
  rW_one 9 0 0 (Nat.zero_le _) (by omega) (Nat.zero_le _) (fun j _ h2 h3 => by
    have e := mt_fst (T := T) (t := t) (p := p) j (by omega) (fun g => hu j (by omega) h3 (by omega))
    rw [e]
    exact ⟨Nat.zero_le _, (wd_len j (by omega)).1⟩)
theorem rW_p {T : Nat} {t : Nat → Nat} {p k : Nat} (hs : sg T t p = 112) (hk : (k = 0 ∧ sg T t (p + 1) = 114) ∨ (k = 2 ∧ sg T t (p + 1) = 97) ∨ (k = 4 ∧ ¬ sg T t (p + 1) = 114 ∧ ¬ sg T t (p + 1) = 97)) : rW T t p 9 0 0 = if mt T t (wd k) p = (wd k).length then (some k, p + (wd k).length) else (none, p + mt T t (wd k) p) := by
  have m0 : mt T t (wd 0) p = 1 + mt T t [114, 111, 112, 32] (p + 1) := mt_1 hs
  have m2 : mt T t (wd 2) p = 1 + mt T t [97, 105, 114, 32] (p + 1) := mt_1 hs
  have m4 : mt T t (wd 4) p = 1 + mt T t [101, 114, 102, 111, 114, 109, 32] (p + 1) := mt_1 hs
  have oth : ∀ j, j < 9 → ¬ j = 0 → ¬ j = 2 → ¬ j = 4 → mt T t (wd j) p = 0 := fun j h1 h2 h3 h4 => mt_fst j h1 (by
    rw [hs]
    have : ∀ j, j < 9 → ¬ j = 0 → ¬ j = 2 → ¬ j = 4 → ¬ fst9 j = 112 := by decide
    have := this j h1 h2 h3 h4
    omega)
  refine rW_one 9 0 0 (Nat.zero_le _) (by omega) (Nat.zero_le _) (fun j _ h2 h3 => ?_)
  have wl := wd_len j (by omega)
  have n0 : ¬ sg T t (p + 1) = 114 → mt T t (wd 0) p = 1 := fun g => by rw [m0, show mt T t [114, 111, 112, 32] (p + 1) = 0 from mt_0 g]
  have n2 : ¬ sg T t (p + 1) = 97 → mt T t (wd 2) p = 1 := fun g => by rw [m2, show mt T t [97, 105, 114, 32] (p + 1) = 0 from mt_0 g]
  have n4 : ¬ sg T t (p + 1) = 101 → mt T t (wd 4) p = 1 := fun g => by rw [m4, show mt T t [101, 114, 102, 111, 114, 109, 32] (p + 1) = 0 from mt_0 g]
  by_cases j0 : j = 0
  · subst j0
    rcases hk with ⟨rfl, g⟩ | ⟨rfl, g⟩ | ⟨rfl, g1, g2⟩
    · exact absurd rfl h3
    · rw [n0 (by omega)]
      exact ⟨by omega, wl.2⟩
    · rw [n0 g1]
      exact ⟨by omega, wl.2⟩
  · by_cases j2 : j = 2
    · subst j2
      rcases hk with ⟨rfl, g⟩ | ⟨rfl, g⟩ | ⟨rfl, g1, g2⟩
      · rw [n2 (by omega)]
        exact ⟨by omega, wl.2⟩
      · exact absurd rfl h3
      · rw [n2 g2]
        exact ⟨by omega, wl.2⟩
    · by_cases j4 : j = 4
      · subst j4
        rcases hk with ⟨rfl, g⟩ | ⟨rfl, g⟩ | ⟨rfl, g1, g2⟩
        · rw [n4 (by omega)]
          exact ⟨by omega, wl.2⟩
        · rw [n4 (by omega)]
          exact ⟨by omega, wl.2⟩
        · exact absurd rfl h3
      · rw [oth j (by omega) j0 j2 j4]
        exact ⟨Nat.zero_le _, wl.1⟩
theorem rW_no {T : Nat} {t : Nat → Nat} {p : Nat} (h : ∀ j, j < 9 → ¬ sg T t p = (fst9 j : Int)) : rW T t p 9 0 0 = (none, p) := rW_rest 9 0 0 (fun j _ h2 => by
  rw [mt_fst j (by omega) (h j (by omega))]
  exact ⟨Nat.le_refl _, (wd_len j (by omega)).1⟩)
section MCMD
variable {n T a : Nat} {t : Nat → Nat}
/-- a word, and what follows it -/
theorem m_tail {m : pmI} {p k : Nat} {w : List Nat} (hp : p ≤ T) {X : Option (Int32 × pmI)} {g : pmI → Option (Int32 × pmI)} (hX : ∃ m', X = some (z (if mt T t w p = w.length then 1 else 0), m') ∧ MS m' T t (p + mt T t w p) a [] ∧ gB m m' a) (hg : Blk T t a 0 g (sp k)) : ∃ m', (X.bind fun v => if v.1 = z 0 then some (z 0, v.2) else g v.2) = some (z (if (RK T t k w p).1 = true then 1 else 0), m') ∧ MS m' T t (RK T t k w p).2.1 a (RK T t k w p).2.2 ∧ gB m m' a := by
  obtain ⟨m1, e1, s1, g1⟩ := hX
  have hq := mt_T (T := T) (t := t) w p hp
  unfold RK
  rw [e1, obind]
  dsimp only
  by_cases e : mt T t w p = w.length
  · rw [e] at s1 hq
    obtain ⟨m2, e2, s2, g2⟩ := hg m1 (p + w.length) [] rfl hq s1
    rw [if_pos e, if_neg (by decide), if_pos e]
    exact ⟨m2, e2, s2, gB_tr g1 g2⟩
  · rw [if_neg e, if_pos rfl, if_neg e]
    exact ⟨m1, rfl, s1, g1⟩
theorem MS_code {m : pmI} {p : Nat} (h : MS m T t p a []) (x : Int32) : ∃ m', (pmU m.1 126 a x, m.2) = m' ∧ MS m' T t p a [] ∧ m'.1 126 a = x ∧ (∀ i, ¬ i = 126 → m'.1 i = m.1 i) ∧ m'.2 = m.2 ∧ ∀ b, ¬ b = a → m'.1 126 b = m.1 126 b := by
  obtain ⟨m1, e1, j1, o1, r1⟩ := w_1 m 126 a x
  exact ⟨m1, e1, ⟨⟨by rw [o1 113 (by decide)]; exact h.1.1, fun k hk => by rw [o1 125 (by decide)]; exact h.1.2 k hk⟩, by rw [o1 113 (by decide)]; exact h.2.1, fun i hi => absurd hi (Nat.not_lt_zero _)⟩, by rw [r1, if_pos rfl], o1, j1, fun b hb => by rw [r1, if_neg hb]⟩
/-- what reading one command leaves -/
def hBc (m m' : pmI) (a : Nat) : Prop := (∀ i, ¬ i = 113 → ¬ i = 126 → m'.1 i = m.1 i) ∧ m'.2 = m.2 ∧ (∀ x, ¬ x = 22 → ¬ x = 23 → m'.1 113 x = m.1 113 x) ∧ ∀ b, b < a → m'.1 126 b = m.1 126 b
theorem hBc_rf {m : pmI} : hBc m m a := ⟨fun _ _ _ => rfl, rfl, fun _ _ _ => rfl, fun _ _ => rfl⟩
theorem hBc_tr {m m1 m2 : pmI} (h1 : hBc m m1 a) (h2 : hBc m1 m2 a) : hBc m m2 a := ⟨fun i x y => (h2.1 i x y).trans (h1.1 i x y), h2.2.1.trans h1.2.1, fun x y w => (h2.2.2.1 x y w).trans (h1.2.2.1 x y w), fun b hb => (h2.2.2.2 b hb).trans (h1.2.2.2 b hb)⟩
theorem hBc_g {m m1 : pmI} (h : gB m m1 a) : hBc m m1 a := ⟨h.1, h.2.1, fun x y _ => h.2.2.1 x y, fun b hb => h.2.2.2 b (by omega)⟩
def kd (k : Nat) : Nat := if k = 0 then 112 else if k = 1 then 100 else if k = 2 then 97 else if k = 3 then 102 else if k = 4 then 101 else if k = 5 then 119 else if k = 6 then 120 else if k = 7 then 110 else 108
theorem za1 : z (a : Int) + z 1 = z ((a + 1 + 0 : Nat) : Int) := by rw [show z 1 = z (1 : Int) from rfl, z_add]; rfl
theorem za2 : z (a : Int) + z 2 = z ((a + 1 + 1 : Nat) : Int) := by rw [show z 2 = z (2 : Int) from rfl, z_add]; congr 1
theorem za3 : z (a : Int) + z 3 = z ((a + 1 + 2 : Nat) : Int) := by rw [show z 3 = z (3 : Int) from rfl, z_add]; congr 1
theorem bitt {b : Bool} {m : pmI} : (if z (if b = true then 1 else 0) = z 0 ∨ z (if b = true then 1 else 0) = z 1 then some (z (if b = true then 1 else 0), m) else none : Option (Int32 × pmI)) = some (z (if b = true then 1 else 0), m) := by
  cases b
  · exact if_pos (Or.inl rfl)
  · exact if_pos (Or.inr rfl)
end MCMD

