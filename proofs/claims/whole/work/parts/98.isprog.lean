/-! programs: the model's parse -/
section ISPROG
variable {n T : Nat} {t : Nat → Nat}
theorem m_isSign {a : Nat} (h : tOk T t) (ch : Nat) {m : pmI} {p : Nat} (hp : p ≤ T) (hch : ch ≤ 200) (hs : MS m T t p a []) : ∃ m1, fX9_isSign (z (ch : Int)) m = some (z (if sg T t p = (ch : Int) then 1 else 0), m1) ∧ MS m1 T t (if sg T t p = (ch : Int) then p + 1 else p) a [] ∧ gB m m1 a := by
  have hT := h.1
  have sb := sg_b h p
  unfold fX9_isSign jX9_isSign_13
  rw [m_now h hs.1 hs.2.1 (by omega), obind, hs.2.1]
  by_cases g : sg T t p = (ch : Int)
  · obtain ⟨m1, e1, s1, g1⟩ := MS_pos hs (z (p : Int) + z 1) (p + 1) (by rw [show z 1 = z (1 : Int) from rfl, z_add]; rfl)
    rw [if_pos (by rw [g]), if_neg z10, pmLet_eq, e1, if_pos (Or.inr rfl), if_pos g, if_pos g]
    exact ⟨m1, rfl, s1, g1⟩
  · obtain ⟨m1, e1, s1, g1⟩ := MS_pos hs (z (p : Int) + z 0) p (by rw [show z 0 = z (0 : Int) from rfl, z_add, Int.add_zero])
    rw [if_neg (zne (by omega)), if_pos rfl, pmLet_eq, e1, if_pos (Or.inl rfl), if_neg g, if_neg g]
    exact ⟨m1, rfl, s1, g1⟩
theorem MPR_gB {m m1 : pmI} {cs : List Cm} (h : MPR m cs) (g : gB m m1 (5 * cs.length)) : MPR m1 cs := by
  refine ⟨by rw [g.2.2.1 23 (by decide)]; exact h.1, fun i k as hi => ?_⟩
  have hlt := (List.getElem?_eq_some_iff.mp hi).1
  obtain ⟨a0, a1, a2⟩ := h.2 i k as hi
  exact ⟨a0, by rw [g.2.2.2 _ (by omega)]; exact a1, fun j hj => by rw [g.2.2.2 _ (by omega)]; exact a2 j hj⟩
theorem hBc_0 {m m1 : pmI} {a : Nat} (h : hBc m m1 a) : hBc m m1 0 := ⟨h.1, h.2.1, h.2.2.1, fun b hb => absurd hb (Nat.not_lt_zero b)⟩
theorem mT_h {m m1 : pmI} {a : Nat} (hm : mT m T t) (h : hBc m m1 a) : mT m1 T t := ⟨by rw [h.2.2.1 21 (by decide) (by decide)]; exact hm.1, fun k hk => by rw [h.1 125 (by decide) (by decide)]; exact hm.2 k hk⟩
theorem m_isProgL (h : tOk T t) (hn : 100 ≤ n) : ∀ (f q p : Nat) (m : pmI) (cs : List Cm), cs.length + f = 11 → f < q → p ≤ T → 6 * cs.length ≤ p → mT m T t → MPR m cs → m.1 113 22 = z (p : Int) → ∃ m', ((fX9_readsCommand n m).bind fun v3 => (lX9_isProgram_l15 n q v3.1 v3.2).bind fun w8 => jX9_isProgram_36 n w8.1 w8.2) = some (z (if (rProg T t f p cs).1 = true then 1 else 0), m') ∧ m'.1 113 22 = z ((rProg T t f p cs).2.1 : Int) ∧ hBc m m' 0 ∧ ((rProg T t f p cs).1 = true → MPR m' (rProg T t f p cs).2.2) := by
  have hT := h.1
  intro f
  induction f with
  | zero => intro q p m cs h1 h2 hp h6; omega
  | succ f ih =>
    intro q p m cs h1 h2 hp h6 hm hP h22
    obtain ⟨q, rfl⟩ : ∃ j, q = j + 1 := ⟨q - 1, by omega⟩
    obtain ⟨m1, e1, p1, b1, P1⟩ := m_readsCommand (n := n) h hn hm hp h22 hP h6
    have rb := rCmd_b (T := T) (t := t) hp
    rw [e1, obind]
    dsimp only
    rw [show lX9_isProgram_l15 n (q + 1) (z (if (rCmd T t p).1 = true then 1 else 0)) m1 = bX9_isProgram_l15 n (lX9_isProgram_l15 n q) (z (if (rCmd T t p).1 = true then 1 else 0)) m1 from rfl]
    unfold bX9_isProgram_l15 rProg
    by_cases ok : (rCmd T t p).1 = true
    · obtain ⟨c1, c2⟩ := rb.2 ok
      have hm1 := mT_h hm b1
      have hl2 : (cs ++ [(rCmd T t p).2.2]).length = cs.length + 1 := List.length_append
      obtain ⟨m2, e2, s2, g2⟩ := m_isSign (a := 5 * (cs ++ [(rCmd T t p).2.2]).length) h 59 (p := (rCmd T t p).2.1) (m := m1) rb.1 (by omega) ⟨hm1, p1, fun i hi => absurd hi (Nat.not_lt_zero _)⟩
      have e2 : fX9_isSign (z 59) m1 = some (z (if sg T t (rCmd T t p).2.1 = (59 : Int) then 1 else 0), m2) := e2
      have P2 := MPR_gB (P1 ok) g2
      have b2 := hBc_tr (hBc_0 b1) (hBc_0 (hBc_g g2))
      have s2 : MS m2 T t (if sg T t (rCmd T t p).2.1 = (59 : Int) then (rCmd T t p).2.1 + 1 else (rCmd T t p).2.1) (5 * (cs ++ [(rCmd T t p).2.2]).length) [] := s2
      rw [if_pos ok, if_pos ok, if_neg z10, e2, obind]
      dsimp only
      by_cases e59 : sg T t (rCmd T t p).2.1 = 59
      · have hlt := sg_lt (T := T) (t := t) (p := (rCmd T t p).2.1) (by omega)
        rw [if_pos e59] at s2
        obtain ⟨m3, e3, p3, b3, P3⟩ := ih q ((rCmd T t p).2.1 + 1) m2 (cs ++ [(rCmd T t p).2.2]) (by rw [hl2]; omega) (by omega) (by omega) (by rw [hl2]; omega) s2.1 P2 s2.2.1
        rw [if_pos e59, if_neg z10, if_neg (show ¬ (rCmd T t p).2.1 = T by omega), if_pos e59]
        refine ⟨m3, ?_, p3, hBc_tr b2 b3, P3⟩
        rw [Option.bind_assoc]
        exact e3
      · rw [if_neg e59] at s2
        rw [if_neg e59, if_pos rfl, obind]
        dsimp only
        unfold jX9_isProgram_36
        rw [if_neg z10, s2.2.1, s2.1.1]
        by_cases eT : (rCmd T t p).2.1 = T
        · rw [if_pos (by rw [eT]), if_pos eT]
          exact ⟨m2, rfl, by rw [s2.2.1, eT], b2, fun _ => P2⟩
        · rw [if_neg (zne (by omega)), if_neg eT, if_neg e59]
          exact ⟨m2, rfl, s2.2.1, b2, fun g => (nomatch (show false = true from g))⟩
    · rw [if_neg ok, if_neg ok, if_pos rfl, obind]
      dsimp only
      unfold jX9_isProgram_36
      rw [if_pos rfl]
      exact ⟨m1, rfl, p1, hBc_0 b1, fun g => (nomatch (show false = true from g))⟩
theorem m_isProgram (h : tOk T t) (hn : 100 ≤ n) {m : pmI} (hm : mT m T t) : ∃ m', fX9_isProgram n m = some (z (if (prog T t).1 = true then 1 else 0), m') ∧ m'.1 113 22 = z ((prog T t).2.1 : Int) ∧ hBc m m' 0 ∧ ((prog T t).1 = true → MPR m' (prog T t).2.2) := by
  obtain ⟨m1, e1, j1, o1, r1⟩ := w_1 m 113 22 (z 0)
  obtain ⟨m2, e2, j2, o2, r2⟩ := w_1 m1 113 23 (z 0)
  have b2 : hBc m m2 0 := ⟨fun i a b => by rw [o2 i a, o1 i a], by rw [j2, j1], fun x a b => by rw [r2, if_neg b, r1, if_neg a], fun b hb => absurd hb (Nat.not_lt_zero b)⟩
  obtain ⟨m3, e3, p3, b3, P3⟩ := m_isProgL (n := n) h hn 11 n 0 m2 [] rfl (by omega) (Nat.zero_le _) (Nat.le_refl _) (mT_h hm b2) ⟨by rw [r2, if_pos rfl]; rfl, fun i k as g => (nomatch g)⟩ (by rw [r2, if_neg (by decide), r1, if_pos rfl]; rfl)
  unfold fX9_isProgram
  rw [pmLet_eq, e1, pmLet_eq, e2]
  exact ⟨m3, e3, p3, hBc_tr b2 b3, P3⟩
end ISPROG
