/-! programs: how the class reads a whole text -/
abbrev Cm : Type := Nat × List Nat
def rCmd (T : Nat) (t : Nat → Nat) (p : Nat) : Bool × Nat × Cm := match (rW T t p 9 0 0).1 with
  | none => (false, (rW T t p 9 0 0).2, (0, []))
  | some k => ((rParts T t (sp k) (rW T t p 9 0 0).2 []).1, (rParts T t (sp k) (rW T t p 9 0 0).2 []).2.1, (k, (rParts T t (sp k) (rW T t p 9 0 0).2 []).2.2))
def rProg (T : Nat) (t : Nat → Nat) : Nat → Nat → List Cm → Bool × Nat × List Cm
  | 0, p, cs => (false, p, cs)
  | f + 1, p, cs => if (rCmd T t p).1 = true then (if (rCmd T t p).2.1 = T then (true, T, cs ++ [(rCmd T t p).2.2]) else if sg T t (rCmd T t p).2.1 = 59 then rProg T t f ((rCmd T t p).2.1 + 1) (cs ++ [(rCmd T t p).2.2]) else (false, (rCmd T t p).2.1, cs)) else (false, (rCmd T t p).2.1, cs)
theorem rW_b {T : Nat} {t : Nat → Nat} {p : Nat} (hp : p ≤ T) : ∀ (d i far : Nat), p + far ≤ T → (rW T t p d i far).2 ≤ T ∧ ∀ k, (rW T t p d i far).1 = some k → (k < i + d ∧ i ≤ k) ∧ (rW T t p d i far).2 = p + (wd k).length ∧ mt T t (wd k) p = (wd k).length
  | 0, i, far, h => ⟨h, fun k g => (nomatch g)⟩
  | d + 1, i, far, h => by
    have hm := mt_T (T := T) (t := t) (wd i) p hp
    unfold rW
    by_cases e : mt T t (wd i) p = (wd i).length
    · rw [if_pos e]
      refine ⟨by show p + (wd i).length ≤ T; omega, fun k g => ?_⟩
      have g : some i = some k := g
      cases g
      exact ⟨⟨by omega, Nat.le_refl _⟩, rfl, e⟩
    · rw [if_neg e]
      obtain ⟨a, b⟩ := rW_b hp d (i + 1) (max far (mt T t (wd i) p)) (by omega)
      refine ⟨a, fun k g => ?_⟩
      obtain ⟨c, d2⟩ := b k g
      exact ⟨by omega, d2⟩
theorem wd_5 : ∀ k, k < 9 → 5 ≤ (wd k).length := by decide
theorem rCmd_b {T : Nat} {t : Nat → Nat} {p : Nat} (hp : p ≤ T) : (rCmd T t p).2.1 ≤ T ∧ ((rCmd T t p).1 = true → p + 5 ≤ (rCmd T t p).2.1 ∧ (rCmd T t p).2.2.1 < 9) := by
  have rb := rW_b (T := T) (t := t) hp 9 0 0 hp
  unfold rCmd
  cases hr : (rW T t p 9 0 0).1 with
  | none => exact ⟨rb.1, fun g => (nomatch (show false = true from g))⟩
  | some k =>
    obtain ⟨a, b, -⟩ := rb.2 k hr
    have c := rParts_b (T := T) (t := t) (sp k) (rW T t p 9 0 0).2 [] rb.1
    have := wd_5 k (by omega)
    exact ⟨c.2, fun _ => ⟨by show p + 5 ≤ (rParts T t (sp k) (rW T t p 9 0 0).2 []).2.1; omega, by show k < 9; omega⟩⟩
def PRG (m : pmI) (cs : List Cm) : Prop := m.1 107 2 = z (cs.length : Int) ∧ ∀ i k as, cs[i]? = some (k, as) → (k < 9 ∧ List.length as ≤ 3) ∧ m.1 109 i = z ((k : Nat) : Int) ∧ ∀ j, j < List.length as → m.1 110 (3 * i + j) = z ((as.getD j 0 : Nat) : Int)
section CPARSE
variable {n T : Nat} {t : Nat → Nat}
theorem rParts_na {T : Nat} {t : Nat → Nat} : ∀ (w : List Nat) (p : Nat) (as : List Nat), (rParts T t w p as).2.2.length ≤ as.length + na w
  | [], _, _ => Nat.le_refl _
  | c :: w, p, as => by
    have h1 := rPart_na (T := T) (t := t) (ch := c) (p := p) (as := as)
    have h2 := na_cons c w
    unfold rParts
    split
    · have := rParts_na (T := T) (t := t) w (rPart T t c p as).2.1 (rPart T t c p as).2.2
      omega
    · show (rPart T t c p as).2.2.length ≤ _
      omega
theorem c_fin {m : pmI} {q k : Nat} {as : List Nat} {cs : List Cm} (hs : CS m q cs.length as) (hc : cs.length < 10) (ha : as.length ≤ 3) (hk9 : k < 9) (hP : ∀ i k as, cs[i]? = some (k, as) → (k < 9 ∧ List.length as ≤ 3) ∧ m.1 109 i = z ((k : Nat) : Int) ∧ ∀ j, j < List.length as → m.1 110 (3 * i + j) = z ((as.getD j 0 : Nat) : Int)) : ∃ m', ((fX8_set_109 (m.1 107 2) (z (k : Int)) m).bind fun v10 => pmLet ((pmU v10.1 107 2 ((v10.1 107 2) + (z 1))), v10.2) fun m11 => some ((z 1), m11)) = some (z 1, m') ∧ m'.1 107 5 = z (q : Int) ∧ dfrP m m' ∧ PRG m' (cs ++ [(k, as)]) := by
  obtain ⟨m1, e1, j1, o1, r1⟩ := w_1 m 109 cs.length (z (k : Int))
  obtain ⟨m2, e2, f2, r2, q1, q2⟩ := w_107 m1 2 (m1.1 107 2 + z 1) (by decide)
  rw [hs.2.1, s_109 hc, obind, e1, pmLet_eq, e2]
  refine ⟨m2, rfl, by rw [r2, if_neg (by decide), o1 107 (by decide)]; exact hs.1, dfrP_tr ⟨fun i _ b _ => o1 i b, j1, by rw [o1 107 (by decide)]⟩ f2, ?_, fun i k' as' hi => ?_⟩
  · rw [r2, if_pos rfl, o1 107 (by decide), hs.2.1, show z 1 = z (1 : Int) from rfl, z_add, List.length_append]
    rfl
  · by_cases e : i < cs.length
    · rw [List.getElem?_append_left e] at hi
      obtain ⟨a0, a, b⟩ := hP i k' as' hi
      exact ⟨a0, by rw [q1, r1, if_neg (by omega)]; exact a, fun j hj => by rw [q2, o1 110 (by decide)]; exact b j hj⟩
    · have hlt := (List.getElem?_eq_some_iff.mp hi).1
      rw [List.length_append] at hlt
      have hlt : i < cs.length + 1 := hlt
      have ei : i = cs.length := by omega
      rw [List.getElem?_append_right (by omega), ei, Nat.sub_self] at hi
      have hi : some (k, as) = some (k', as') := hi
      cases hi
      rw [ei]
      exact ⟨⟨hk9, ha⟩, by rw [q1, r1, if_pos rfl], fun j hj => by rw [q2, o1 110 (by decide)]; exact hs.2.2.2 j hj⟩
theorem c_readCommand (h : tOk T t) (hn : 100 ≤ n) {m : pmI} {p : Nat} {cs : List Cm} (hm : cT m T t) (hp : p ≤ T) (h5 : m.1 107 5 = z (p : Int)) (hP : PRG m cs) (h6 : 6 * cs.length ≤ p) : ∃ m', fX4_readCommand_107 n m = some (z (if (rCmd T t p).1 = true then 1 else 0), m') ∧ m'.1 107 5 = z ((rCmd T t p).2.1 : Int) ∧ dfrP m m' ∧ ((rCmd T t p).1 = true → PRG m' (cs ++ [(rCmd T t p).2.2])) := by
  have hT := h.1
  obtain ⟨m1, e1, f1, s1, o1, o2⟩ := c_readWord (n := n) h hm ⟨h5, hP.1⟩ hp hn
  have rb := rW_b (T := T) (t := t) hp 9 0 0 hp
  unfold fX4_readCommand_107 rCmd
  rw [e1, obind]
  dsimp only
  cases hr : (rW T t p 9 0 0).1 with
  | none =>
    rw [oz_n, if_pos rfl]
    exact ⟨m1, rfl, s1.1, f1, fun g => (nomatch (show false = true from g))⟩
  | some k =>
    obtain ⟨a, b, b2⟩ := rb.2 k hr
    have w5 := wd_5 k (by omega)
    have hc : cs.length < 10 := by omega
    obtain ⟨m2, e2, f2, r2, q1, q2⟩ := w_107 m1 6 (z 0) (by decide)
    have s2 : CS m2 (rW T t p 9 0 0).2 cs.length [] := ⟨by rw [r2, if_neg (by decide)]; exact s1.1, by rw [r2, if_neg (by decide)]; exact s1.2, by rw [r2, if_pos rfl]; rfl, fun i hi => absurd hi (Nat.not_lt_zero _)⟩
    have hm2 := cT_f (cT_f hm f1) f2
    have hz : ¬ z (oz (some k)) = z (-1) := by rw [oz_s]; exact zne (by omega)
    have hna := rParts_na (T := T) (t := t) (sp k) (rW T t p 9 0 0).2 []
    have hsp : na (sp k) ≤ 3 := (show ∀ k, k < 9 → na (sp k) ≤ 3 by decide) k (by omega)
    have hlen : (rParts T t (sp k) (rW T t p 9 0 0).2 []).2.2.length ≤ 3 := by
      have : ([] : List Nat).length = 0 := rfl
      omega
    rw [if_neg hz, pmLet_eq, e2, oz_s]
    have fin : ∀ (X : Option (pmI ⊕ (Int32 × pmI))), (∃ m', X = some (if (rParts T t (sp k) (rW T t p 9 0 0).2 []).1 = true then .inl m' else .inr (z 0, m')) ∧ CS m' (rParts T t (sp k) (rW T t p 9 0 0).2 []).2.1 cs.length (rParts T t (sp k) (rW T t p 9 0 0).2 []).2.2 ∧ gA m2 m' cs.length) → ∃ m', (X.bind (oS fun w9 => (fX8_set_109 (w9.1 107 2) (z (k : Int)) w9).bind fun v10 => pmLet ((pmU v10.1 107 2 ((v10.1 107 2) + (z 1))), v10.2) fun m11 => some ((z 1), m11))) = some (z (if (rParts T t (sp k) (rW T t p 9 0 0).2 []).1 = true then 1 else 0), m') ∧ m'.1 107 5 = z ((rParts T t (sp k) (rW T t p 9 0 0).2 []).2.1 : Int) ∧ dfrP m m' ∧ ((rParts T t (sp k) (rW T t p 9 0 0).2 []).1 = true → PRG m' (cs ++ [(k, (rParts T t (sp k) (rW T t p 9 0 0).2 []).2.2)])) := fun X hX => by
      obtain ⟨m3, e3, s3, g3⟩ := hX
      have d3 : dfrP m m3 := dfrP_tr f1 (dfrP_tr f2 g3.1)
      rw [e3, obind]
      by_cases ok : (rParts T t (sp k) (rW T t p 9 0 0).2 []).1 = true
      · obtain ⟨m4, e4, p4, d4, P4⟩ := c_fin (k := k) s3 hc hlen (by omega) (fun i k' as' hi => by
          have hlt := (List.getElem?_eq_some_iff.mp hi).1
          obtain ⟨x0, x1, x2⟩ := hP.2 i k' as' hi
          refine ⟨x0, by rw [g3.2.1, q1, o1]; exact x1, fun j hj => ?_⟩
          rw [g3.2.2 _ (by omega), q2, o2]
          exact x2 j hj)
        rw [if_pos ok, oS_l, e4, if_pos ok]
        exact ⟨m4, rfl, p4, dfrP_tr d3 d4, fun _ => P4⟩
      · rw [if_neg ok, oS_r, if_neg ok]
        exact ⟨m3, rfl, s3.1, d3, fun g => absurd g ok⟩
    show ∃ m', _ = some (z (if (rParts T t (sp k) (rW T t p 9 0 0).2 []).1 = true then 1 else 0), m') ∧ m'.1 107 5 = z ((rParts T t (sp k) (rW T t p 9 0 0).2 []).2.1 : Int) ∧ dfrP m m' ∧ ((rParts T t (sp k) (rW T t p 9 0 0).2 []).1 = true → PRG m' (cs ++ [(k, (rParts T t (sp k) (rW T t p 9 0 0).2 []).2.2)]))
    unfold fX4_shapeOf
    have hk : k = 0 ∨ k = 1 ∨ k = 2 ∨ k = 3 ∨ k = 4 ∨ k = 5 ∨ k = 6 ∨ k = 7 ∨ k = 8 := by omega
    rcases hk with rfl | rfl | rfl | rfl | rfl | rfl | rfl | rfl | rfl

    · rw [if_pos (show z ((0 : Nat) : Int) = z 0 from rfl), obind, if_pos rfl]
      exact fin _ (sh100009 (n := n) h hn hc rb.1 hm2 s2)
    · rw [if_neg (by decide), if_pos (show z ((1 : Nat) : Int) = z 1 from rfl), obind, if_neg (by decide), if_pos rfl]
      exact fin _ (sh100010 (n := n) h hn hc rb.1 hm2 s2)
    · rw [if_neg (by decide), if_neg (by decide), if_pos (show z ((2 : Nat) : Int) = z 2 from rfl), obind, if_neg (by decide), if_neg (by decide), if_pos rfl]
      exact fin _ (sh100011 (n := n) h hn hc rb.1 hm2 s2)
    · rw [if_neg (by decide), if_neg (by decide), if_neg (by decide), if_pos (show z ((3 : Nat) : Int) = z 3 from rfl), obind, if_neg (by decide), if_neg (by decide), if_neg (by decide), if_pos rfl]
      exact fin _ (sh100012 (n := n) h hn hc rb.1 hm2 s2)
    · rw [if_neg (by decide), if_neg (by decide), if_neg (by decide), if_neg (by decide), if_pos (show z ((4 : Nat) : Int) = z 4 from rfl), obind, if_neg (by decide), if_neg (by decide), if_neg (by decide), if_neg (by decide), if_pos rfl]
      exact fin _ (sh100013 (n := n) h hn hc rb.1 hm2 s2)
    · rw [if_neg (by decide), if_neg (by decide), if_neg (by decide), if_neg (by decide), if_neg (by decide), if_pos (show z ((5 : Nat) : Int) = z 5 from rfl), obind, if_neg (by decide), if_neg (by decide), if_neg (by decide), if_neg (by decide), if_neg (by decide), if_pos rfl]
      exact fin _ (sh100014 (n := n) h hn hc rb.1 hm2 s2)
    · rw [if_neg (by decide), if_neg (by decide), if_neg (by decide), if_neg (by decide), if_neg (by decide), if_neg (by decide), if_pos (show z ((6 : Nat) : Int) = z 6 from rfl), obind, if_pos rfl]
      exact fin _ (sh100009 (n := n) h hn hc rb.1 hm2 s2)
    · rw [if_neg (by decide), if_neg (by decide), if_neg (by decide), if_neg (by decide), if_neg (by decide), if_neg (by decide), if_neg (by decide), if_pos (show z ((7 : Nat) : Int) = z 7 from rfl), obind, if_neg (by decide), if_neg (by decide), if_neg (by decide), if_neg (by decide), if_neg (by decide), if_neg (by decide), if_pos rfl]
      exact fin _ (sh100015 (n := n) h hn hc rb.1 hm2 s2)
    · rw [if_neg (by decide), if_neg (by decide), if_neg (by decide), if_neg (by decide), if_neg (by decide), if_neg (by decide), if_neg (by decide), if_neg (by decide), obind, if_neg (by decide), if_neg (by decide), if_neg (by decide), if_neg (by decide), if_neg (by decide), if_neg (by decide), if_neg (by decide), if_pos rfl]
      exact fin _ (sh100016 (n := n) h hn hc rb.1 hm2 s2)
theorem c_parseL (h : tOk T t) (hn : 100 ≤ n) : ∀ (f i p q : Nat) (m : pmI) (cs : List Cm), i + f = 11 → f < q → p ≤ T → 6 * cs.length ≤ p → cs.length = i → cT m T t → PRG m cs → m.1 107 5 = z (p : Int) → ∃ m', lX4_parse_107_l12 n q (z (i : Int)) m = some (.inr (z (if (rProg T t f p cs).1 = true then -1 else ((rProg T t f p cs).2.1 : Int)), m')) ∧ dfrP m m' ∧ ((rProg T t f p cs).1 = true → PRG m' (rProg T t f p cs).2.2) := by
  have hT := h.1
  intro f
  induction f with
  | zero => intro i p q m cs h1 h2 hp h6 hl; omega
  | succ f ih =>
    intro i p q m cs h1 h2 hp h6 hl hm hP h5
    obtain ⟨q, rfl⟩ : ∃ j, q = j + 1 := ⟨q - 1, by omega⟩
    obtain ⟨m1, e1, p1, f1, P1⟩ := c_readCommand (n := n) h hn hm hp h5 hP h6
    have rb := rCmd_b (T := T) (t := t) hp
    show ∃ m', bX4_parse_107_l12 n (lX4_parse_107_l12 n q) (z (i : Int)) m = _ ∧ _
    unfold bX4_parse_107_l12 rProg
    rw [if_neg (zge (by omega)), e1, obind]
    dsimp only
    by_cases ok : (rCmd T t p).1 = true
    · obtain ⟨b1, b2⟩ := rb.2 ok
      have hm1 := cT_f hm f1
      rw [if_pos ok, if_neg z10, p1, hm1.1, if_pos ok]
      by_cases eT : (rCmd T t p).2.1 = T
      · rw [if_pos (by rw [eT]), if_pos eT]
        exact ⟨m1, rfl, f1, fun _ => P1 ok⟩
      · have sb := sg_b h (rCmd T t p).2.1
        rw [if_neg (zne (by omega)), if_neg eT]
        unfold fX4_readSign_107
        rw [p1, c_sg h hm1 (by omega), obind]
        by_cases e59 : sg T t (rCmd T t p).2.1 = 59
        · have hlt := sg_lt (T := T) (t := t) (p := (rCmd T t p).2.1) (by omega)
          obtain ⟨m2, e2, f2, r2, q1, q2⟩ := w_107 m1 5 (z ((rCmd T t p).2.1 : Int) + z 1) (by decide)
          have P2 : PRG m2 (cs ++ [(rCmd T t p).2.2]) := by
            unfold PRG
            rw [q1, q2, r2, if_neg (by decide)]
            exact P1 ok
          have hl2 : (cs ++ [(rCmd T t p).2.2]).length = cs.length + 1 := List.length_append
          obtain ⟨m3, e3, f3, P3⟩ := ih (i + 1) ((rCmd T t p).2.1 + 1) q m2 (cs ++ [(rCmd T t p).2.2]) (by omega) (by omega) (by omega) (by rw [hl2]; omega) (by rw [hl2, hl]) (cT_f hm1 f2) P2 (by rw [r2, if_pos rfl, show z 1 = z (1 : Int) from rfl, z_add]; rfl)
          rw [if_pos (by rw [e59]), pmLet_eq, e2, obind, if_pos e59]
          dsimp only
          rw [if_neg z10, show z 1 = z (1 : Int) from rfl, z_add]
          exact ⟨m3, e3, dfrP_tr f1 (dfrP_tr f2 f3), P3⟩
        · rw [if_neg (zne (by omega)), obind, if_neg e59]
          dsimp only
          rw [if_pos rfl, p1]
          exact ⟨m1, rfl, f1, fun g => (nomatch (show false = true from g))⟩
    · rw [if_neg ok, if_pos rfl, p1, if_neg ok]
      exact ⟨m1, rfl, f1, fun g => (nomatch (show false = true from g))⟩
/-- the program of a text -/
def prog (T : Nat) (t : Nat → Nat) : Bool × Nat × List Cm := rProg T t 11 0 []
theorem c_parse (h : tOk T t) (hn : 100 ≤ n) {m : pmI} (hm : cT m T t) : ∃ m', fX4_parse_107 n m = some (z (if (prog T t).1 = true then -1 else ((prog T t).2.1 : Int)), m') ∧ dfrP m m' ∧ ((prog T t).1 = true → PRG m' (prog T t).2.2) := by
  obtain ⟨m1, e1, f1, r1, o1, o2⟩ := w_107 m 2 (z 0) (by decide)
  obtain ⟨m2, e2, f2, r2, q1, q2⟩ := w_107 m1 5 (z 0) (by decide)
  obtain ⟨m3, e3, f3, P3⟩ := c_parseL (n := n) h hn 11 0 0 n m2 [] rfl (by omega) (Nat.zero_le _) (Nat.le_refl _) rfl (cT_f (cT_f hm f1) f2) ⟨by rw [r2, if_neg (by decide), r1, if_pos rfl]; rfl, fun i k as g => (nomatch g)⟩ (by rw [r2, if_pos rfl]; rfl)
  have e3 : lX4_parse_107_l12 n n (z 0) m2 = _ := e3
  unfold fX4_parse_107
  rw [pmLet_eq, e1, pmLet_eq, e2, e3, obind, oS_r]
  exact ⟨m3, rfl, dfrP_tr f1 (dfrP_tr f2 f3), P3⟩
end CPARSE

