/-! areas: the class unites -/
theorem inj_cnt {P : Nat → Bool} {N : Nat} (f : Nat → Nat) : ∀ (n : Nat) (Q : Nat → Bool), (∀ a, a < n → P a = true → f a < N ∧ Q (f a) = true) → (∀ a b, a < n → b < n → P a = true → P b = true → f a = f b → a = b) → cnt P n ≤ cnt Q N
  | 0, _, _, _ => Nat.zero_le _
  | n + 1, Q, h1, h2 => by
    rw [cnt_s]
    by_cases hp : P n = true
    · rw [if_pos hp]
      have hq := h1 n (by omega) hp
      have c := cnt_clr hq.2 hq.1
      have ih := inj_cnt f n (fun k => if k = f n then false else Q k) (fun a ha hpa => ⟨(h1 a (by omega) hpa).1, by
        show (if f a = f n then false else Q (f a)) = true
        rw [if_neg (fun e => by have := h2 a n (by omega) (by omega) hpa hp e; omega)]
        exact (h1 a (by omega) hpa).2⟩) (fun a b ha hb => h2 a b (by omega) (by omega))
      omega
    · rw [if_neg hp]
      have ih := inj_cnt f n Q (fun a ha => h1 a (by omega)) (fun a b ha hb => h2 a b (by omega) (by omega))
      omega
theorem cnt_not (P : Nat → Bool) : ∀ n : Nat, cnt (fun x => !P x) n + cnt P n = n
  | 0 => rfl
  | n + 1 => by
    have ih := cnt_not P n
    rw [cnt_s, cnt_s]
    cases P n with
    | true =>
      rw [if_neg (show ¬ (!true) = true by decide), if_pos rfl]
      omega
    | false =>
      rw [if_pos (show (!false) = true by decide), if_neg (by decide)]
      omega
def roots (P : Nat → Bool) (r : Nat → Nat) : Nat := cnt (fun x => !P x && decide (r x = x)) 64
def UF (P : Nat → Bool) (p r dp : Nat → Nat) : Prop :=
  (∀ c, c < 64 → p c < 64 ∧ r c < 64) ∧ (∀ c, c < 64 → dp c = 0 → p c = c ∧ r c = c) ∧ (∀ c, c < 64 → ¬ dp c = 0 → dp (p c) + 1 = dp c ∧ r (p c) = r c) ∧ (∀ c, c < 64 → dp (r c) = 0) ∧
  (∀ c, c < 64 → P c = false → K P c (r c) = true) ∧ (∀ c, c < 64 → P c = true → r c = c) ∧ ∀ c, c < 64 → dp c + roots P r ≤ 64
def UR (m : pmI) (p : Nat → Nat) : Prop := ∀ c, c < 64 → m.1 93 c = z (p c)
theorem UF_rr {P : Nat → Bool} {p r dp : Nat → Nat} (h : UF P p r dp) {c : Nat} (hc : c < 64) : r (r c) = r c := (h.2.1 (r c) (h.1 c hc).2 (h.2.2.2.1 c hc)).2
theorem UF_op {P : Nat → Bool} {p r dp : Nat → Nat} (h : UF P p r dp) {c : Nat} (hc : c < 64) (ho : P c = false) : P (r c) = false := K_op ho (h.2.2.2.2.1 c hc ho)
theorem cnt_pos {P : Nat → Bool} {c : Nat} (hp : P c = true) : ∀ {n : Nat}, c < n → 1 ≤ cnt P n := fun {n} hc => by
  have := cnt_clr hp hc
  omega
theorem UF_dp {P : Nat → Bool} {p r dp : Nat → Nat} (h : UF P p r dp) {c : Nat} (hc : c < 64) (ho : P c = false) : dp c ≤ 63 := by
  have h1 := h.2.2.2.2.2.2 c hc
  have h2 : 1 ≤ roots P r := cnt_pos (c := r c) (by
    show (!P (r c) && decide (r (r c) = r c)) = true
    rw [UF_op h hc ho, decide_eq_true (UF_rr h hc)]
    rfl) (h.1 c hc).2
  omega
section UNITE
variable {n : Nat} {m : pmI}
theorem uf_root {P : Nat → Bool} {p r dp : Nat → Nat} (h : UF P p r dp) (hr : UR m p) (hn : 100 ≤ n) {c : Nat} (hc : c < 64) (ho : P c = false) : fX0_rootOf_91 n (z (c : Int)) m = some (z (r c)) := by
  have key : ∀ (d c t k : Nat), dp c = d → c < 64 → t + d ≤ 63 → d < k → lX0_rootOf_91_l4 n m k (z (c : Int)) (z (t : Int)) = some (z (r c)) := by
    intro d
    induction d with
    | zero =>
      intro c t k h1 h2 h3 h4
      obtain ⟨k, rfl⟩ : ∃ j, k = j + 1 := ⟨k - 1, by omega⟩
      obtain ⟨g1, g2⟩ := h.2.1 c h2 h1
      show bX0_rootOf_91_l4 n m (lX0_rootOf_91_l4 n m k) (z (c : Int)) (z (t : Int)) = _
      unfold bX0_rootOf_91_l4
      rw [if_pos (zlt (by omega)), a_93 h2, obind, hr c h2, g1, if_pos rfl, g2]
    | succ d ih =>
      intro c t k h1 h2 h3 h4
      obtain ⟨k, rfl⟩ : ∃ j, k = j + 1 := ⟨k - 1, by omega⟩
      obtain ⟨g1, g2⟩ := h.2.2.1 c h2 (by omega)
      have g3 := (h.1 c h2).1
      show bX0_rootOf_91_l4 n m (lX0_rootOf_91_l4 n m k) (z (c : Int)) (z (t : Int)) = _
      unfold bX0_rootOf_91_l4
      rw [if_pos (zlt (by omega)), a_93 h2, obind, hr c h2, if_neg (zne ⟨by omega, fun e => by
        have e : p c = c := by omega
        rw [e] at g1
        omega⟩), obind, z_add, ← g2]
      exact ih (p c) (t + 1) k (by omega) g3 (by omega) (by omega)
  have := UF_dp h hc ho
  unfold fX0_rootOf_91
  rw [show z 0 = z ((0 : Nat) : Int) from rfl, key (dp c) c 0 n rfl hc (by omega) (by omega), obind]
theorem uf_unite {P : Nat → Bool} {cl : Int64} {p r dp : Nat → Nat} (hP : ∀ c, c < 64 → bt cl c = P c) (h : UF P p r dp) (hr : UR m p) (hn : 100 ≤ n) {c d : Nat} (hc : c < 64) (hd : d < 4) (ho : P c = false) : ∃ v p' r' dp' m', fX0_unite_91 n (z (c : Int)) (z (oz (nb c d))) cl m = some (z ((v : Nat) : Int), m') ∧ UF P p' r' dp' ∧ UR m' p' ∧ roots P r' + v = roots P r ∧ (∀ x y, x < 64 → y < 64 → r x = r y → r' x = r' y) ∧ (∀ e, nb c d = some e → P e = false → r' c = r' e) ∧ afr m m' := by
  have no : (∀ e, nb c d = some e → P e = false → r c = r e) → ∃ v p' r' dp' m', some (z 0, m) = some (z ((v : Nat) : Int), m') ∧ UF P p' r' dp' ∧ UR m' p' ∧ roots P r' + v = roots P r ∧ (∀ x y, x < 64 → y < 64 → r x = r y → r' x = r' y) ∧ (∀ e, nb c d = some e → P e = false → r' c = r' e) ∧ afr m m' := fun hw => ⟨0, p, r, dp, m, rfl, h, hr, rfl, fun _ _ _ _ => id, hw, afr_rf⟩
  unfold fX0_unite_91
  cases he : nb c d with
  | none =>
    rw [oz_n, if_pos rfl]
    rw [he] at no
    exact no (fun e h => nomatch h)
  | some e =>
    have he64 := nb_lt hc he
    rw [oz_s, if_neg (zne (by omega)), f_holds _ he64, obind, hP e he64]
    by_cases hp : P e = true
    · rw [if_pos hp, if_neg z10]
      rw [he] at no
      exact no (fun e' h hq => by
        cases h
        rw [hp] at hq; cases hq)
    · have hp' := Bool.eq_false_iff.mpr hp
      rw [if_neg hp, if_pos rfl, uf_root h hr hn hc ho, obind, uf_root h hr hn he64 hp', obind]
      have b1 := (h.1 c hc).2
      have b2 := (h.1 e he64).2
      by_cases hre : r c = r e
      · rw [if_pos (by rw [hre])]
        rw [he] at no
        exact no (fun e' h hq => by
          cases h
          exact hre)
      · obtain ⟨m1, e1, j1, o1, q1⟩ := w_1 m 93 (r e) (z (r c : Int))
        rw [if_neg (zne (by omega)), s_93 b2, obind, e1]
        obtain ⟨u1, u2, u3, u4, u5, u6, u7⟩ := h
        have h0 : UF P p r dp := ⟨u1, u2, u3, u4, u5, u6, u7⟩
        have rc := UF_rr h0 hc
        have re := UF_rr h0 he64
        have hroots : roots P (fun x => if r x = r e then r c else r x) + 1 = roots P r := by
          have key := cnt_clr (P := fun x => !P x && decide (r x = x)) (c := r e) (by
            show (!P (r e) && decide (r (r e) = r e)) = true
            rw [UF_op h0 he64 hp', decide_eq_true re]
            rfl) b2
          unfold roots
          rw [← key]
          congr 1
          refine cnt_congr fun x hx => ?_
          show (!P x && decide ((if r x = r e then r c else r x) = x)) = if x = r e then false else (!P x && decide (r x = x))
          by_cases e0 : x = r e
          · rw [if_pos e0, e0, re, if_pos rfl, decide_eq_false hre, Bool.and_false]
          · rw [if_neg e0]
            by_cases e2 : r x = r e
            · rw [if_pos e2, decide_eq_false (show ¬ r x = x from fun h => e0 (by omega)), decide_eq_false (fun h => by
                rw [← h, rc] at e2
                exact hre e2)]
            · rw [if_neg e2]
        refine ⟨1, fun x => if x = r e then r c else p x, fun x => if r x = r e then r c else r x, fun x => if r x = r e then dp x + 1 else dp x, m1, rfl, ⟨fun x hx => ?_, fun x hx h1 => ?_, fun x hx h1 => ?_, fun x hx => ?_, fun x hx h1 => ?_, fun x hx h1 => ?_, fun x hx => ?_⟩, fun x hx => ?_, hroots, fun x y hx hy hxy => ?_, fun e' h1 h2 => ?_, afr_93 j1 o1⟩
        · try dsimp only
          have := u1 x hx
          constructor
          · split <;> omega
          · split <;> omega
        · have h1 : (if r x = r e then dp x + 1 else dp x) = 0 := h1
          show (if x = r e then r c else p x) = x ∧ (if r x = r e then r c else r x) = x
          by_cases e0 : r x = r e
          · rw [if_pos e0] at h1; omega
          · rw [if_neg e0] at h1 ⊢
            obtain ⟨g1, g2⟩ := u2 x hx h1
            rw [if_neg (fun h => e0 (by rw [h, re]))]
            exact ⟨g1, g2⟩
        · have h1 : ¬ (if r x = r e then dp x + 1 else dp x) = 0 := h1
          show (if r (if x = r e then r c else p x) = r e then dp (if x = r e then r c else p x) + 1 else dp (if x = r e then r c else p x)) + 1 = (if r x = r e then dp x + 1 else dp x) ∧ (if r (if x = r e then r c else p x) = r e then r c else r (if x = r e then r c else p x)) = (if r x = r e then r c else r x)
          by_cases e0 : x = r e
          · rw [if_pos e0, rc, if_neg hre, if_neg hre, e0, re, if_pos rfl, if_pos rfl, u4 c hc, u4 e he64]
            exact ⟨rfl, rfl⟩
          · rw [if_neg e0]
            have hdx : ¬ dp x = 0 := fun h => by
              obtain ⟨-, g2⟩ := u2 x hx h
              by_cases e2 : r x = r e
              · exact e0 (by rw [← g2]; exact e2)
              · rw [if_neg e2] at h1
                exact h1 h
            obtain ⟨g1, g2⟩ := u3 x hx hdx
            rw [g2]
            by_cases e2 : r x = r e
            · rw [if_pos e2, if_pos e2, if_pos e2]
              exact ⟨by omega, rfl⟩
            · rw [if_neg e2, if_neg e2, if_neg e2]
              exact ⟨g1, rfl⟩
        · show (if r (if r x = r e then r c else r x) = r e then dp (if r x = r e then r c else r x) + 1 else dp (if r x = r e then r c else r x)) = 0
          by_cases e2 : r x = r e
          · rw [if_pos e2, rc, if_neg hre]
            exact u4 c hc
          · rw [if_neg e2, UF_rr h0 hx, if_neg e2]
            exact u4 x hx
        · show K P x (if r x = r e then r c else r x) = true
          by_cases e2 : r x = r e
          · rw [if_pos e2]
            have k1 := u5 x hx h1
            rw [e2] at k1
            have k2 := K_sy he64 hp' (u5 e he64 hp')
            have k3 : K P e c = true := K_st he64 he64 K_rf (adj_sym hc (adj_of hd he)) ho
            exact K_tr hx b2 k1 (K_tr b2 he64 k2 (K_tr he64 hc k3 (u5 c hc ho)))
          · rw [if_neg e2]
            exact u5 x hx h1
        · show (if r x = r e then r c else r x) = x
          have g := u6 x hx h1
          rw [if_neg (fun h => by
            have h3 := UF_op h0 he64 hp'
            rw [← h, g, h1] at h3
            cases h3)]
          exact g
        · show (if r x = r e then dp x + 1 else dp x) + roots P (fun x => if r x = r e then r c else r x) ≤ 64
          have g := u7 x hx
          split <;> omega
        · rw [q1]
          try dsimp only
          by_cases e0 : x = r e
          · rw [if_pos e0, if_pos e0]
          · rw [if_neg e0, if_neg e0]
            exact hr x hx
        · try dsimp only
          rw [hxy]
        · try dsimp only
          cases h1
          rw [if_neg hre, if_pos rfl]
theorem nb_12 : ∀ a : Nat, a < 64 → ∀ b : Nat, b < 64 → (nb a 1 = some b → nb b 0 = some a) ∧ (nb a 2 = some b → nb b 3 = some a) := by decide +kernel
theorem uf_K {P : Nat → Bool} {r : Nat → Nat} (h : ∀ c, c < 64 → P c = false → ∀ e, nb c 3 = some e ∨ nb c 0 = some e → P e = false → r c = r e) {a : Nat} (ha : a < 64) (hp : P a = false) : ∀ {k c : Nat}, R P a k c = true → r a = r c
  | 0, c, hr => by rw [R_z.mp hr]
  | k + 1, c, hr => by
    rcases R_s.mp hr with h1 | ⟨h1, e, h2, h3, h4⟩
    · exact uf_K h ha hp h1
    · rw [uf_K h ha hp h4]
      have he := K_op hp (K_of ha h4)
      have hc := R_lt ha hr
      obtain ⟨d, hd, hn⟩ := adj_ex h3
      rcases (show d = 0 ∨ d = 1 ∨ d = 2 ∨ d = 3 by omega) with rfl | rfl | rfl | rfl
      · exact h e h2 he c (Or.inr hn) h1
      · exact (h c hc h1 e (Or.inr ((nb_12 e h2 c hc).1 hn)) he).symm
      · exact (h c hc h1 e (Or.inl ((nb_12 e h2 c hc).2 hn)) he).symm
      · exact h e h2 he c (Or.inl hn) h1
theorem uf_lead {P : Nat → Bool} {p r dp : Nat → Nat} (hu : UF P p r dp) (h : ∀ c, c < 64 → P c = false → ∀ e, nb c 3 = some e ∨ nb c 0 = some e → P e = false → r c = r e) : roots P r = cnt (lead P) 64 := by
  have rr := fun {c : Nat} (hc : c < 64) => UF_rr hu hc
  have hk : ∀ a b, a < 64 → b < 64 → P a = false → P b = false → r a = r b → K P a b = true := fun a b ha hb pa pb e => by
    have k1 := hu.2.2.2.2.1 a ha pa
    have k2 := hu.2.2.2.2.1 b hb pb
    rw [e] at k1
    exact K_tr ha (hu.1 b hb).2 k1 (K_sy hb pb k2)
  refine Nat.le_antisymm (inj_cnt (fun c => (ff (fun b => K P c b) 64 0).getD 0) 64 _ (fun a ha hp => ?_) (fun a b ha hb pa pb e => ?_)) (inj_cnt r 64 _ (fun a ha hp => ?_) (fun a b ha hb pa pb e => ?_))
  · rw [Bool.and_eq_true, Bool.not_eq_true', decide_eq_true_eq] at hp
    try dsimp only
    cases hf : ff (fun b => K P a b) 64 0 with
    | none =>
      have := ff_none hf a (Nat.zero_le _) (by omega)
      have this : K P a a = false := this
      rw [K_rf] at this
      cases this
    | some j =>
      obtain ⟨g1, g2, g3, g4⟩ := ff_some hf
      have g3 : K P a j = true := g3
      show j < 64 ∧ lead P j = true
      refine ⟨by omega, lead_iff.mpr ⟨K_op hp.1 g3, fun b hb pb => Bool.eq_false_iff.mpr fun hkb => ?_⟩⟩
      have := g4 b (Nat.zero_le _) hb
      have this : K P a b = false := this
      rw [K_tr ha (by omega) g3 (K_sy (by omega) pb hkb)] at this
      cases this
  · rw [Bool.and_eq_true, Bool.not_eq_true', decide_eq_true_eq] at pa pb
    have e : (ff (fun x => K P a x) 64 0).getD 0 = (ff (fun x => K P b x) 64 0).getD 0 := e
    cases hf : ff (fun x => K P a x) 64 0 with
    | none =>
      have := ff_none hf a (Nat.zero_le _) (by omega)
      have this : K P a a = false := this
      rw [K_rf] at this
      cases this
    | some i =>
      cases hg : ff (fun x => K P b x) 64 0 with
      | none =>
        have := ff_none hg b (Nat.zero_le _) (by omega)
        have this : K P b b = false := this
        rw [K_rf] at this
        cases this
      | some j =>
        rw [hf, hg] at e
        have e : i = j := e
        have g1 : K P a i = true := (ff_some hf).2.2.1
        have g2 : K P b j = true := (ff_some hg).2.2.1
        have a1 := uf_K h ha pa.1 g1
        have a2 := uf_K h hb pb.1 g2
        rw [pa.2] at a1
        rw [pb.2] at a2
        rw [a1, a2, e]
  · have hp := lead_iff.mp hp
    refine ⟨(hu.1 a ha).2, ?_⟩
    rw [UF_op hu ha hp.1, decide_eq_true (rr ha)]
    rfl
  · have pa := lead_iff.mp pa
    have pb := lead_iff.mp pb
    have k1 := hk a b ha hb pa.1 pb.1 e
    have k2 := hk b a hb ha pb.1 pa.1 e.symm
    rcases Nat.lt_trichotomy a b with h1 | h1 | h1
    · rw [pb.2 a h1 pa.1] at k1; cases k1
    · exact h1
    · rw [pa.2 b h1 pb.1] at k2; cases k2
theorem c_unions (hn : 100 ≤ n) (cl : Int64) : ∃ m', fX0_countByUniting_91 n cl m = some (z ((cnt (lead (bt cl)) 64 : Nat) : Int), m') ∧ afr m m' := by
  have hc0 := cnt_not (bt cl) 64
  have F1 := forI (lX0_countByUniting_91_l11 n cl ((z 64) - z ((cnt (bt cl) 64 : Nat) : Int))) 64
    (fun i u => afr m u ∧ ∀ c, c < i → u.1 93 c = z (c : Int))
    (fun r => ∃ u, r = some u ∧ afr m u ∧ ∀ c, c < 64 → u.1 93 c = z (c : Int))
    (fun k i u hi hI => by
      obtain ⟨t, e, j, o, r⟩ := w_1 u 93 i (z (i : Int))
      show ∃ s', _ ∧ bX0_countByUniting_91_l11 n cl ((z 64) - z ((cnt (bt cl) 64 : Nat) : Int)) (lX0_countByUniting_91_l11 n cl ((z 64) - z ((cnt (bt cl) 64 : Nat) : Int)) k) (z (i : Int)) u = _
      unfold bX0_countByUniting_91_l11
      rw [if_pos (zlt (by omega)), s_93 hi, obind, e, z_add]
      refine ⟨t, ⟨afr_tr hI.1 (afr_93 j o), fun c hc => ?_⟩, rfl⟩
      rw [r]
      by_cases e0 : c = i
      · rw [if_pos e0, e0]
      · rw [if_neg e0]
        exact hI.2 c (by omega))
    (fun k u hI => by
      refine ⟨u, ?_, hI⟩
      show bX0_countByUniting_91_l11 n cl ((z 64) - z ((cnt (bt cl) 64 : Nat) : Int)) (lX0_countByUniting_91_l11 n cl ((z 64) - z ((cnt (bt cl) 64 : Nat) : Int)) k) (z ((64 : Nat) : Int)) u = _
      unfold bX0_countByUniting_91_l11
      rw [if_neg (zge (by omega))]) 64 0 n m (by omega) (by omega) ⟨afr_rf, fun c hc => absurd hc (Nat.not_lt_zero _)⟩
  obtain ⟨m1, e1, f1, r1⟩ := F1
  have e1 : lX0_countByUniting_91_l11 n cl ((z 64) - z ((cnt (bt cl) 64 : Nat) : Int)) n (z 0) m = some m1 := e1
  have r0 : roots (bt cl) (fun x => x) = cnt (fun x => !bt cl x) 64 := cnt_congr fun x _ => by
    show (!bt cl x && decide (x = x)) = !bt cl x
    rw [decide_eq_true rfl, Bool.and_true]
  have F := forI (fun k i (u : Int32 × pmI) => lX0_countByUniting_91_l38 n cl k u.1 i u.2) 64
    (fun c u => ∃ p r dp, u.1 = z ((roots (bt cl) r : Nat) : Int) ∧ UF (bt cl) p r dp ∧ UR u.2 p ∧ (∀ c', c' < c → bt cl c' = false → ∀ e, nb c' 3 = some e ∨ nb c' 0 = some e → bt cl e = false → r c' = r e) ∧ afr m u.2)
    (fun r => ∃ m', r = some (z ((cnt (lead (bt cl)) 64 : Nat) : Int), m') ∧ afr m m')
    (fun k c u hc hI => by
      obtain ⟨i3, mm⟩ := u
      obtain ⟨p, r, dp, y1, y2, y3, y4, y5⟩ := hI
      have y1 : i3 = z ((roots (bt cl) r : Nat) : Int) := y1
      have y3 : UR mm p := y3
      have y5 : afr m mm := y5
      subst y1
      show ∃ s', _ ∧ bX0_countByUniting_91_l38 n cl (lX0_countByUniting_91_l38 n cl k) (z ((roots (bt cl) r : Nat) : Int)) (z (c : Int)) mm = _
      unfold bX0_countByUniting_91_l38
      rw [if_pos (zlt (by omega)), f_holds _ hc, obind]
      by_cases hp : bt cl c = true
      · rw [if_pos hp, if_neg z10]
        refine ⟨(z ((roots (bt cl) r : Nat) : Int), mm), ⟨p, r, dp, rfl, y2, y3, fun c' hc' ho => ?_, y5⟩, by rw [z_add]⟩
        by_cases e0 : c' = c
        · rw [e0, hp] at ho; cases ho
        · exact y4 c' (by omega) ho
      · have ho := Bool.eq_false_iff.mpr hp
        obtain ⟨v, p1, r1, dp1, m1, g1, g2, g3, g4, g5, g6, g7⟩ := uf_unite (m := mm) (d := 3) (fun _ _ => rfl) y2 y3 hn hc (by omega) ho
        obtain ⟨v', p2, r2, dp2, m2, k1, k2, k3, k4, k5, k6, k7⟩ := uf_unite (m := m1) (d := 0) (fun _ _ => rfl) g2 g3 hn hc (by omega) ho
        have q3 : ∀ mm, fX8_cellAfter (z (c : Int)) (z 3) mm = some (z (oz (nb c 3))) := fun mm => f_after (d := 3) hc (by omega) mm
        have q0 : ∀ mm, fX8_cellAfter (z (c : Int)) (z 0) mm = some (z (oz (nb c 0))) := fun mm => f_after (d := 0) hc (by omega) mm
        rw [if_neg hp, if_pos rfl, q3, obind, g1, obind]
        try dsimp only
        rw [q0, obind, k1, obind]
        try dsimp only
        rw [z_sub, z_sub, z_add]
        refine ⟨(z ((roots (bt cl) r2 : Nat) : Int), m2), ⟨p2, r2, dp2, rfl, k2, k3, fun c' hc' ho' e he hq => ?_, afr_tr y5 (afr_tr g7 k7)⟩, ?_⟩
        · have he64 : e < 64 := he.elim (fun h => nb_lt (by omega) h) (fun h => nb_lt (by omega) h)
          by_cases e0 : c' = c
          · rw [e0] at he ⊢
            rcases he with he | he
            · exact k5 c e hc he64 (g6 e he hq)
            · exact k6 e he hq
          · exact k5 c' e (by omega) he64 (g5 c' e (by omega) he64 (y4 c' (by omega) ho' e he hq))
        · rw [show ((roots (bt cl) r : Nat) : Int) - (v : Int) - (v' : Int) = ((roots (bt cl) r2 : Nat) : Int) by omega])
    (fun k u hI => by
      obtain ⟨i3, mm⟩ := u
      obtain ⟨p, r, dp, y1, y2, y3, y4, y5⟩ := hI
      have y1 : i3 = z ((roots (bt cl) r : Nat) : Int) := y1
      subst y1
      refine ⟨mm, ?_, y5⟩
      rw [← uf_lead y2 y4]
      show bX0_countByUniting_91_l38 n cl (lX0_countByUniting_91_l38 n cl k) _ (z ((64 : Nat) : Int)) mm = _
      unfold bX0_countByUniting_91_l38
      rw [if_neg (zge (by omega))]) 64 0 n (z ((roots (bt cl) (fun x => x) : Nat) : Int), m1) (by omega) (by omega) ⟨fun x => x, fun x => x, fun _ => 0, rfl, ⟨fun c hc => ⟨hc, hc⟩, fun c _ _ => ⟨rfl, rfl⟩, fun c _ h => absurd rfl h, fun _ _ => rfl, fun c _ _ => K_rf, fun _ _ _ => rfl, fun c _ => ?_⟩, r1, fun c' hc' => absurd hc' (Nat.not_lt_zero _), f1⟩
  · obtain ⟨m', e2, f2⟩ := F
    have e2 : lX0_countByUniting_91_l38 n cl n (z ((roots (bt cl) (fun x => x) : Nat) : Int)) (z 0) m1 = some (z ((cnt (lead (bt cl)) 64 : Nat) : Int), m') := e2
    have e3 : (z 64) - z ((cnt (bt cl) 64 : Nat) : Int) = z ((roots (bt cl) (fun x => x) : Nat) : Int) := by
      rw [z_sub]
      congr 1
      omega
    unfold fX0_countByUniting_91
    rw [f_bitCount, obind, e1, obind, e3, e2, obind]
    exact ⟨m', rfl, f2⟩
  · have := cnt_le (fun x => !bt cl x) 64
    show 0 + roots (bt cl) (fun x => x) ≤ 64
    omega
end UNITE

