/-! figures: the class rehearses -/
def pfr (m m' : pmI) : Prop := ∀ i, ¬ i = 97 → m'.1 i = m.1 i ∧ m'.2 i = m.2 i
theorem pfr_rf {m : pmI} : pfr m m := fun _ _ => ⟨rfl, rfl⟩
theorem pfr_tr {m m1 m2 : pmI} (h1 : pfr m m1) (h2 : pfr m1 m2) : pfr m m2 := fun i hi => ⟨(h2 i hi).1.trans (h1 i hi).1, (h2 i hi).2.trans (h1 i hi).2⟩
theorem pfr_1 {m m1 : pmI} (j : m1.2 = m.2) (o : ∀ a, a ≠ 97 → m1.1 a = m.1 a) : pfr m m1 := fun i hi => ⟨o i hi, by rw [j]⟩
theorem pfr_J {m m1 : pmI} (j : m1.1 = m.1) (o : ∀ a, a ≠ 97 → m1.2 a = m.2 a) : pfr m m1 := fun i hi => ⟨by rw [j], o i hi⟩
def gR (m : pmI) (A : Ab) (k : Nat) (o : Option Nat) (c : Nat) : Prop := (m.1 97 0 = z (k : Int) ∧ m.1 97 1 = z (oz o)) ∧ (m.1 97 2 = z (aCe A k : Int) ∧ m.1 97 3 = z (aNa A k : Int)) ∧ (∀ j, o = some j → m.1 97 4 = z (aCe A j : Int) ∧ m.1 97 5 = z (aNa A j : Int)) ∧ m.1 97 7 = z (c : Int) ∧ ∀ x, x < 64 → bt (m.2 97 6) x = shut A k o x
theorem c_mirr0 : ∀ v : Nat, v < 5 → fX8_mirroredMove (z (v : Int)) m00 = some (z (mirr v : Int)) := by decide +kernel
theorem c_mirr {v : Nat} (hv : v < 5) (m : pmI) : fX8_mirroredMove (z (v : Int)) m = some (z (mirr v : Int)) := c_mirr0 v hv
theorem w_J6 (m : pmI) (q k : Nat) (x : Int64) : ∃ m', (m.1, pmU m.2 q k x) = m' ∧ m'.1 = m.1 ∧ (∀ a, a ≠ q → m'.2 a = m.2 a) ∧ m'.2 q k = x := ⟨_, rfl, rfl, fun a ha => rowneJ ha, pU_same m.2 q k x⟩
theorem shut_n {A : Ab} {k x : Nat} : (aP A x || occ A (k : Int) (aC A) x) = shut A k none x := by
  rw [Bool.eq_iff_iff, Bool.or_eq_true, occ_iff, shut_iff]
  constructor
  · rintro (h | ⟨j, h1, h2, h3⟩)
    · exact Or.inl h
    · exact Or.inr ⟨j, h1, by omega, fun g => (nomatch g), h3⟩
  · rintro (h | ⟨j, h1, h2, h3, h4⟩)
    · exact Or.inl h
    · exact Or.inr ⟨j, h1, by omega, h4⟩
theorem shut_s {A : Ab} (w : wfA A) {k j x : Nat} (hj : j < aC A) : shut A k (some j) x = ((aP A x || occ A (k : Int) (aC A) x) && !decide (x = aCe A j)) := by
  rw [Bool.eq_iff_iff, shut_iff, Bool.and_eq_true, Bool.or_eq_true, occ_iff, Bool.not_eq_true', decide_eq_false_iff_not]
  constructor
  · rintro (h | ⟨i, h1, h2, h3, h4⟩)
    · refine ⟨Or.inl h, fun g => ?_⟩
      rw [g, (w.2.2.1 j hj).2.2.2] at h
      cases h
    · exact ⟨Or.inr ⟨i, h1, by omega, h4⟩, fun g => h3 (by rw [ce_inj w h1 hj (by rw [← h4, g])])⟩
  · rintro ⟨h | ⟨i, h1, h2, h3⟩, h4⟩
    · exact Or.inl h
    · exact Or.inr ⟨i, h1, by omega, fun g => h4 (by rw [h3, Option.some.inj g]), h3⟩
section CDANCE
variable {m : pmI} {A : Ab} {n : Nat} {W : Wd}
theorem c_canCome {k : Nat} {o t : Option Nat} (h : ∀ x, x < 64 → bt (m.2 97 6) x = shut A k o x) (ht : ∀ c, t = some c → c < 64) : fX5_canCome_97 (z (oz t)) m = some (if (match t with | none => true | some c => shut A k o c) = true then z 0 else z 1) := by
  unfold fX5_canCome_97
  cases t with
  | none => rw [oz_n, if_pos rfl, if_pos rfl]
  | some c =>
    have := ht c rfl
    rw [oz_s, if_neg (zne (by omega)), f_holds _ this, obind, h c this]
    dsimp only
    by_cases hs : shut A k o c = true
    · rw [if_pos hs, if_neg z10, if_pos hs]
    · rw [if_neg hs, if_pos rfl, if_neg hs]
theorem c_goOn (w : wfA A) {k c v : Nat} {o : Option Nat} (t : Two A k o) (hv : v < 4) (h : gR m A k o c) : (dBeat A k o v = none → fX5_goOn_97 (z (v : Int)) m = some (z 0, m)) ∧ ∀ A' e, dBeat A k o v = some (A', e) → ∃ m', fX5_goOn_97 (z (v : Int)) m = some (z 1, m') ∧ gR m' A' k o (c + e) ∧ pfr m m' := by
  have w1 := w.1
  have w3 := w.2.2.1
  obtain ⟨⟨h1, h2⟩, ⟨h3, h4⟩, h5, h6, h7⟩ := h
  have n3 := (w3 k t.1).2.2.1
  have hm := mirr_lt v hv
  have key : ∀ r, dBeat A k o v = r → (r = none → fX5_goOn_97 (z (v : Int)) m = some (z 0, m)) ∧ ∀ A' e, r = some (A', e) → ∃ m', fX5_goOn_97 (z (v : Int)) m = some (z 1, m') ∧ gR m' A' k o (c + e) ∧ pfr m m' := by
    intro r hr
    have hsh : ∀ A' e, r = some (A', e) → ∀ x, x < 64 → bt (m.2 97 6) x = shut A' k o x := fun A' e g x hx => by
      rw [g] at hr
      rw [(beat_ok w t hr).2.2.2 x hx]
      exact h7 x hx
    unfold dBeat at hr
    rw [if_neg (by omega)] at hr
    unfold fX5_goOn_97
    rw [h3, h4, f_after (w3 k t.1).2.1 hv, obind]
    cases ht : nb (aCe A k) v with
    | none =>
      rw [ht] at hr
      have hr : none = r := hr
      subst hr
      refine ⟨fun _ => ?_, fun _ _ g => (nomatch g)⟩
      by_cases h0 : z (aNa A k : Int) = z 0
      · rw [if_pos h0]
      · rw [if_neg h0, c_canCome (t := none) h7 (fun _ g => (nomatch g)), obind, if_pos rfl, if_pos rfl]
    | some t' =>
      rw [ht] at hr
      dsimp only at hr
      have t64 := nb_lt (w3 k t.1).2.1 ht
      rw [c_canCome (t := some t') h7 (fun _ g => by cases g; exact t64)]
      dsimp only
      by_cases hx : aNa A k = 0 ∨ shut A k o t' = true
      · rw [if_pos hx] at hr
        subst hr
        refine ⟨fun _ => ?_, fun _ _ g => (nomatch g)⟩
        by_cases h0 : aNa A k = 0
        · rw [if_pos (by rw [h0]; rfl)]
        · have hz : ¬ z (aNa A k : Int) = z 0 := zne (by omega)
          have hs : shut A k o t' = true := hx.elim (fun g => absurd g h0) id
          rw [if_neg hz, obind, if_pos hs, if_pos rfl]
      · rw [if_neg hx] at hr
        have hn : ¬ aNa A k = 0 := fun g => hx (Or.inl g)
        have hs : ¬ shut A k o t' = true := fun g => hx (Or.inr g)
        have hz : ¬ z (aNa A k : Int) = z 0 := zne (by omega)
        rw [if_neg hz, obind, if_neg hs, if_neg z10, h2]
        cases o with
        | none =>
          subst hr
          refine ⟨fun g => (nomatch g), fun A' e g => ?_⟩
          have hsh := hsh A' e g
          cases g
          obtain ⟨m1, e1, j1, o1, r1⟩ := w_1 m 97 2 (z (oz (some t')))
          obtain ⟨m2, e2, j2, o2, r2⟩ := w_1 m1 97 3 (m1.1 97 3 - z 1)
          obtain ⟨m3, e3, j3, o3, r3⟩ := w_1 m2 97 7 (m2.1 97 7 + z 1)
          rw [oz_n, if_pos rfl]
          unfold jX5_goOn_97_123
          rw [pmLet_eq, e1, pmLet_eq, e2, pmLet_eq, e3]
          refine ⟨m3, rfl, ⟨⟨?_, ?_⟩, ⟨?_, ?_⟩, fun j g => (nomatch g), ?_, fun x hx => ?_⟩, pfr_tr (pfr_1 j1 o1) (pfr_tr (pfr_1 j2 o2) (pfr_1 j3 o3))⟩
          · rw [r3, if_neg (by decide), r2, if_neg (by decide), r1, if_neg (by decide), h1]
          · rw [r3, if_neg (by decide), r2, if_neg (by decide), r1, if_neg (by decide), h2]
          · rw [r3, if_neg (by decide), r2, if_neg (by decide), r1, if_pos rfl]
            show _ = z ((if k = k then t' else aCe A k : Nat) : Int)
            rw [if_pos rfl, oz_s]
          · rw [r3, if_neg (by decide), r2, if_pos rfl, r1, if_neg (by decide), h4, z_sub]
            show _ = z ((if k = k then aNa A k - 1 else aNa A k : Nat) : Int)
            rw [if_pos rfl]
            congr 1
            omega
          · rw [r3, if_pos rfl, r2, if_neg (by decide), r1, if_neg (by decide), h6, z_add]
            rfl
          · rw [j3, j2, j1]
            exact hsh x hx
        | some j =>
          dsimp only at hr
          obtain ⟨hj, hjk⟩ := t.2 j rfl
          obtain ⟨h8, h9⟩ := h5 j rfl
          have n4 := (w3 j hj).2.2.1
          have c64 := (w3 j hj).2.1
          have k64 := (w3 k t.1).2.1
          rw [oz_s, if_neg (zne (by omega)), c_mirr (by omega), obind, h8, h9, f_after c64 hm, obind]
          cases hu : nb (aCe A j) (mirr v) with
          | none =>
            rw [hu] at hr
            have hr : none = r := hr
            subst hr
            refine ⟨fun _ => ?_, fun _ _ g => (nomatch g)⟩
            by_cases h0 : z (aNa A j : Int) = z 0
            · rw [if_pos h0]
            · rw [if_neg h0, c_canCome (t := none) h7 (fun _ g => (nomatch g)), obind, if_pos rfl, if_pos rfl]
          | some u =>
            rw [hu] at hr
            dsimp only at hr
            have u64 := nb_lt c64 hu
            rw [c_canCome (t := some u) h7 (fun _ g => by cases g; exact u64)]
            dsimp only
            by_cases hx2 : aNa A j = 0 ∨ shut A k (some j) u = true
            · rw [if_pos hx2] at hr
              subst hr
              refine ⟨fun _ => ?_, fun _ _ g => (nomatch g)⟩
              by_cases h0 : aNa A j = 0
              · rw [if_pos (by rw [h0]; rfl)]
              · have hz : ¬ z (aNa A j : Int) = z 0 := zne (by omega)
                have hs : shut A k (some j) u = true := hx2.elim (fun g => absurd g h0) id
                rw [if_neg hz, obind, if_pos hs, if_pos rfl]
            · rw [if_neg hx2] at hr
              have hn2 : ¬ aNa A j = 0 := fun g => hx2 (Or.inl g)
              have hs2 : ¬ shut A k (some j) u = true := fun g => hx2 (Or.inr g)
              have hz2 : ¬ z (aNa A j : Int) = z 0 := zne (by omega)
              rw [if_neg hz2, obind, if_neg hs2, if_neg z10, oz_s, oz_s]
              have b83 : t' = u → ∀ b : Int, jX5_goOn_97_84 (z (t' : Int)) (z (u : Int)) (z b) m = some (z 0, m) := fun g b => by
                unfold jX5_goOn_97_84
                rw [if_pos (by rw [g])]
              by_cases hx3 : t' = u ∨ (t' = aCe A j ∧ u = aCe A k)
              · rw [if_pos hx3] at hr
                subst hr
                refine ⟨fun _ => ?_, fun _ _ g => (nomatch g)⟩
                unfold jX5_goOn_97_83
                by_cases e1 : t' = u
                · rw [b83 e1, b83 e1]
                  split
                  · split <;> rfl
                  · rfl
                · obtain ⟨g1, g2⟩ := hx3.elim (fun g => absurd g e1) id
                  rw [if_pos (by rw [g1]), if_pos (by rw [g2])]
                  unfold jX5_goOn_97_84
                  rw [if_neg (zne (by omega)), if_neg z10]
              · rw [if_neg hx3] at hr
                subst hr
                refine ⟨fun g => (nomatch g), fun A' e g => ?_⟩
                have hsh := hsh A' e g
                cases g
                have e1 : ¬ t' = u := fun g => hx3 (Or.inl g)
                have hif : (if z (t' : Int) = z (aCe A j : Int) then if z (u : Int) = z (aCe A k : Int) then jX5_goOn_97_84 (z (t' : Int)) (z (u : Int)) (z 1) m else jX5_goOn_97_83 (z (t' : Int)) (z (u : Int)) m else jX5_goOn_97_83 (z (t' : Int)) (z (u : Int)) m) = jX5_goOn_97_83 (z (t' : Int)) (z (u : Int)) m := by
                  by_cases e2 : t' = aCe A j
                  · have e3 : ¬ u = aCe A k := fun g => hx3 (Or.inr ⟨e2, g⟩)
                    rw [if_pos (by rw [e2]), if_neg (zne (by omega))]
                  · rw [if_neg (zne (by omega))]
                rw [hif]
                obtain ⟨p1, y1, i1, o1, q1⟩ := w_1 m 97 4 (z (u : Int))
                obtain ⟨p2, y2, i2, o2, q2⟩ := w_1 p1 97 5 (p1.1 97 5 - z 1)
                obtain ⟨p3, y3, i3, o3, q3⟩ := w_1 p2 97 7 (p2.1 97 7 + z 1)
                obtain ⟨m1, e4, j1, o4, r1⟩ := w_1 p3 97 2 (z (t' : Int))
                obtain ⟨m2, e5, j2, o5, r2⟩ := w_1 m1 97 3 (m1.1 97 3 - z 1)
                obtain ⟨m3, e6, j3, o6, r3⟩ := w_1 m2 97 7 (m2.1 97 7 + z 1)
                unfold jX5_goOn_97_83 jX5_goOn_97_84
                rw [if_neg (zne (by omega)), if_pos rfl, pmLet_eq, y1, pmLet_eq, y2, pmLet_eq, y3]
                unfold jX5_goOn_97_123
                rw [pmLet_eq, e4, pmLet_eq, e5, pmLet_eq, e6]
                refine ⟨m3, rfl, ⟨⟨?_, ?_⟩, ⟨?_, ?_⟩, fun j' g => ?_, ?_, fun x hx => ?_⟩, pfr_tr (pfr_tr (pfr_1 i1 o1) (pfr_tr (pfr_1 i2 o2) (pfr_1 i3 o3))) (pfr_tr (pfr_1 j1 o4) (pfr_tr (pfr_1 j2 o5) (pfr_1 j3 o6)))⟩
                · rw [r3, if_neg (by decide), r2, if_neg (by decide), r1, if_neg (by decide), q3, if_neg (by decide), q2, if_neg (by decide), q1, if_neg (by decide), h1]
                · rw [r3, if_neg (by decide), r2, if_neg (by decide), r1, if_neg (by decide), q3, if_neg (by decide), q2, if_neg (by decide), q1, if_neg (by decide), h2]
                · rw [r3, if_neg (by decide), r2, if_neg (by decide), r1, if_pos rfl]
                  show _ = z ((if k = j then u else if k = k then t' else aCe A k : Nat) : Int)
                  rw [if_neg (fun g => hjk g.symm), if_pos rfl]
                · rw [r3, if_neg (by decide), r2, if_pos rfl, r1, if_neg (by decide), q3, if_neg (by decide), q2, if_neg (by decide), q1, if_neg (by decide), h4, z_sub]
                  show _ = z ((if k = j then aNa A j - 1 else if k = k then aNa A k - 1 else aNa A k : Nat) : Int)
                  rw [if_neg (fun g => hjk g.symm), if_pos rfl]
                  congr 1
                  omega
                · cases g
                  constructor
                  · rw [r3, if_neg (by decide), r2, if_neg (by decide), r1, if_neg (by decide), q3, if_neg (by decide), q2, if_neg (by decide), q1, if_pos rfl]
                    show _ = z ((if j = j then u else if j = k then t' else aCe A j : Nat) : Int)
                    rw [if_pos rfl]
                  · rw [r3, if_neg (by decide), r2, if_neg (by decide), r1, if_neg (by decide), q3, if_neg (by decide), q2, if_pos rfl, q1, if_neg (by decide), h9, z_sub]
                    show _ = z ((if j = j then aNa A j - 1 else if j = k then aNa A k - 1 else aNa A j : Nat) : Int)
                    rw [if_pos rfl]
                    congr 1
                    omega
                · rw [r3, if_pos rfl, r2, if_neg (by decide), r1, if_neg (by decide), q3, if_pos rfl, q2, if_neg (by decide), q1, if_neg (by decide), h6, z_add, z_add]
                  congr 1
                · rw [j3, j2, j1, i3, i2, i1]
                  exact hsh x hx
  exact key _ rfl
theorem repC_p {m' : pmI} (h : repC 1 m A) (f : pfr m m') : repC 1 m' A := repC_fr h (fun i h1 h2 => f i (by omega))
theorem c_danL {f k : Nat} {o : Option Nat} {A0 : Ab} {fm : Nat → Nat} {len : Nat} (hf : f < 6) (t0 : Two A0 k o) (w0 : wfA A0) (hfl : aFl A0 f = len) (hfm : aFm A0 f = fm) : ∀ (d b q : Nat) (m : pmI) (A : Ab) (c : Nat), b + d = len → d < q → repC 1 m A0 → wfA A → DR A0 k o A c → gR m A k o c →
    ∃ m', lX5_firstBlocked_97_1_l141 n (z (f : Int)) (z (len : Int)) q (z (b : Int)) m = some (if (dDan k o fm d b A c).1 < len then .inr (z ((dDan k o fm d b A c).1 : Int), m') else .inl m') ∧ gR m' (dDan k o fm d b A c).2.1 k o (dDan k o fm d b A c).2.2 ∧ pfr m m' := by
  have h12 := (w0.2.2.2.2.2.1 f hf).1
  intro d
  induction d with
  | zero =>
    intro b q m A c h1 h2 hA w hD hg
    obtain ⟨q, rfl⟩ : ∃ j, q = j + 1 := ⟨q - 1, by omega⟩
    show ∃ m', bX5_firstBlocked_97_1_l141 n (z (f : Int)) (z (len : Int)) (lX5_firstBlocked_97_1_l141 n (z (f : Int)) (z (len : Int)) q) (z (b : Int)) m = _ ∧ _
    unfold bX5_firstBlocked_97_1_l141
    rw [if_neg (zge (by omega))]
    refine ⟨m, ?_, hg, pfr_rf⟩
    show some (Sum.inl m) = some (if b < len then _ else _)
    rw [if_neg (by omega)]
  | succ d ih =>
    intro b q m A c h1 h2 hA w hD hg
    obtain ⟨q, rfl⟩ : ∃ j, q = j + 1 := ⟨q - 1, by omega⟩
    show ∃ m', bX5_firstBlocked_97_1_l141 n (z (f : Int)) (z (len : Int)) (lX5_firstBlocked_97_1_l141 n (z (f : Int)) (z (len : Int)) q) (z (b : Int)) m = _ ∧ _
    have h5 := (w0.2.2.2.2.2.1 f hf).2 b (by omega)
    have t := DR_two hD t0
    unfold bX5_firstBlocked_97_1_l141
    rw [if_pos (zlt (by omega)), c_moveAt hA w0 hf (by omega), obind]
    rw [hfm] at h5 ⊢
    unfold dDan
    by_cases e4 : fm b = 4
    · have hb : dBeat A k o (fm b) = some (A, 0) := by
        unfold dBeat
        rw [if_pos e4]
      rw [if_pos (by rw [e4]; rfl), hb, z_add]
      exact ih (b + 1) q m A c (by omega) (by omega) hA w hD hg
    · have hz : ¬ z ((fm b : Nat) : Int) = z 4 := zne (by omega)
      obtain ⟨y1, y2⟩ := c_goOn w t (show fm b < 4 by omega) hg
      rw [if_neg hz]
      cases hb : dBeat A k o (fm b) with
      | none =>
        rw [y1 hb, obind]
        dsimp only
        rw [if_pos rfl]
        exact ⟨m, by rw [if_pos (show b < len by omega)], hg, pfr_rf⟩
      | some p =>
        obtain ⟨A', e⟩ := p
        obtain ⟨m1, e1, g1, f1⟩ := y2 A' e hb
        obtain ⟨-, w', -, -⟩ := beat_ok w t hb
        rw [e1, obind]
        dsimp only
        rw [if_neg z10, z_add]
        obtain ⟨m2, e2, g2, f2⟩ := ih (b + 1) q m1 A' (c + e) (by omega) (by omega) (repC_p hA f1) w' (DR_st hD w t hb) g1
        exact ⟨m2, e2, g2, pfr_tr f1 f2⟩
/-- a figure gone through -/
def dRun (A : Ab) (f k : Nat) : Nat × Ab × Nat := dDan k (par A k) (aFm A f) (aFl A f) 0 A 0
theorem at3o (w : wfA A) {o : Option Nat} (ho : ∀ j, o = some j → j < aC A) : ∃ x, (∀ m, repC 1 m A → fX8_at_3 (z (oz o)) m = some x) ∧ ∀ j, o = some j → x = z (aCe A j : Int) := by
  have w1 := w.1
  cases o with
  | none => exact ⟨z (-1), fun m _ => by rw [oz_n, an_3 (by omega) (by omega)], fun j g => (nomatch g)⟩
  | some j =>
    have := ho j rfl
    exact ⟨z (aCe A j : Int), fun m h => by rw [oz_s, a_3 (by omega), (h.2.2.2.1 j this).2.1], fun j' g => by cases g; rfl⟩
theorem at4o (w : wfA A) {o : Option Nat} (ho : ∀ j, o = some j → j < aC A) : ∃ x, (∀ m, repC 1 m A → fX8_at_4 (z (oz o)) m = some x) ∧ ∀ j, o = some j → x = z (aNa A j : Int) := by
  have w1 := w.1
  cases o with
  | none => exact ⟨z (-1), fun m _ => by rw [oz_n, an_4 (by omega) (by omega)], fun j g => (nomatch g)⟩
  | some j =>
    have := ho j rfl
    exact ⟨z (aNa A j : Int), fun m h => by rw [oz_s, a_4 (by omega), (h.2.2.2.1 j this).2.2.1], fun j' g => by cases g; rfl⟩
theorem c_first (h : repC 1 m A) (w : wfA A) (hn : 100 ≤ n) {f k : Nat} {d : Int} (hf : f < 6) (hd : -2147483648 ≤ d ∧ d < 2147483648) (hs : slot A d = some k) : ∃ m', fX5_firstBlocked_97_1 n (z (f : Int)) (z d) m = some (z (if (dRun A f k).1 < aFl A f then ((dRun A f k).1 : Int) else -1), m') ∧ gR m' (dRun A f k).2.1 k (par A k) (dRun A f k).2.2 ∧ pfr m m' := by
  have hk := (slot_lt hs).1
  have w1 := w.1
  have w3 := w.2.2.1
  have t := par_two w hk
  have rg := pa_rg w hk
  obtain ⟨x3, y3, v3⟩ := at3o w (o := par A k) (fun j g => (t.2 j g).1)
  obtain ⟨x4, y4, v4⟩ := at4o w (o := par A k) (fun j g => (t.2 j g).1)
  obtain ⟨m1, e1, j1, o1, r1⟩ := w_1 m 97 0 (z (k : Int))
  have h1 := repC_p h (pfr_1 j1 o1)
  obtain ⟨m2, e2, j2, o2, r2⟩ := w_1 m1 97 1 (z (oz (par A k)))
  have h2 := repC_p h1 (pfr_1 j2 o2)
  have r20 : m2.1 97 0 = z (k : Int) := by rw [r2, if_neg (by decide), r1, if_pos rfl]
  obtain ⟨m3, e3, j3, o3, r3⟩ := w_1 m2 97 2 (z (aCe A k : Int))
  have h3 := repC_p h2 (pfr_1 j3 o3)
  have r30 : m3.1 97 0 = z (k : Int) := by rw [r3, if_neg (by decide), r20]
  obtain ⟨m4, e4, j4, o4, r4⟩ := w_1 m3 97 3 (z (aNa A k : Int))
  have h4 := repC_p h3 (pfr_1 j4 o4)
  have r41 : m4.1 97 1 = z (oz (par A k)) := by rw [r4, if_neg (by decide), r3, if_neg (by decide), r2, if_pos rfl]
  obtain ⟨m5, e5, j5, o5, r5⟩ := w_1 m4 97 4 x3
  have h5 := repC_p h4 (pfr_1 j5 o5)
  have r51 : m5.1 97 1 = z (oz (par A k)) := by rw [r5, if_neg (by decide), r41]
  obtain ⟨m6, e6, j6, o6, r6⟩ := w_1 m5 97 5 x4
  have h6 := repC_p h5 (pfr_1 j6 o6)
  obtain ⟨m7, e7, j7, o7, r7⟩ := w_1 m6 97 7 (z 0)
  have h7 := repC_p h6 (pfr_1 j7 o7)
  have r70 : m7.1 97 0 = z (k : Int) := by rw [r7, if_neg (by decide), r6, if_neg (by decide), r5, if_neg (by decide), r4, if_neg (by decide), r30]
  obtain ⟨v, e8, hv⟩ := c_others (n := n) h7 w (by omega) (a := (k : Int)) (by omega)
  obtain ⟨m8, e9, j8, o8, r8⟩ := w_J6 m7 97 6 ((m7.2 1 0) ||| v)
  have f7 : pfr m m7 := pfr_tr (pfr_1 j1 o1) (pfr_tr (pfr_1 j2 o2) (pfr_tr (pfr_1 j3 o3) (pfr_tr (pfr_1 j4 o4) (pfr_tr (pfr_1 j5 o5) (pfr_tr (pfr_1 j6 o6) (pfr_1 j7 o7))))))
  have f8 := pfr_tr f7 (pfr_J j8 o8)
  have r71 : m7.1 97 1 = z (oz (par A k)) := by rw [r7, if_neg (by decide), r6, if_neg (by decide), r51]
  have r72 : m7.1 97 2 = z (aCe A k : Int) := by rw [r7, if_neg (by decide), r6, if_neg (by decide), r5, if_neg (by decide), r4, if_neg (by decide), r3, if_pos rfl]
  have r73 : m7.1 97 3 = z (aNa A k : Int) := by rw [r7, if_neg (by decide), r6, if_neg (by decide), r5, if_neg (by decide), r4, if_pos rfl]
  have r74 : m7.1 97 4 = x3 := by rw [r7, if_neg (by decide), r6, if_neg (by decide), r5, if_pos rfl]
  have r75 : m7.1 97 5 = x4 := by rw [r7, if_neg (by decide), r6, if_pos rfl]
  have r77 : m7.1 97 7 = z ((0 : Nat) : Int) := by rw [r7, if_pos rfl]; rfl
  have bits : ∀ x, x < 64 → bt (m8.2 97 6) x = (aP A x || occ A (k : Int) (aC A) x) := fun x hx => by rw [r8, bt_or, h7.1 x hx, hv x hx]
  have key : ∀ mm, gR mm A k (par A k) 0 → pfr m mm → ∃ m', jX5_firstBlocked_97_1_131 n (z (f : Int)) mm = some (z (if (dRun A f k).1 < aFl A f then ((dRun A f k).1 : Int) else -1), m') ∧ gR m' (dRun A f k).2.1 k (par A k) (dRun A f k).2.2 ∧ pfr m m' := fun mm g1 g2 => by
    have h12 := (w.2.2.2.2.2.1 f hf).1
    obtain ⟨m', e, g3, g4⟩ := c_danL (n := n) hf t w rfl rfl (aFl A f) 0 n mm A 0 (by omega) (by omega) (repC_p h g2) w DR_0 g1
    unfold jX5_firstBlocked_97_1_131
    rw [c_movesIn (repC_p h g2) hf, obind, show z 0 = z ((0 : Nat) : Int) from rfl, e, obind]
    refine ⟨m', ?_, g3, pfr_tr g2 g4⟩
    unfold dRun
    by_cases hl : (dDan k (par A k) (aFm A f) (aFl A f) 0 A 0).1 < aFl A f
    · rw [if_pos hl, if_pos hl, oS_r]
    · rw [if_neg hl, if_neg hl, oS_l]
  unfold fX5_firstBlocked_97_1
  rw [c_slotOf (n := n) h w (by omega) hd, obind, hs, oz_s, pmLet_eq, e1, c_partnerOf (n := n) h1 w (by omega) hd, obind, hs]
  dsimp only
  rw [c_slotOf (n := n) h1 w (by omega) (by omega), obind, show slot A (aPa A k) = par A k from rfl, pmLet_eq, e2, r20, a_3 (by omega), obind, (h2.2.2.2.1 k hk).2.1, pmLet_eq, e3, r30, a_4 (by omega), obind, (h3.2.2.2.1 k hk).2.2.1, pmLet_eq, e4, r41, y3 m4 h4, obind, pmLet_eq, e5, r51, y4 m5 h5, obind, pmLet_eq, e6, pmLet_eq, e7, r70, e8, obind, pmLet_eq, e9, j8, r71, r74]
  cases hp : par A k with
  | none =>
    rw [oz_n, if_pos rfl]
    rw [hp] at key r71
    refine key m8 ⟨⟨by rw [j8, r70], by rw [j8, r71]⟩, ⟨by rw [j8, r72], by rw [j8, r73]⟩, fun j g => (nomatch g), by rw [j8, r77], fun x hx => ?_⟩ f8
    rw [bits x hx]
    exact shut_n
  | some j =>
    have tj := t.2 j hp
    rw [hp] at key r71
    rw [oz_s, if_neg (zne (by omega)), pmLet_eq, v3 j hp, one_eq]
    obtain ⟨m9, e10, j9, o9, r9⟩ := w_J6 m8 97 6 (m8.2 97 6 &&& (one (z (aCe A j : Int)) ^^^ (18446744073709551615 : Int64)))
    have e10' : (m7.1, pmU m8.2 97 6 (m8.2 97 6 &&& (one (z (aCe A j : Int)) ^^^ (18446744073709551615 : Int64)))) = m9 := by rw [← e10, j8]
    rw [e10']
    refine key m9 ⟨⟨by rw [j9, j8, r70], by rw [j9, j8, r71]⟩, ⟨by rw [j9, j8, r72], by rw [j9, j8, r73]⟩, fun j' g => ?_, by rw [j9, j8, r77], fun x hx => ?_⟩ (pfr_tr f8 (pfr_J j9 o9))
    · cases g
      rw [j9, j8, r74, r75]
      exact ⟨v3 j hp, v4 j hp⟩
    · rw [r9, bt_and, bt_xor, bits x hx, bt_one _ (w3 j tj.1).2.1 x hx, bt_all x hx, shut_s w tj.1]
      cases decide (x = aCe A j) <;> rfl
end CDANCE

