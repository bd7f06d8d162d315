/-! the class: one goes away, all go
-/
theorem shl_step {r s t : Nat → Int32} {k i : Nat} (hk : k + 1 ≤ i) (hs : ∀ b, s b = if k ≤ b ∧ b + 1 < i then r (b + 1) else r b) (ht : ∀ b, t b = if b = i - 1 then s i else s b) : ∀ b, t b = if k ≤ b ∧ b + 1 < i + 1 then r (b + 1) else r b := fun b => by
  rw [ht]
  by_cases e : b = i - 1
  · rw [if_pos e, hs, if_neg (by omega), if_pos (by omega), show b + 1 = i by omega]
  · rw [if_neg e, hs]
    by_cases h : k ≤ b ∧ b + 1 < i
    · rw [if_pos h, if_pos (by omega)]
    · rw [if_neg h, if_neg (by omega)]
theorem sh_row {r t : Nat → Int32} {k c : Nat} {f : Nat → Int} (ht : ∀ b, t b = if k ≤ b ∧ b + 1 < c then r (b + 1) else r b) (hr : ∀ b, b < c → r b = z (f b)) {i : Nat} (hi : i < c - 1) : t i = z (if i < k then f i else f (i + 1)) := by
  rw [ht]
  by_cases e : i < k
  · rw [if_neg (by omega), if_pos e, hr _ (by omega)]
  · rw [if_pos (by omega), if_neg e, hr _ (by omega)]
section OPS6
variable {m : pmI} {A : Ab} {n : Nat}
theorem c_dismiss (h : repC 1 m A) (w : wfA A) (hn : 60 ≤ n) {k : Nat} (hk : k < aC A) : ∃ m', fX6_dismissDancer_1 n (z (k : Int)) m = some m' ∧ fr cS m m' ∧ repC 1 m' (uGone (uPa A (pSep A k)) k) := by
  have w1 := w.1
  unfold fX6_dismissDancer_1
  rw [a_4 (by omega), obind, (h.2.2.2.1 k hk).2.2.1, pmLet_eq]
  obtain ⟨m1, e1, f1, j1, o1, r1⟩ := c_w m (q := 1) (by omega) 14 (m.1 1 14 + z (aNa A k))
  rw [e1]
  have h1 : repC 1 m1 (uMo A (aLo A) (aBr A) (aGi A) (aGo A + z (aNa A k))) := by
    obtain ⟨p1, p2, p3, p4, p5, p6, p7, p8, p9, p10, p11⟩ := h
    have k1 : ∀ b, ¬ b = 14 → m1.1 1 b = m.1 1 b := fun b hb => by rw [r1, if_neg hb]
    unfold repC
    rw [j1, k1 1 (by decide), k1 2 (by decide), k1 9 (by decide), k1 11 (by decide), k1 12 (by decide), k1 13 (by decide), r1, if_pos rfl, o1 2 (by decide), o1 3 (by decide), o1 4 (by decide), o1 5 (by decide), o1 6 (by decide), o1 7 (by decide), o1 8 (by decide), p11]
    exact ⟨p1, p2, p3, p4, p5, p6, p7, p8, p9, p10, rfl⟩
  have wA : wfA (uMo A (aLo A) (aBr A) (aGi A) (aGo A + z (aNa A k))) → True := fun _ => trivial
  have sep : ∃ m', fX6_separate_1 n (z (k : Int)) m1 = some m' ∧ fr cS m1 m' ∧ repC 1 m' (uMo (uPa A (pSep A k)) (aLo A) (aBr A) (aGi A) (aGo A + z (aNa A k))) := by
    have w3 := w.2.2.1
    have hx := w.2.1
    have hr := pa_rg w hk
    have hp := (h1.2.2.2.1 k hk).2.2.2
    have q1 : ∀ d : Int, -2147483648 ≤ d → d < 2147483648 → fX6_slotOf_1 n (z d) m1 = some (z (oz (slot A d))) := fun d d1 d2 => by
      have l1 : ∀ k i, lX6_slotOf_1_l2 n (z d) m1 k i = lX6_slotOf_1_l2 n (z d) m k i := by
        intro k
        induction k with
        | zero => intro i; rfl
        | succ k ih =>
          intro i
          show bX6_slotOf_1_l2 n (z d) m1 (lX6_slotOf_1_l2 n (z d) m1 k) i = bX6_slotOf_1_l2 n (z d) m (lX6_slotOf_1_l2 n (z d) m k) i
          unfold bX6_slotOf_1_l2 fX8_at_2
          rw [show m1.1 1 1 = m.1 1 1 by rw [r1, if_neg (by decide)], o1 2 (by decide), show lX6_slotOf_1_l2 n (z d) m1 k = lX6_slotOf_1_l2 n (z d) m k from funext ih]
      rw [← c_slotOf (n := n) h w (by omega) ⟨d1, d2⟩]
      unfold fX6_slotOf_1
      rw [l1]
    unfold fX6_separate_1
    rw [a_5 (by omega), obind, show m1.1 5 k = z (aPa A k) from hp]
    by_cases e : aPa A k = -1
    · rw [e, if_pos rfl]
      refine ⟨m1, rfl, fr_rf, ?_⟩
      unfold pSep
      rw [if_pos e]
      exact h1
    · obtain ⟨j, y1, y2, y3, y4⟩ := slot_pa w hk e
      rw [if_neg (zne (by omega)), q1 _ (by omega) (by omega), obind, y3, oz_s, s_5 (by omega), obind]
      obtain ⟨m2, e2, f2, i2, o2, r2⟩ := c_w m1 (q := 5) (by omega) j (z (-1))
      rw [e2, s_5 (by omega), obind]
      obtain ⟨m3, e3, f3, i3, o3, r3⟩ := c_w m2 (q := 5) (by omega) k (z (-1))
      rw [e3]
      refine ⟨m3, rfl, fr_tr f2 f3, repC_pa h1 (fun q hq => (o3 q hq).trans (o2 q hq)) (i3.trans i2) (fun i hi => ?_)⟩
      unfold pSep
      rw [if_neg e, r3, r2, y3]
      by_cases e1 : i = k
      · rw [if_pos e1, if_pos e1]
      · rw [if_neg e1, if_neg e1]
        by_cases e2 : i = j
        · rw [if_pos e2, if_pos (by rw [e2])]
        · rw [if_neg e2, if_neg (fun h => e2 (Option.some.inj h))]
          exact (h1.2.2.2.1 i hi).2.2.2
  obtain ⟨m2, e2, f2, h2⟩ := sep
  rw [e2, obind, z_add]
  obtain ⟨p1, p2, p3, p4, p5, p6, p7, p8, p9, p10, p11⟩ := h2
  have rows : ∀ q, q = 2 ∨ q = 3 ∨ q = 4 ∨ q = 5 → True := fun _ _ => trivial
  have L := forI (lX6_dismissDancer_1_l26 n) (aC A) (fun i s => k + 1 ≤ i ∧ fr cS m2 s ∧ s.2 = m2.2 ∧ (∀ q, (q = 1 ∨ 6 ≤ q) → s.1 q = m2.1 q) ∧ (∀ b, s.1 2 b = if k ≤ b ∧ b + 1 < i then m2.1 2 (b + 1) else m2.1 2 b) ∧ (∀ b, s.1 3 b = if k ≤ b ∧ b + 1 < i then m2.1 3 (b + 1) else m2.1 3 b) ∧ (∀ b, s.1 4 b = if k ≤ b ∧ b + 1 < i then m2.1 4 (b + 1) else m2.1 4 b) ∧ (∀ b, s.1 5 b = if k ≤ b ∧ b + 1 < i then m2.1 5 (b + 1) else m2.1 5 b)) (fun r => ∃ s, r = some s ∧ fr cS m2 s ∧ s.2 = m2.2 ∧ (∀ q, (q = 1 ∨ 6 ≤ q) → s.1 q = m2.1 q) ∧ (∀ b, s.1 2 b = if k ≤ b ∧ b + 1 < aC A then m2.1 2 (b + 1) else m2.1 2 b) ∧ (∀ b, s.1 3 b = if k ≤ b ∧ b + 1 < aC A then m2.1 3 (b + 1) else m2.1 3 b) ∧ (∀ b, s.1 4 b = if k ≤ b ∧ b + 1 < aC A then m2.1 4 (b + 1) else m2.1 4 b) ∧ (∀ b, s.1 5 b = if k ≤ b ∧ b + 1 < aC A then m2.1 5 (b + 1) else m2.1 5 b)) (fun q i s hi hs => by
    obtain ⟨s0, s1, s2, s3, s4⟩ := hs
    obtain ⟨t1, y1, f1, j1, o1, r1⟩ := c_w s (q := 2) (by omega) (i - 1) (s.1 2 i)
    obtain ⟨t2, y2, f2, j2, o2, r2⟩ := c_w t1 (q := 3) (by omega) (i - 1) (t1.1 3 i)
    obtain ⟨t3, y3, f3, j3, o3, r3⟩ := c_w t2 (q := 4) (by omega) (i - 1) (t2.1 4 i)
    obtain ⟨t4, y4, f4, j4, o4, r4⟩ := c_w t3 (q := 5) (by omega) (i - 1) (t3.1 5 i)
    obtain ⟨s4, s5, s6, s7⟩ := s4
    refine ⟨t4, ⟨by omega, fr_tr (fr_tr s1 (fr_tr f1 f2)) (fr_tr f3 f4), by rw [j4, j3, j2, j1, s2], fun q hq => by rw [o4 q (by omega), o3 q (by omega), o2 q (by omega), o1 q (by omega), s3 q hq],
      shl_step s0 s4 (fun b => by rw [o4 2 (by decide), o3 2 (by decide), o2 2 (by decide), r1]), shl_step s0 s5 (fun b => by rw [o4 3 (by decide), o3 3 (by decide), r2, o1 3 (by decide)]), shl_step s0 s6 (fun b => by rw [o4 4 (by decide), r3, o2 4 (by decide), o1 4 (by decide)]), shl_step s0 s7 (fun b => by rw [r4, o3 5 (by decide), o2 5 (by decide), o1 5 (by decide)])⟩, ?_⟩
    · show bX6_dismissDancer_1_l26 n (lX6_dismissDancer_1_l26 n q) (z (i : Int)) s = _
      unfold bX6_dismissDancer_1_l26
      have i8 : i - 1 < 8 := by omega
      have c1 : s.1 1 1 = z (aC A) := by rw [s3 1 (Or.inl rfl)]; exact p2
      rw [c1, if_pos (zlt (by omega)), z_sub, show (i : Int) - 1 = ((i - 1 : Nat) : Int) by omega, a_2 (by omega), obind, s_2 i8, obind, y1, a_3 (by omega), obind, s_3 i8, obind, y2, a_4 (by omega), obind, s_4 i8, obind, y3, a_5 (by omega), obind, s_5 i8, obind, y4, z_add]) (fun q s hs => by
    obtain ⟨s0, s1, s2, s3, s4⟩ := hs
    refine ⟨s, ?_, s1, s2, s3, s4⟩
    show bX6_dismissDancer_1_l26 n (lX6_dismissDancer_1_l26 n q) (z (aC A : Int)) s = _
    unfold bX6_dismissDancer_1_l26
    have c1 : s.1 1 1 = z (aC A) := by rw [s3 1 (Or.inl rfl)]; exact p2
    rw [c1, if_neg (zge (by omega))]) (aC A - (k + 1)) (k + 1) n m2 (by omega) (by omega) ⟨Nat.le_refl _, fr_rf, rfl, fun _ _ => rfl, fun b => by rw [if_neg (by omega)], fun b => by rw [if_neg (by omega)], fun b => by rw [if_neg (by omega)], fun b => by rw [if_neg (by omega)]⟩
  obtain ⟨m3, e3, f3, j3, o3, r3⟩ := L
  rw [show (k : Int) + 1 = ((k + 1 : Nat) : Int) from rfl, e3, obind]
  obtain ⟨m4, e4, f4, j4, o4, r4⟩ := c_w m3 (q := 1) (by omega) 1 (m3.1 1 1 - z 1)
  rw [e4]
  have k1 : ∀ b, ¬ b = 1 → m4.1 1 b = m2.1 1 b := fun b hb => by rw [r4, if_neg hb, o3 1 (Or.inl rfl)]
  have g : ∀ q, 6 ≤ q → m4.1 q = m2.1 q := fun q hq => by rw [o4 q (by omega), o3 q (Or.inr hq)]
  refine ⟨m4, rfl, fr_tr (fr_tr f1 f2) (fr_tr f3 f4), ?_⟩
  refine ⟨fun k hk => ?_, ?_, ?_, fun i hi => ?_, fun f hf => ?_, ?_, fun i hi => ?_, ?_, ?_, ?_, ?_⟩
  · rw [j4, j3]; exact p1 k hk
  · show m4.1 1 1 = z ((aC A - 1 : Nat) : Int)
    rw [r4, if_pos rfl, o3 1 (Or.inl rfl), show m2.1 1 1 = z (aC A) from p2, z_sub]
    congr 1
    omega
  · rw [k1 _ (by decide)]; exact p3
  · have hi' : i < aC A - 1 := hi
    obtain ⟨r3, r5, r6, r7⟩ := r3
    have v2 := sh_row (f := fun b => (aNu A b : Int)) r3 (fun b hb => (p4 b hb).1) hi'
    have v3 := sh_row (f := fun b => (aCe A b : Int)) r5 (fun b hb => (p4 b hb).2.1) hi'
    have v4 := sh_row (f := fun b => (aNa A b : Int)) r6 (fun b hb => (p4 b hb).2.2.1) hi'
    have v5 := sh_row (f := pSep A k) r7 (fun b hb => (p4 b hb).2.2.2) hi'
    show m4.1 2 i = z ((sh k (aNu A) i : Nat) : Int) ∧ m4.1 3 i = z ((sh k (aCe A) i : Nat) : Int) ∧ m4.1 4 i = z ((sh k (aNa A) i : Nat) : Int) ∧ m4.1 5 i = z (sh k (pSep A k) i)
    rw [o4 2 (by decide), o4 3 (by decide), o4 4 (by decide), o4 5 (by decide), v2, v3, v4, v5]
    unfold sh
    by_cases e : i < k
    · simp only [if_pos e, and_self]
    · simp only [if_neg e, and_self]
  · show m4.1 7 f = _ ∧ ∀ b, _ → m4.1 6 (12 * f + b) = _
    rw [g 7 (by decide), g 6 (by decide)]
    exact p5 f hf
  · rw [k1 _ (by decide)]; exact p6
  · show m4.1 8 i = _
    rw [g 8 (by decide)]
    exact p7 i hi
  · rw [k1 _ (by decide)]; exact p8
  · rw [k1 _ (by decide)]; exact p9
  · rw [k1 _ (by decide)]; exact p10
  · rw [k1 _ (by decide)]; exact p11
theorem c_dismissAll (h : repC 1 m A) (w : wfA A) (hn : 20 ≤ n) : ∃ m', fX6_dismissAll_1 n m = some m' ∧ fr cS m m' ∧ repC 1 m' (uMo (uD A 0 (aX A) (aNu A) (aCe A) (aNa A) (aPa A)) (aLo A) (aBr A) (aGi A) (aGo A + z ((nsum (aNa A) (aC A) : Nat) : Int))) := by
  unfold fX6_dismissAll_1
  rw [c_sumOfNails h w hn, obind, pmLet_eq]
  obtain ⟨p1, p2, p3, p4, p5, p6, p7, p8, p9, p10, p11⟩ := h
  obtain ⟨m1, e1, f1, j1, o1, r1⟩ := c_w m (q := 1) (by omega) 14 (m.1 1 14 + z ((nsum (aNa A) (aC A) : Nat) : Int))
  rw [e1]
  obtain ⟨m2, e2, f2, j2, o2, r2⟩ := c_w m1 (q := 1) (by omega) 1 (z 0)
  rw [e2]
  have k1 : ∀ b, ¬ b = 1 → ¬ b = 14 → m2.1 1 b = m.1 1 b := fun b h1 h2 => by rw [r2, if_neg h1, r1, if_neg h2]
  have g : ∀ q, ¬ q = 1 → m2.1 q = m.1 q := fun q hq => by rw [o2 q hq, o1 q hq]
  refine ⟨m2, rfl, fr_tr f1 f2, fun k hk => ?_, ?_, ?_, fun i hi => absurd hi (Nat.not_lt_zero _), fun f hf => ?_, ?_, fun i hi => ?_, ?_, ?_, ?_, ?_⟩
  · rw [j2, j1]; exact p1 k hk
  · show m2.1 1 1 = z ((0 : Nat) : Int)
    rw [r2, if_pos rfl]
    rfl
  · rw [k1 _ (by decide) (by decide)]; exact p3
  · show m2.1 7 f = _ ∧ ∀ b, _ → m2.1 6 (12 * f + b) = _
    rw [g 7 (by decide), g 6 (by decide)]
    exact p5 f hf
  · rw [k1 _ (by decide) (by decide)]; exact p6
  · show m2.1 8 i = _
    rw [g 8 (by decide)]
    exact p7 i hi
  · rw [k1 _ (by decide) (by decide)]; exact p8
  · rw [k1 _ (by decide) (by decide)]; exact p9
  · rw [k1 _ (by decide) (by decide)]; exact p10
  · show m2.1 1 14 = _
    rw [r2, if_neg (by decide), r1, if_pos rfl, p11]
    rfl
end OPS6

