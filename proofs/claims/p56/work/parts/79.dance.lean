/-! figures: what a beat does -/
def mirr (v : Nat) : Nat := if v = 2 then 3 else if v = 3 then 2 else v
/-- cells where neither of the two can come -/
def shut (A : Ab) (k : Nat) (o : Option Nat) (c : Nat) : Bool := aP A c || (List.range (aC A)).any fun j => !decide (j = k) && (!decide (some j = o) && decide (c = aCe A j))
theorem shut_iff {A : Ab} {k c : Nat} {o : Option Nat} : shut A k o c = true ↔ aP A c = true ∨ ∃ j, j < aC A ∧ ¬ j = k ∧ ¬ some j = o ∧ c = aCe A j := by
  unfold shut
  simp only [Bool.or_eq_true, List.any_eq_true, List.mem_range, Bool.and_eq_true, Bool.not_eq_true', decide_eq_true_eq, decide_eq_false_iff_not]
def dBeat (A : Ab) (k : Nat) (o : Option Nat) (v : Nat) : Option (Ab × Nat) :=
  if v = 4 then some (A, 0) else match nb (aCe A k) v with
  | none => none
  | some t => if aNa A k = 0 ∨ shut A k o t = true then none else match o with
    | none => some (uMv A (fun i => if i = k then t else aCe A i) (fun i => if i = k then aNa A k - 1 else aNa A i) (aLo A + z 1), 1)
    | some j => match nb (aCe A j) (mirr v) with
      | none => none
      | some u => if aNa A j = 0 ∨ shut A k o u = true then none else if t = u ∨ (t = aCe A j ∧ u = aCe A k) then none else
        some (uMv A (fun i => if i = j then u else if i = k then t else aCe A i) (fun i => if i = j then aNa A j - 1 else if i = k then aNa A k - 1 else aNa A i) (aLo A + z 2), 2)
/-- the beats from b on, d of them at most: where it stops, and how the stage is then -/
def dDan (k : Nat) (o : Option Nat) (fm : Nat → Nat) : Nat → Nat → Ab → Nat → Nat × Ab × Nat
  | 0, b, A, c => (b, A, c)
  | d + 1, b, A, c => match dBeat A k o (fm b) with
    | none => (b, A, c)
    | some (A', e) => dDan k o fm d (b + 1) A' (c + e)
def par (A : Ab) (k : Nat) : Option Nat := slot A (aPa A k)
/-- two dancers by their places -/
def Two (A : Ab) (k : Nat) (o : Option Nat) : Prop := k < aC A ∧ ∀ j, o = some j → j < aC A ∧ ¬ j = k
theorem par_two {A : Ab} (w : wfA A) {k : Nat} (hk : k < aC A) : Two A k (par A k) := by
  refine ⟨hk, fun j hj => ?_⟩
  unfold par at hj
  by_cases e : aPa A k = -1
  · rw [e] at hj
    have := (slot_lt hj).2
    omega
  · obtain ⟨i, h1, h2, h3, -⟩ := slot_pa w hk e
    rw [h3] at hj
    cases hj
    exact ⟨h1, h2⟩
/-- the stage while a figure is danced -/
def DR (A0 : Ab) (k : Nat) (o : Option Nat) (A : Ab) (c : Nat) : Prop := ∃ ce na, A = uMv A0 ce na (aLo A0 + z c) ∧ ∀ i, i < aC A0 → ¬ i = k → ¬ some i = o → ce i = aCe A0 i ∧ na i = aNa A0 i
theorem DR_0 {A0 : Ab} {k : Nat} {o : Option Nat} : DR A0 k o A0 0 := ⟨aCe A0, aNa A0, by
  show A0 = uMv A0 (aCe A0) (aNa A0) (aLo A0 + 0)
  rw [Int32.add_zero]
  rfl, fun _ _ _ _ => ⟨rfl, rfl⟩⟩
theorem beat_ok {A A' : Ab} {k v e : Nat} {o : Option Nat} (w : wfA A) (t : Two A k o) (h : dBeat A k o v = some (A', e)) : e ≤ 2 ∧ wfA A' ∧ (∃ ce na, A' = uMv A ce na (aLo A + z e) ∧ ∀ i, i < aC A → ¬ i = k → ¬ some i = o → ce i = aCe A i ∧ na i = aNa A i) ∧ ∀ c, c < 64 → shut A' k o c = shut A k o c := by
  have w3 := w.2.2.1
  have w4 := w.2.2.2.1
  have shu : ∀ ce na lo, (∀ i, i < aC A → ¬ i = k → ¬ some i = o → ce i = aCe A i) → ∀ c, shut (uMv A ce na lo) k o c = shut A k o c := fun ce na lo hce c => by
    rw [Bool.eq_iff_iff, shut_iff, shut_iff]
    constructor
    · rintro (h | ⟨j, h1, h2, h3, h4⟩)
      · exact Or.inl h
      · exact Or.inr ⟨j, h1, h2, h3, h4.trans (hce j h1 h2 h3)⟩
    · rintro (h | ⟨j, h1, h2, h3, h4⟩)
      · exact Or.inl h
      · exact Or.inr ⟨j, h1, h2, h3, h4.trans (hce j h1 h2 h3).symm⟩
  have nsh : ∀ t, ¬ shut A k o t = true → aP A t = false ∧ ∀ j, j < aC A → ¬ j = k → ¬ some j = o → ¬ t = aCe A j := fun t h => by
    rw [shut_iff] at h
    exact ⟨Bool.eq_false_iff.mpr fun g => h (Or.inl g), fun j h1 h2 h3 h4 => h (Or.inr ⟨j, h1, h2, h3, h4⟩)⟩
  have dif : ∀ i j, i < aC A → j < aC A → ¬ i = j → ¬ aCe A i = aCe A j := fun i j hi hj hij => by
    rcases Nat.lt_or_ge i j with g | g
    · exact (w4 i j g hj).2
    · exact fun e => (w4 j i (by omega) hi).2 e.symm
  unfold dBeat at h
  by_cases e4 : v = 4
  · rw [if_pos e4] at h
    cases h
    refine ⟨by omega, w, ⟨aCe A, aNa A, ?_, fun _ _ _ _ => ⟨rfl, rfl⟩⟩, fun _ _ => rfl⟩
    show A = uMv A (aCe A) (aNa A) (aLo A + 0)
    rw [Int32.add_zero]
    rfl
  · rw [if_neg e4] at h
    cases ht : nb (aCe A k) v with
    | none => rw [ht] at h; cases h
    | some t' =>
      rw [ht] at h
      dsimp only at h
      have t64 := nb_lt (w3 k t.1).2.1 ht
      by_cases hb : aNa A k = 0 ∨ shut A k o t' = true
      · rw [if_pos hb] at h; cases h
      · rw [if_neg hb] at h
        have hn : ¬ aNa A k = 0 := fun g => hb (Or.inl g)
        obtain ⟨s1, s2⟩ := nsh t' (fun g => hb (Or.inr g))
        have n3 := (w3 k t.1).2.2.1
        cases o with
        | none =>
          cases h
          refine ⟨by omega, wf_mv w (fun i hi => ?_) (fun i j hij hj => ?_) ?_, ⟨_, _, rfl, fun i _ h1 _ => ⟨if_neg h1, if_neg h1⟩⟩, fun c _ => shu _ _ _ (fun i _ h1 _ => if_neg h1) c⟩
          · try dsimp only
            by_cases e : i = k
            · rw [if_pos e, if_pos e]
              exact ⟨t64, by omega, s1⟩
            · rw [if_neg e, if_neg e]
              exact (w3 i hi).2
          · try dsimp only
            by_cases e1 : i = k
            · rw [if_pos e1, if_neg (by omega)]
              exact s2 j hj (by omega) (fun g => nomatch g)
            · rw [if_neg e1]
              by_cases e2 : j = k
              · rw [if_pos e2]
                exact fun g => s2 i (by omega) e1 (fun g => nomatch g) g.symm
              · rw [if_neg e2]
                exact (w4 i j hij hj).2
          · have hs := nsum_set (f := aNa A) (k := k) (v := aNa A k - 1) t.1
            have e : z ((nsum (fun i => if i = k then aNa A k - 1 else aNa A i) (aC A) : Nat) : Int) + z 1 = z ((nsum (aNa A) (aC A) : Nat) : Int) := by
              rw [z_add]
              congr 1
              omega
            rw [← e]
            grind
        | some j =>
          dsimp only at h
          obtain ⟨hj, hjk⟩ := t.2 j rfl
          cases hu : nb (aCe A j) (mirr v) with
          | none => rw [hu] at h; cases h
          | some u =>
            rw [hu] at h
            dsimp only at h
            have u64 := nb_lt (w3 j hj).2.1 hu
            by_cases hb2 : aNa A j = 0 ∨ shut A k (some j) u = true
            · rw [if_pos hb2] at h; cases h
            · rw [if_neg hb2] at h
              by_cases hx : t' = u ∨ (t' = aCe A j ∧ u = aCe A k)
              · rw [if_pos hx] at h; cases h
              · rw [if_neg hx] at h
                cases h
                have hn2 : ¬ aNa A j = 0 := fun g => hb2 (Or.inl g)
                obtain ⟨s3, s4⟩ := nsh u (fun g => hb2 (Or.inr g))
                have n4 := (w3 j hj).2.2.1
                have oth : ∀ i, ¬ i = k → ¬ some i = some j → ¬ i = j := fun i _ h2 h3 => h2 (by rw [h3])
                refine ⟨by omega, wf_mv w (fun i hi => ?_) (fun i i' hij hj' => ?_) ?_, ⟨_, _, rfl, fun i _ h1 h2 => ?_⟩, fun c _ => shu _ _ _ (fun i _ h1 h2 => ?_) c⟩
                · try dsimp only
                  by_cases e : i = j
                  · rw [if_pos e, if_pos e]
                    exact ⟨u64, by omega, s3⟩
                  · rw [if_neg e, if_neg e]
                    by_cases e' : i = k
                    · rw [if_pos e', if_pos e']
                      exact ⟨t64, by omega, s1⟩
                    · rw [if_neg e', if_neg e']
                      exact (w3 i hi).2
                · try dsimp only
                  have hi : i < aC A := by omega
                  have hii : ¬ i = i' := by omega
                  have htu : ¬ t' = u := fun g => hx (Or.inl g)
                  have q : ∀ i, ¬ i = j → ¬ some i = some j := fun i g g2 => g (Option.some.inj g2)
                  by_cases e1 : i = j
                  · rw [if_pos e1, if_neg (show ¬ i' = j by omega)]
                    by_cases e2 : i' = k
                    · rw [if_pos e2]
                      exact fun g => htu g.symm
                    · rw [if_neg e2]
                      exact s4 i' hj' e2 (q i' (by omega))
                  · rw [if_neg e1]
                    by_cases e2 : i = k
                    · rw [if_pos e2]
                      by_cases e3 : i' = j
                      · rw [if_pos e3]; exact htu
                      · rw [if_neg e3, if_neg (show ¬ i' = k by omega)]
                        exact s2 i' hj' (by omega) (q i' e3)
                    · rw [if_neg e2]
                      by_cases e3 : i' = j
                      · rw [if_pos e3]
                        exact fun g => s4 i hi e2 (q i e1) g.symm
                      · rw [if_neg e3]
                        by_cases e5 : i' = k
                        · rw [if_pos e5]
                          exact fun g => s2 i hi e2 (q i e1) g.symm
                        · rw [if_neg e5]
                          exact dif i i' hi hj' hii
                · have hs1 := nsum_set (f := aNa A) (k := k) (v := aNa A k - 1) t.1
                  have hs2 := nsum_set (f := fun i => if i = k then aNa A k - 1 else aNa A i) (k := j) (v := aNa A j - 1) hj
                  rw [if_neg hjk] at hs2
                  have e : z ((nsum (fun i => if i = j then aNa A j - 1 else if i = k then aNa A k - 1 else aNa A i) (aC A) : Nat) : Int) + z 2 = z ((nsum (aNa A) (aC A) : Nat) : Int) := by
                    rw [z_add]
                    congr 1
                    omega
                  rw [← e]
                  grind
                · try dsimp only
                  rw [if_neg (oth i h1 h2), if_neg h1, if_neg (oth i h1 h2), if_neg h1]
                  exact ⟨rfl, rfl⟩
                · try dsimp only
                  rw [if_neg (oth i h1 h2), if_neg h1]
theorem DR_st {A0 A A' : Ab} {k v c e : Nat} {o : Option Nat} (h : DR A0 k o A c) (w : wfA A) (t : Two A k o) (hb : dBeat A k o v = some (A', e)) : DR A0 k o A' (c + e) := by
  obtain ⟨ce, na, rfl, h2⟩ := h
  obtain ⟨-, -, ⟨ce', na', rfl, h4⟩, -⟩ := beat_ok w t hb
  refine ⟨ce', na', ?_, fun i h5 h6 h7 => ⟨(h4 i h5 h6 h7).1.trans (h2 i h5 h6 h7).1, (h4 i h5 h6 h7).2.trans (h2 i h5 h6 h7).2⟩⟩
  show uMv A0 ce' na' (aLo A0 + z (c : Int) + z (e : Int)) = uMv A0 ce' na' (aLo A0 + z ((c + e : Nat) : Int))
  rw [Int32.add_assoc, z_add]
  rfl
theorem DR_two {A0 A : Ab} {k c : Nat} {o : Option Nat} (h : DR A0 k o A c) (t : Two A0 k o) : Two A k o := by
  obtain ⟨ce, na, rfl, -⟩ := h
  exact t
theorem dan_ok {A0 : Ab} {k : Nat} {o : Option Nat} {fm : Nat → Nat} (t : Two A0 k o) : ∀ {d b : Nat} {A : Ab} {c : Nat}, DR A0 k o A c → wfA A → DR A0 k o (dDan k o fm d b A c).2.1 (dDan k o fm d b A c).2.2 ∧ wfA (dDan k o fm d b A c).2.1 ∧ (dDan k o fm d b A c).1 ≤ b + d ∧ (dDan k o fm d b A c).2.2 ≤ c + 2 * d
  | 0, b, A, c, h, w => ⟨h, w, Nat.le_refl _, Nat.le_refl _⟩
  | d + 1, b, A, c, h, w => by
    unfold dDan
    cases hb : dBeat A k o (fm b) with
    | none => exact ⟨h, w, by show b ≤ _; omega, by show c ≤ _; omega⟩
    | some q =>
      obtain ⟨A', e⟩ := q
      have t' := DR_two h t
      obtain ⟨g1, g2, -, -⟩ := beat_ok w t' hb
      obtain ⟨k1, k2, k3, k4⟩ := dan_ok (fm := fm) t (d := d) (b := b + 1) (c := c + e) (DR_st h w t' hb) g2
      refine ⟨k1, k2, ?_, ?_⟩
      · show (dDan k o fm d (b + 1) A' (c + e)).1 ≤ _
        omega
      · show (dDan k o fm d (b + 1) A' (c + e)).2.2 ≤ _
        omega

