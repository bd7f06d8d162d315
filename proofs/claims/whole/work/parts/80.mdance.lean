/-! figures: the model dances -/
def barr (A : Ab) (i : Nat) (q : Option Nat) : Option Nat → Bool
  | none => true
  | some c => decide (aNa A i = 0) || shut A i q c
theorem ce_inj {A : Ab} (w : wfA A) {i j : Nat} (hi : i < aC A) (hj : j < aC A) (e : aCe A i = aCe A j) : i = j := by
  rcases Nat.lt_trichotomy i j with g | g | g
  · exact absurd e (w.2.2.2.1 i j g hj).2
  · exact g
  · exact absurd e.symm (w.2.2.2.1 j i g hi).2
theorem shut_sy {A : Ab} {k j c : Nat} : shut A j (some k) c = shut A k (some j) c := by
  rw [Bool.eq_iff_iff, shut_iff, shut_iff]
  have q : ∀ a b i : Nat, (¬ i = a ∧ ¬ some i = some b) → (¬ i = b ∧ ¬ some i = some a) := fun a b i h => ⟨fun g => h.2 (by rw [g]), fun g => h.1 (Option.some.inj g)⟩
  constructor
  · rintro (h | ⟨i, h1, h2, h3, h4⟩)
    · exact Or.inl h
    · exact Or.inr ⟨i, h1, (q j k i ⟨h2, h3⟩).1, (q j k i ⟨h2, h3⟩).2, h4⟩
  · rintro (h | ⟨i, h1, h2, h3, h4⟩)
    · exact Or.inl h
    · exact Or.inr ⟨i, h1, (q k j i ⟨h2, h3⟩).1, (q k j i ⟨h2, h3⟩).2, h4⟩
theorem beat_n0 {A : Ab} {k v : Nat} (hv : ¬ v = 4) : dBeat A k none v = none ↔ barr A k none (nb (aCe A k) v) = true := by
  unfold dBeat
  rw [if_neg hv]
  cases nb (aCe A k) v with
  | none => exact ⟨fun _ => rfl, fun _ => rfl⟩
  | some t =>
    show (if aNa A k = 0 ∨ shut A k none t = true then none else _) = none ↔ (decide (aNa A k = 0) || shut A k none t) = true
    rw [Bool.or_eq_true, decide_eq_true_eq]
    by_cases h : aNa A k = 0 ∨ shut A k none t = true
    · rw [if_pos h]
      exact ⟨fun _ => h, fun _ => rfl⟩
    · rw [if_neg h]
      exact ⟨fun g => (nomatch g), fun g => absurd g h⟩
theorem beat_n1 {A : Ab} {k j v : Nat} (hv : ¬ v = 4) : dBeat A k (some j) v = none ↔ barr A k (some j) (nb (aCe A k) v) = true ∨ barr A j (some k) (nb (aCe A j) (mirr v)) = true ∨ nb (aCe A k) v = nb (aCe A j) (mirr v) ∨ (nb (aCe A k) v = some (aCe A j) ∧ nb (aCe A j) (mirr v) = some (aCe A k)) := by
  unfold dBeat
  rw [if_neg hv]
  cases nb (aCe A k) v with
  | none => exact ⟨fun _ => Or.inl rfl, fun _ => rfl⟩
  | some t =>
    dsimp only
    by_cases h : aNa A k = 0 ∨ shut A k (some j) t = true
    · rw [if_pos h]
      refine ⟨fun _ => Or.inl ?_, fun _ => rfl⟩
      show (decide (aNa A k = 0) || shut A k (some j) t) = true
      rw [Bool.or_eq_true, decide_eq_true_eq]
      exact h
    · have h' : ¬ barr A k (some j) (some t) = true := by
        show ¬ (decide (aNa A k = 0) || shut A k (some j) t) = true
        rw [Bool.or_eq_true, decide_eq_true_eq]
        exact h
      rw [if_neg h]
      cases nb (aCe A j) (mirr v) with
      | none => exact ⟨fun _ => Or.inr (Or.inl rfl), fun _ => rfl⟩
      | some u =>
        dsimp only
        have e1 : barr A j (some k) (some u) = true ↔ aNa A j = 0 ∨ shut A k (some j) u = true := by
          show (decide (aNa A j = 0) || shut A j (some k) u) = true ↔ _
          rw [Bool.or_eq_true, decide_eq_true_eq, shut_sy]
        by_cases h2 : aNa A j = 0 ∨ shut A k (some j) u = true
        · rw [if_pos h2]
          exact ⟨fun _ => Or.inr (Or.inl (e1.mpr h2)), fun _ => rfl⟩
        · rw [if_neg h2]
          by_cases h3 : t = u ∨ (t = aCe A j ∧ u = aCe A k)
          · rw [if_pos h3]
            refine ⟨fun _ => Or.inr (Or.inr ?_), fun _ => rfl⟩
            rcases h3 with h3 | ⟨h3, h4⟩
            · exact Or.inl (by rw [h3])
            · exact Or.inr ⟨by rw [h3], by rw [h4]⟩
          · rw [if_neg h3]
            refine ⟨fun g => (nomatch g), fun g => ?_⟩
            rcases g with g | g | g | ⟨g1, g2⟩
            · exact absurd g h'
            · exact absurd (e1.mp g) h2
            · exact absurd (Or.inl (Option.some.inj g)) h3
            · exact absurd (Or.inr ⟨Option.some.inj g1, Option.some.inj g2⟩) h3
theorem letr_b : ∀ v : Nat, v < 5 → (0 ≤ letr v ∧ letr v ≤ 100) ∧ (letr v = 83 ↔ v = 4) := by decide
theorem mirr_lt : ∀ v : Nat, v < 4 → mirr v < 4 := by decide
theorem m_mirr0 : ∀ v : Nat, v < 5 → fX9_mirrored (z (letr v)) m00 = some (z (letr (mirr v))) := by decide +kernel
theorem m_mirr {v : Nat} (hv : v < 5) (m : pmI) : fX9_mirrored (z (letr v)) m = some (z (letr (mirr v))) := m_mirr0 v hv
section MDANCE
variable {m : pmI} {A : Ab} {n : Nat}
theorem m_isBarred (h : repR (m.1 114) A) (w : wfA A) (hn : 20 ≤ n) {i : Nat} {q t : Option Nat} (hi : i < aC A) (hq : ∀ j, q = some j → j < aC A) (ht : ∀ c, t = some c → c < 64) : fX9_isBarred n (z (i : Int)) (z (oz q)) (z (oz t)) m = some (if barr A i q t = true then z 1 else z 0) := by
  have w1 := w.1
  unfold fX9_isBarred
  cases t with
  | none =>
    rw [oz_n, if_pos (by decide), if_pos (show barr A i q none = true from rfl)]
  | some c =>
    have hc := ht c rfl
    have n3 := (w.2.2.1 i hi).2.2.1
    have eb : barr A i q (some c) = (decide (aNa A i = 0) || shut A i q c) := rfl
    rw [oz_s, if_neg (zge (by omega)), show fX9_of (z (i : Int)) (z 2) m = _ from mr_of (j := 2) h hi w1 (by decide), obind, (h.2.1.2.2 i hi).2.2.1]
    by_cases h0 : aNa A i = 0
    · rw [if_pos (by rw [h0]; rfl), if_pos (by rw [eb, decide_eq_true h0]; rfl)]
    · have hz : ¬ z (aNa A i : Int) = z 0 := zne (by omega)
      rw [if_neg hz, m_isProp h hc, obind]
      have yes : shut A i q c = true → barr A i q (some c) = true := fun g => by rw [eb, g, Bool.or_true]
      have no : shut A i q c = false → ¬ barr A i q (some c) = true := fun g => by rw [eb, g, decide_eq_false h0]; decide
      by_cases hp : aP A c = true
      · rw [if_pos hp, if_neg z10, if_pos (yes (shut_iff.mpr (Or.inl hp)))]
      · rw [if_neg hp, if_pos rfl, m_on (n := n) h w hn (by omega), obind]
        cases hs : spot A (c : Int) with
        | none =>
          rw [oz_n, if_pos (by decide), if_neg (no (Bool.eq_false_iff.mpr fun g => ?_))]
          rcases shut_iff.mp g with g | ⟨j, g1, g2, g3, g4⟩
          · exact hp g
          · exact spot_iff.mpr ⟨j, g1, g4⟩ hs
        | some j =>
          have f1 := (ff_some hs).2.1
          have f2 : (aCe A j : Int) = (c : Int) := of_decide_eq_true (ff_some hs).2.2.1
          have hj : j < aC A := by omega
          have hjc : c = aCe A j := by omega
          have nn : (j = i ∨ some j = q) → ¬ barr A i q (some c) = true := fun hh => no (Bool.eq_false_iff.mpr fun g => by
            rcases shut_iff.mp g with g | ⟨j', g1, g2, g3, g4⟩
            · exact hp g
            · have := ce_inj w g1 hj (by rw [← g4, hjc])
              rcases hh with hh | hh
              · exact g2 (by rw [this, hh])
              · exact g3 (by rw [this, hh]))
          rw [oz_s, if_neg (zge (by omega))]
          by_cases e1 : j = i
          · rw [if_pos (by rw [e1]), if_neg (nn (Or.inl e1))]
          · rw [if_neg (zne (by omega))]
            cases q with
            | none =>
              rw [oz_n, if_neg (zne (by omega)), if_pos (yes (shut_iff.mpr (Or.inr ⟨j, hj, e1, fun g => (nomatch g), hjc⟩)))]
            | some j' =>
              have := hq j' rfl
              rw [oz_s]
              by_cases e2 : j = j'
              · rw [if_pos (by rw [e2]), if_neg (nn (Or.inr (by rw [e2])))]
              · rw [if_neg (zne (by omega)), if_pos (yes (shut_iff.mpr (Or.inr ⟨j, hj, e1, fun g => e2 (Option.some.inj g), hjc⟩)))]
theorem nb64 {A : Ab} (w : wfA A) {i v : Nat} (hi : i < aC A) : ∀ c, nb (aCe A i) v = some c → c < 64 := fun _ h => nb_lt (w.2.2.1 i hi).2.1 h
theorem m_blocks75 (h : repR (m.1 114) A) (w : wfA A) (hn : 20 ≤ n) {k j v : Nat} (hk : k < aC A) (hj : j < aC A) (hv : v < 4) (b : Bool) : jX9_blocks_75 n (z (k : Int)) (z (j : Int)) (z (oz (nb (aCe A k) v))) (z (oz (nb (aCe A j) (mirr v)))) (z (if b = true then 1 else 0)) m = some (if (barr A k (some j) (nb (aCe A k) v) = true ∨ barr A j (some k) (nb (aCe A j) (mirr v)) = true ∨ nb (aCe A k) v = nb (aCe A j) (mirr v) ∨ b = true) then z 1 else z 0) := by
  have w3 := w.2.2.1
  unfold jX9_blocks_75
  rw [show z (j : Int) = z (oz (some j)) from rfl, m_isBarred h w hn hk (fun _ g => by cases g; exact hj) (nb64 w hk), obind]
  by_cases h1 : barr A k (some j) (nb (aCe A k) v) = true
  · rw [if_pos h1, if_neg z10, if_pos (Or.inl h1)]
  · rw [if_neg h1, if_pos rfl, show z (oz (some j)) = z (j : Int) from rfl, show z (k : Int) = z (oz (some k)) from rfl, m_isBarred h w hn hj (fun _ g => by cases g; exact hk) (nb64 w hj), obind]
    by_cases h2 : barr A j (some k) (nb (aCe A j) (mirr v)) = true
    · rw [if_pos h2, if_neg z10, if_pos (Or.inr (Or.inl h2))]
    · rw [if_neg h2, if_pos rfl]
      have hz : z (oz (nb (aCe A k) v)) = z (oz (nb (aCe A j) (mirr v))) ↔ nb (aCe A k) v = nb (aCe A j) (mirr v) := by
        refine ⟨fun g => ?_, fun g => by rw [g]⟩
        cases e1 : nb (aCe A k) v with
        | none => exact absurd (by rw [e1]; rfl) h1
        | some t =>
          cases e2 : nb (aCe A j) (mirr v) with
          | none => exact absurd (by rw [e2]; rfl) h2
          | some u =>
            have := nb64 w hk t e1
            have := nb64 w hj u e2
            rw [e1, e2, oz_s, oz_s, z_eq (by omega)] at g
            congr 1
            omega
      by_cases h3 : nb (aCe A k) v = nb (aCe A j) (mirr v)
      · rw [if_pos (hz.mpr h3), if_pos (Or.inr (Or.inr (Or.inl h3)))]
      · rw [if_neg (fun g => h3 (hz.mp g))]
        cases b with
        | true => rw [if_neg (by decide), if_pos (Or.inr (Or.inr (Or.inr rfl)))]
        | false =>
          rw [if_pos (by decide), if_neg]
          rintro (g | g | g | g)
          · exact h1 g
          · exact h2 g
          · exact h3 g
          · cases g
theorem m_blocks (h : repR (m.1 114) A) (w : wfA A) (hn : 20 ≤ n) {k v : Nat} {o : Option Nat} (t : Two A k o) (hv : v < 5) : fX9_blocks n (z (k : Int)) (z (oz o)) (z (letr v)) m = some (if dBeat A k o v = none then z 1 else z 0) := by
  have w1 := w.1
  have w3 := w.2.2.1
  have hl := letr_b v hv
  unfold fX9_blocks
  by_cases e4 : v = 4
  · rw [if_pos (by rw [e4]; rfl), if_neg (by rw [e4]; exact fun g => nomatch g)]
  · have hz : ¬ z (letr v) = z 83 := zne ⟨by omega, fun g => e4 (hl.2.mp g)⟩
    rw [if_neg hz, show fX9_of (z (k : Int)) (z 1) m = _ from mr_of (j := 1) h t.1 w1 (by decide), obind, (h.2.1.2.2 k t.1).2.1, m_moved (w3 k t.1).2.1 (by omega), obind]
    cases o with
    | none =>
      rw [oz_n, if_pos (by decide), show z (-1) = z (oz none) from rfl, m_isBarred (q := none) h w hn t.1 (fun _ g => (nomatch g)) (nb64 w t.1), obind]
      by_cases hb : barr A k none (nb (aCe A k) v) = true
      · rw [if_pos hb, if_pos (Or.inr rfl), if_pos ((beat_n0 e4).mpr hb)]
      · rw [if_neg hb, if_pos (Or.inl rfl), if_neg (fun g => hb ((beat_n0 e4).mp g))]
    | some j =>
      obtain ⟨hj, hjk⟩ := t.2 j rfl
      have gj : fX9_of (z (j : Int)) (z 1) m = some (z (aCe A j : Int)) := by rw [show fX9_of (z (j : Int)) (z 1) m = _ from mr_of (j := 1) h hj w1 (by decide), (h.2.1.2.2 j hj).2.1]
      have gk : fX9_of (z (k : Int)) (z 1) m = some (z (aCe A k : Int)) := by rw [show fX9_of (z (k : Int)) (z 1) m = _ from mr_of (j := 1) h t.1 w1 (by decide), (h.2.1.2.2 k t.1).2.1]
      have hm := mirr_lt v (by omega)
      have c1 := (w3 j hj).2.1
      have c2 := (w3 k t.1).2.1
      rw [oz_s, if_neg (zge (by omega)), gj, obind, m_mirr hv, obind, m_moved c1 (by omega), obind, obind]
      have zz : ∀ (p : Option Nat) (c : Nat), (∀ t, p = some t → t < 64) → c < 64 → (z (oz p) = z (c : Int) ↔ p = some c) := fun p c hp hc => by
        cases p with
        | none => exact ⟨fun g => absurd g (by rw [oz_n]; exact zne (by omega)), fun g => nomatch g⟩
        | some t =>
          have := hp t rfl
          rw [oz_s, z_eq (by omega)]
          exact ⟨fun g => by rw [show t = c by omega], fun g => by cases g; rfl⟩
      have q1 := zz (nb (aCe A k) v) (aCe A j) (nb64 w t.1) c1
      have q2 := zz (nb (aCe A j) (mirr v)) (aCe A k) (nb64 w hj) c2
      have f1 := m_blocks75 h w hn t.1 hj (show v < 4 by omega) true
      have f0 := m_blocks75 h w hn t.1 hj (show v < 4 by omega) false
      have f1 : jX9_blocks_75 n (z (k : Int)) (z (j : Int)) (z (oz (nb (aCe A k) v))) (z (oz (nb (aCe A j) (mirr v)))) (z 1) m = _ := f1
      have f0 : jX9_blocks_75 n (z (k : Int)) (z (j : Int)) (z (oz (nb (aCe A k) v))) (z (oz (nb (aCe A j) (mirr v)))) (z 0) m = _ := f0
      have b1 := beat_n1 (A := A) (k := k) (j := j) e4
      unfold jX9_blocks_74
      have fin0 : ¬ (nb (aCe A k) v = some (aCe A j) ∧ nb (aCe A j) (mirr v) = some (aCe A k)) → jX9_blocks_75 n (z (k : Int)) (z (j : Int)) (z (oz (nb (aCe A k) v))) (z (oz (nb (aCe A j) (mirr v)))) (z 0) m = some (if dBeat A k (some j) v = none then z 1 else z 0) := fun hne => by
        rw [f0]
        by_cases hd : dBeat A k (some j) v = none
        · rw [if_pos hd, if_pos]
          rcases b1.mp hd with g | g | g | g
          · exact Or.inl g
          · exact Or.inr (Or.inl g)
          · exact Or.inr (Or.inr (Or.inl g))
          · exact absurd g hne
        · rw [if_neg hd, if_neg]
          rintro (g | g | g | g)
          · exact hd (b1.mpr (Or.inl g))
          · exact hd (b1.mpr (Or.inr (Or.inl g)))
          · exact hd (b1.mpr (Or.inr (Or.inr (Or.inl g))))
          · cases g
      by_cases e1 : nb (aCe A k) v = some (aCe A j)
      · rw [if_pos (q1.mpr e1), obind]
        by_cases e2 : nb (aCe A j) (mirr v) = some (aCe A k)
        · rw [if_pos (q2.mpr e2), f1, if_pos (Or.inr (Or.inr (Or.inr rfl))), if_pos (b1.mpr (Or.inr (Or.inr (Or.inr ⟨e1, e2⟩))))]
        · rw [if_neg (fun g => e2 (q2.mp g))]
          exact fin0 (fun g => e2 g.2)
      · rw [if_neg (fun g => e1 (q1.mp g))]
        exact fin0 (fun g => e1 g.1)
def dfr (m m' : pmI) : Prop := m'.2 = m.2 ∧ ∀ a, ¬ a = 114 → m'.1 a = m.1 a
theorem dfr_tr {m m1 m2 : pmI} (h1 : dfr m m1) (h2 : dfr m1 m2) : dfr m m2 := ⟨h2.1.trans h1.1, fun a ha => (h2.2 a ha).trans (h1.2 a ha)⟩
def efr (m m' : pmI) : Prop := m'.2 = m.2 ∧ (∀ a, ¬ a = 113 → ¬ a = 114 → m'.1 a = m.1 a) ∧ ∀ x, ¬ x = 13 → m'.1 113 x = m.1 113 x
theorem efr_tr {m m1 m2 : pmI} (h1 : efr m m1) (h2 : efr m1 m2) : efr m m2 := ⟨h2.1.trans h1.1, fun a ha hb => (h2.2.1 a ha hb).trans (h1.2.1 a ha hb), fun x hx => (h2.2.2 x hx).trans (h1.2.2 x hx)⟩
theorem efr_d {m m1 : pmI} (h : dfr m m1) : efr m m1 := ⟨h.1, fun a _ hb => h.2 a hb, fun x _ => by rw [h.2 113 (by decide)]⟩
theorem mfr_e {m m1 : pmI} (h : efr m m1) : mfr m m1 := ⟨fun i hi => h.2.1 i (by omega) (by omega), h.1, fun k hk => h.2.2 k (by omega)⟩
theorem m_setsX {k j : Nat} (hk : k < 8) (hj : j < 4) (x : Int32) (m : pmI) : ∃ m', fX9_sets (z (k : Int)) (z (j : Int)) x m = some m' ∧ dfr m m' ∧ ∀ b, m'.1 114 b = if b = 72 + 4 * k + j then x else m.1 114 b := by
  obtain ⟨m', e, h1, h2, h3⟩ := w_1 m 114 (72 + 4 * k + j) x
  refine ⟨m', ?_, ⟨h1, h2⟩, h3⟩
  unfold fX9_sets
  rw [z_mul, z_add, z_add, if_pos (okI_z (by omega)), z_natI (by omega), show (72 + 4 * (k : Int) + (j : Int)).toNat = 72 + 4 * k + j by omega, e]
theorem m_wears {i : Nat} (hi : i < 8) (t : Int32) : ∃ m', fX9_wears (z (i : Int)) t m = some (z 1, m') ∧ dfr m m' ∧ ∀ b, m'.1 114 b = if b = 7 then m.1 114 7 + z 1 else if b = 72 + 4 * i + 2 then m.1 114 b - z 1 else if b = 72 + 4 * i + 1 then t else m.1 114 b := by
  obtain ⟨m1, e1, f1, r1⟩ := m_setsX (k := i) (j := 1) hi (by omega) t m
  have e1 : fX9_sets (z (i : Int)) (z 1) t m = some m1 := e1
  have q1 : fX9_of (z (i : Int)) (z 2) m1 = some (m1.1 114 (72 + 4 * i + 2)) := m_of' (j := 2) hi (by omega)
  obtain ⟨m2, e2, f2, r2⟩ := m_setsX (k := i) (j := 2) hi (by omega) (m1.1 114 (72 + 4 * i + 2) - z 1) m1
  have e2 : fX9_sets (z (i : Int)) (z 2) (m1.1 114 (72 + 4 * i + 2) - z 1) m1 = some m2 := e2
  obtain ⟨m3, e3, j3, o3, r3⟩ := w_1 m2 114 7 (m2.1 114 7 + z 1)
  unfold fX9_wears
  rw [e1, obind, q1, obind, e2, obind, pmLet_eq, e3]
  refine ⟨m3, rfl, dfr_tr f1 (dfr_tr f2 ⟨j3, o3⟩), fun b => ?_⟩
  rw [r3]
  by_cases h7 : b = 7
  · rw [if_pos h7, if_pos h7, r2, if_neg (by omega), r1, if_neg (by omega)]
  · rw [if_neg h7, if_neg h7, r2]
    by_cases h2 : b = 72 + 4 * i + 2
    · rw [if_pos h2, if_pos h2, r1, if_neg (by omega), h2]
    · rw [if_neg h2, if_neg h2, r1]
theorem m_beats (h : repR (m.1 114) A) (w : wfA A) {k v e : Nat} {o : Option Nat} {A' : Ab} (t : Two A k o) (hv : v < 5) (hb : dBeat A k o v = some (A', e)) : ∃ m', fX9_beats (z (k : Int)) (z (oz o)) (z (letr v)) m = some (z (e : Int), m') ∧ dfr m m' ∧ repR (m'.1 114) A' := by
  have w1 := w.1
  have w3 := w.2.2.1
  have hl := letr_b v hv
  unfold fX9_beats
  unfold dBeat at hb
  by_cases e4 : v = 4
  · rw [if_pos e4] at hb
    cases hb
    rw [if_pos (by rw [e4]; rfl)]
    exact ⟨m, rfl, ⟨rfl, fun _ _ => rfl⟩, h⟩
  · have hz : ¬ z (letr v) = z 83 := zne ⟨by omega, fun g => e4 (hl.2.mp g)⟩
    rw [if_neg e4] at hb
    rw [if_neg hz, show fX9_of (z (k : Int)) (z 1) m = _ from mr_of (j := 1) h t.1 w1 (by decide), obind, (h.2.1.2.2 k t.1).2.1, m_moved (w3 k t.1).2.1 (by omega), obind]
    cases ht : nb (aCe A k) v with
    | none => rw [ht] at hb; cases hb
    | some t' =>
      rw [ht] at hb
      dsimp only at hb
      by_cases hx : aNa A k = 0 ∨ shut A k o t' = true
      · rw [if_pos hx] at hb; cases hb
      · rw [if_neg hx] at hb
        have hn : ¬ aNa A k = 0 := fun g => hx (Or.inl g)
        have hk8 : k < 8 := by have := t.1; omega
        obtain ⟨m1, e1, f1, r1⟩ := m_wears (m := m) hk8 (z (t' : Int))
        rw [oz_s, e1, obind]
        cases o with
        | none =>
          cases hb
          rw [oz_n, if_pos (by decide)]
          refine ⟨m1, rfl, f1, repR_mv h w (fun b b1 b2 => by rw [r1, if_neg b1, if_neg (by omega), if_neg (by omega)]) (fun i hi => ⟨?_, ?_⟩) (by rw [r1, if_pos rfl, h.2.2.2.2.1])⟩
          · rw [r1, if_neg (by omega), if_neg (by omega)]
            try dsimp only
            by_cases e : i = k
            · rw [if_pos e, if_pos (by omega)]
            · rw [if_neg e, if_neg (by omega)]
              exact (h.2.1.2.2 i hi).2.1
          · rw [r1, if_neg (by omega)]
            try dsimp only
            by_cases e : i = k
            · rw [if_pos e, if_pos (by omega), (h.2.1.2.2 i hi).2.2.1, e, z_sub]
              congr 1
              omega
            · rw [if_neg e, if_neg (by omega), if_neg (by omega)]
              exact (h.2.1.2.2 i hi).2.2.1
        | some j =>
          dsimp only at hb
          obtain ⟨hj, hjk⟩ := t.2 j rfl
          cases hu : nb (aCe A j) (mirr v) with
          | none => rw [hu] at hb; cases hb
          | some u =>
            rw [hu] at hb
            dsimp only at hb
            by_cases hb2 : aNa A j = 0 ∨ shut A k (some j) u = true
            · rw [if_pos hb2] at hb; cases hb
            · rw [if_neg hb2] at hb
              by_cases hx2 : t' = u ∨ (t' = aCe A j ∧ u = aCe A k)
              · rw [if_pos hx2] at hb; cases hb
              · rw [if_neg hx2] at hb
                cases hb
                have hn2 : ¬ aNa A j = 0 := fun g => hb2 (Or.inl g)
                have hj8 : j < 8 := by omega
                obtain ⟨m2, e2, f2, r2⟩ := m_wears (m := m1) hj8 (z (u : Int))
                have gj : fX9_of (z (j : Int)) (z 1) m1 = some (z (aCe A j : Int)) := by
                  rw [show fX9_of (z (j : Int)) (z 1) m1 = _ from m_of' (j := 1) hj8 (by decide), r1, if_neg (by omega), if_neg (by omega), if_neg (by omega), (h.2.1.2.2 j hj).2.1]
                rw [oz_s, if_neg (zge (by omega)), gj, obind, m_mirr hv, obind, m_moved (w3 j hj).2.1 (by have := mirr_lt v (by omega); omega), obind, hu, oz_s, e2, obind]
                refine ⟨m2, rfl, dfr_tr f1 f2, repR_mv h w (fun b b1 b2 => by rw [r2, if_neg b1, if_neg (by omega), if_neg (by omega), r1, if_neg b1, if_neg (by omega), if_neg (by omega)]) (fun i hi => ⟨?_, ?_⟩) ?_⟩
                · rw [r2, if_neg (by omega), if_neg (by omega)]
                  try dsimp only
                  by_cases e : i = j
                  · rw [if_pos e, if_pos (by omega)]
                  · rw [if_neg e, if_neg (by omega), r1, if_neg (by omega), if_neg (by omega)]
                    by_cases e' : i = k
                    · rw [if_pos e', if_pos (by omega)]
                    · rw [if_neg e', if_neg (by omega)]
                      exact (h.2.1.2.2 i hi).2.1
                · rw [r2, if_neg (by omega)]
                  try dsimp only
                  by_cases e : i = j
                  · rw [if_pos e, if_pos (by omega), r1, if_neg (by omega), if_neg (by omega), if_neg (by omega), (h.2.1.2.2 i hi).2.2.1, e, z_sub]
                    congr 1
                    omega
                  · rw [if_neg e, if_neg (by omega), if_neg (by omega), r1, if_neg (by omega)]
                    by_cases e' : i = k
                    · rw [if_pos e', if_pos (by omega), (h.2.1.2.2 i hi).2.2.1, e', z_sub]
                      congr 1
                      omega
                    · rw [if_neg e', if_neg (by omega), if_neg (by omega)]
                      exact (h.2.1.2.2 i hi).2.2.1
                · rw [r2, if_pos rfl, r1, if_pos rfl, h.2.2.2.2.1, Int32.add_assoc]
                  rfl
theorem m_danL {f k : Nat} {o : Option Nat} {A0 : Ab} {fm : Nat → Nat} {len : Nat} (hn : 20 ≤ n) (hf : f < 6) (t0 : Two A0 k o) : ∀ (d b q : Nat) (m : pmI) (A : Ab) (c : Nat), b + d = len → d < q → repR (m.1 114) A → wfA A → DR A0 k o A c → aFl A f = len → aFm A f = fm → m.1 113 13 = z (c : Int) →
    ∃ m', lX9_dances_l34 n (z (f : Int)) (z (k : Int)) (z (oz o)) q (z (b : Int)) m = some (z ((dDan k o fm d b A c).1 : Int), m') ∧ repR (m'.1 114) (dDan k o fm d b A c).2.1 ∧ m'.1 113 13 = z ((dDan k o fm d b A c).2.2 : Int) ∧ efr m m' := by
  intro d
  induction d with
  | zero =>
    intro b q m A c h1 h2 hA w hD hfl hfm hc
    obtain ⟨q, rfl⟩ : ∃ j, q = j + 1 := ⟨q - 1, by omega⟩
    show ∃ m', bX9_dances_l34 n (z (f : Int)) (z (k : Int)) (z (oz o)) (lX9_dances_l34 n (z (f : Int)) (z (k : Int)) (z (oz o)) q) (z (b : Int)) m = _ ∧ _
    have h12 := (w.2.2.2.2.2.1 f hf).1
    unfold bX9_dances_l34
    rw [m_many hA hf, obind, if_neg (zge (by omega))]
    exact ⟨m, rfl, hA, hc, ⟨rfl, fun _ _ _ => rfl, fun _ _ => rfl⟩⟩
  | succ d ih =>
    intro b q m A c h1 h2 hA w hD hfl hfm hc
    obtain ⟨q, rfl⟩ : ∃ j, q = j + 1 := ⟨q - 1, by omega⟩
    show ∃ m', bX9_dances_l34 n (z (f : Int)) (z (k : Int)) (z (oz o)) (lX9_dances_l34 n (z (f : Int)) (z (k : Int)) (z (oz o)) q) (z (b : Int)) m = _ ∧ _
    have h12 := (w.2.2.2.2.2.1 f hf).1
    have h5 := (w.2.2.2.2.2.1 f hf).2 b (by omega)
    have t := DR_two hD t0
    unfold bX9_dances_l34
    rw [m_many hA hf, obind, if_pos (zlt (by omega)), m_moveOf hA w hf (by omega), obind, m_blocks (n := n) hA w hn t h5, obind]
    rw [hfm] at h5 ⊢
    cases hb : dBeat A k o (fm b) with
    | none =>
      rw [if_pos rfl, if_neg z10]
      unfold dDan
      rw [hb]
      exact ⟨m, rfl, hA, hc, ⟨rfl, fun _ _ _ => rfl, fun _ _ => rfl⟩⟩
    | some p =>
      obtain ⟨A', e⟩ := p
      obtain ⟨m1, e1, f1, r1⟩ := m_beats hA w t h5 hb
      obtain ⟨g1, g2, ⟨ce, na, g3, -⟩, -⟩ := beat_ok w t hb
      obtain ⟨m2, e2, j2, o2, r2⟩ := w_1 m1 113 13 (m.1 113 13 + z (e : Int))
      rw [if_neg (show ¬ (some (A', e) = none) from fun g => (nomatch g)), if_pos rfl, obind, e1, obind, pmLet_eq]
      dsimp only
      rw [e2, z_add]
      obtain ⟨m3, e3, k1, k2, k3⟩ := ih (b + 1) q m2 A' (c + e) (by omega) (by omega) (by rw [o2 114 (by decide)]; exact r1) g2 (DR_st hD w t hb) (by rw [g3]; exact hfl) (by rw [g3]; exact hfm) (by rw [r2, if_pos rfl, hc, z_add]; rfl)
      unfold dDan
      rw [hb]
      exact ⟨m3, e3, k1, k2, efr_tr (efr_d f1) (efr_tr ⟨j2, fun a ha _ => o2 a ha, fun x hx => by rw [r2, if_neg hx]⟩ k3)⟩
theorem m_dances (h : repR (m.1 114) A) (w : wfA A) (hn : 40 ≤ n) {f k : Nat} (hf : f < 6) (hk : k < aC A) : ∃ m', fX9_dances n (z (f : Int)) (z (k : Int)) m = some (z ((dDan k (par A k) (aFm A f) (aFl A f) 0 A 0).1 : Int), m') ∧ repR (m'.1 114) (dDan k (par A k) (aFm A f) (aFl A f) 0 A 0).2.1 ∧ m'.1 113 13 = z ((dDan k (par A k) (aFm A f) (aFl A f) 0 A 0).2.2 : Int) ∧ efr m m' := by
  have w1 := w.1
  have h12 := (w.2.2.2.2.2.1 f hf).1
  have rg := pa_rg w hk
  have g3 : fX9_of (z (k : Int)) (z 3) m = some (z (aPa A k + 1)) := by rw [show fX9_of (z (k : Int)) (z 3) m = _ from mr_of (j := 3) h hk w1 (by decide), (h.2.1.2.2 k hk).2.2.2]
  have key : ∃ m', jX9_dances_25 n (z (f : Int)) (z (k : Int)) (z (oz (par A k))) m = some (z ((dDan k (par A k) (aFm A f) (aFl A f) 0 A 0).1 : Int), m') ∧ repR (m'.1 114) (dDan k (par A k) (aFm A f) (aFl A f) 0 A 0).2.1 ∧ m'.1 113 13 = z ((dDan k (par A k) (aFm A f) (aFl A f) 0 A 0).2.2 : Int) ∧ efr m m' := by
    obtain ⟨m1, e1, j1, o1, r1⟩ := w_1 m 113 13 (z ((0 : Nat) : Int))
    obtain ⟨m2, e2, k1, k2, k3⟩ := m_danL (n := n) (by omega) hf (par_two w hk) (aFl A f) 0 n m1 A 0 (by omega) (by omega) (by rw [o1 114 (by decide)]; exact h) w DR_0 rfl rfl (by rw [r1, if_pos rfl])
    unfold jX9_dances_25
    rw [pmLet_eq, show z 0 = z ((0 : Nat) : Int) from rfl, e1, e2, obind]
    exact ⟨m2, rfl, k1, k2, efr_tr ⟨j1, fun a ha _ => o1 a ha, fun x hx => by rw [r1, if_neg hx]⟩ k3⟩
  unfold fX9_dances
  rw [g3, obind]
  by_cases e : aPa A k = -1
  · have hp : par A k = none := by
      unfold par
      rw [e]
      cases hs : slot A (-1) with
      | none => rfl
      | some j =>
        have := (slot_lt hs).2
        omega
    rw [if_pos (by rw [e]; rfl)]
    rw [hp] at key ⊢
    exact key
  · rw [if_neg (zne (by omega)), obind, z_sub, show aPa A k + 1 - 1 = aPa A k by omega, m_at (n := n) h w (by omega) (by omega), obind]
    exact key
end MDANCE
