/-! the law, call by call: isConsistent -/
def oc (f : Nat → Nat) : Nat → Nat → Bool
  | 0, _ => false
  | i + 1, c => oc f i c || decide (c = f i)
theorem oc_no {f : Nat → Nat} : ∀ {i c : Nat}, (∀ j, j < i → ¬ f j = c) → oc f i c = false
  | 0, _, _ => rfl
  | i + 1, c, h => by
    show (oc f i c || decide (c = f i)) = false
    rw [oc_no (fun j hj => h j (by omega)), decide_eq_false (fun e => h i (by omega) e.symm)]
    rfl
theorem oc_cnt {f : Nat → Nat} : ∀ {i : Nat}, (∀ j, j < i → f j < 64) → (∀ a b, a < b → b < i → ¬ f a = f b) → cnt (oc f i) 64 = i
  | 0, _, _ => by
    have : ∀ n, cnt (oc f 0) n = 0 := fun n => by
      induction n with
      | zero => rfl
      | succ n ih =>
        rw [cnt_s, ih]
        rfl
    exact this 64
  | i + 1, h1, h2 => by
    have ih := oc_cnt (f := f) (i := i) (fun j hj => h1 j (by omega)) (fun a b hab hb => h2 a b hab (by omega))
    rw [cnt_congr (Q := fun c => if c = f i then true else oc f i c) (fun c _ => ?_), cnt_set (oc_no (fun j hj => h2 j i hj (by omega))) (h1 i (by omega)), ih]
    show (oc f i c || decide (c = f i)) = _
    by_cases e : c = f i
    · rw [decide_eq_true e, Bool.or_true, if_pos e]
    · rw [decide_eq_false e, Bool.or_false, if_neg e]
section LAW12
variable {E : pmEv0} {n : Nat} {self : lSelf} {i5 : Int32} {m : pmI} {D : Nat → Nat → UInt64} {w k : Nat} {W : Wd}
theorem c_stage {A : Ab} (h : repC 1 m A) (w : wfA A) (hn : 20 ≤ n) : fX6_hasSoundStage_1 n m = some (z 1) := by
  have w6 := w.2.2.2.2.2.2.1
  have w7 := w.2.2.2.2.2.2.2.1
  have w8 := w.2.2.2.2.2.2.2.2.1
  have w20 := w.2.2.2.2.2.2.2.2.2.1
  have p9 := h.2.2.2.2.2.1
  have p8 : ∀ q, q < aEn A → m.1 8 q = z (aEx A q) := h.2.2.2.2.2.2.1
  have key : ∀ (d i q : Nat) (x : Int64), i + d = aEn A → d < q → (∀ c, c < 64 → bt x c = oc (aEx A) i c) → ∃ x', lX6_hasSoundStage_1_l31 n m q x (z (i : Int)) = some x' ∧ ∀ c, c < 64 → bt x' c = oc (aEx A) (aEn A) c := by
    intro d
    induction d with
    | zero =>
      intro i q x h1 h2 hx
      match q, h2 with
      | q + 1, h2 =>
        obtain rfl : i = aEn A := by omega
        refine ⟨x, ?_, hx⟩
        show bX6_hasSoundStage_1_l31 n m (lX6_hasSoundStage_1_l31 n m q) _ _ = _
        unfold bX6_hasSoundStage_1_l31
        rw [p9, if_neg (zge (by omega))]
    | succ d ih =>
      intro i q x h1 h2 hx
      match q, h2 with
      | q + 1, h2 =>
        have hi : i < aEn A := by omega
        obtain ⟨x', e1, e2⟩ := ih (i + 1) q (x ||| one (z (aEx A i : Int))) (by omega) (by omega) (fun c hc' => by
          show bt (x ||| one (z (aEx A i : Int))) c = (oc (aEx A) i c || decide (c = aEx A i))
          rw [bt_or, hx c hc', bt_one _ (w7 i hi) c hc'])
        refine ⟨x', ?_, e2⟩
        show bX6_hasSoundStage_1_l31 n m (lX6_hasSoundStage_1_l31 n m q) _ _ = _
        unfold bX6_hasSoundStage_1_l31
        rw [p9, if_pos (zlt (by omega)), a_8 (by omega), obind, p8 i hi, one_eq, z_add]
        exact e1
  obtain ⟨x, e1, e2⟩ := key (aEn A) 0 n 0 (by omega) (by omega) (fun c _ => bt_zero c)
  unfold fX6_hasSoundStage_1
  rw [c_countProps h, obind, if_neg (zge (by omega)), p9, if_neg (zge (by omega)), if_neg (zge (by omega)), show z 0 = z ((0 : Nat) : Int) from rfl, e1, obind, f_bitCount, obind, cnt_congr e2, oc_cnt w7 (fun a b hab hb => w8 a b hab hb), if_pos rfl]
theorem c_figs {A : Ab} (h : repC 1 m A) (w : wfA A) (hn : 20 ≤ n) : fX6_hasSoundFigures_1 n m = some (z 1) := by
  have w6 := w.2.2.2.2.2.1
  have key : ∀ (d i q : Nat), i + d = 6 → d < q → lX6_hasSoundFigures_1_l2 n m q (z (i : Int)) = some (.inl ()) := by
    intro d
    induction d with
    | zero =>
      intro i q h1 h2
      match q, h2 with
      | q + 1, h2 =>
        obtain rfl : i = 6 := by omega
        show bX6_hasSoundFigures_1_l2 n m (lX6_hasSoundFigures_1_l2 n m q) _ = _
        unfold bX6_hasSoundFigures_1_l2
        rw [if_neg (zge (by omega))]
    | succ d ih =>
      intro i q h1 h2
      match q, h2 with
      | q + 1, h2 =>
        have hi : i < 6 := by omega
        have := (w6 i hi).1
        show bX6_hasSoundFigures_1_l2 n m (lX6_hasSoundFigures_1_l2 n m q) _ = _
        unfold bX6_hasSoundFigures_1_l2
        rw [if_pos (zlt (by omega)), c_movesIn h hi, obind, if_neg (zge (by omega)), if_neg (zge (by omega)), z_add]
        exact ih (i + 1) q (by omega) (by omega)
  unfold fX6_hasSoundFigures_1
  rw [show z 0 = z ((0 : Nat) : Int) from rfl, key 6 0 n (by omega) (by omega)]
  rfl
theorem c_sound1 {A : Ab} (h : repC 1 m A) (w : wfA A) (hn : 20 ≤ n) {i : Nat} (hi : i < aC A) : fX6_isSoundDancer_1 n (z (i : Int)) m = some (z 1) := by
  have w1 := w.1
  have wx := w.2.1
  obtain ⟨a1, a2, a3, a4⟩ := w.2.2.1 i hi
  have hr := pa_rg w hi
  have fin : ∀ s0 : Int32, s0 = z 1 → jX6_isSoundDancer_1_88 n (z (aNa A i : Int)) s0 (z 1) m = some (z 1) := fun s0 e => by
    unfold jX6_isSoundDancer_1_88
    rw [e, if_neg z10, if_neg z10, if_neg (zge (by omega)), if_neg (zge (by omega))]
  have mid : jX6_isSoundDancer_1_54 n (z (aNu A i : Int)) (z (aNa A i : Int)) (z (aPa A i)) m = some (z 1) := by
    unfold jX6_isSoundDancer_1_54 jX6_isSoundDancer_1_59
    by_cases e : aPa A i = -1
    · rw [if_pos (by rw [e])]
      unfold jX6_isSoundDancer_1_83
      exact fin _ rfl
    · obtain ⟨j, j1, j2, j3, j4⟩ := slot_pa w hi e
      have hne : ¬ aPa A i = (aNu A i : Int) := fun e2 => by
        rw [e2, slot_at w hi] at j3
        exact j2 (Option.some.inj j3).symm
      rw [if_neg (zne (by omega)), if_neg (zne (by omega)), c_partnerOf (n := n) h w hn (by omega), obind, j3]
      dsimp only
      rw [if_pos (by rw [j4])]
      unfold jX6_isSoundDancer_1_83
      exact fin _ rfl
  unfold fX6_isSoundDancer_1
  rw [a_2 (by omega), obind, a_4 (by omega), obind, a_5 (by omega), obind, (h.2.2.2.1 i hi).1, (h.2.2.2.1 i hi).2.2.1, (h.2.2.2.1 i hi).2.2.2, h.2.2.1, if_pos (zlt (by omega))]
  by_cases e0 : i = 0
  · rw [if_pos (by rw [e0]; rfl)]
    exact mid
  · have := (w.2.2.2.1 (i - 1) i (by omega) hi).1
    have i8 : i - 1 < 8 := by omega
    rw [if_neg (zne (by omega)), z_sub, show (i : Int) - 1 = ((i - 1 : Nat) : Int) by omega, a_2 i8, obind, (h.2.2.2.1 (i - 1) (by omega)).1, if_pos (zlt (by omega))]
    exact mid
theorem c_dancersOk {A : Ab} (h : repC 1 m A) (w : wfA A) (hn : 20 ≤ n) : fX6_hasSoundDancers_1 n m = some (z 1) := by
  have w1 := w.1
  obtain ⟨x, e1, e2⟩ := c_others (n := n) h w hn (a := -1) (by omega)
  have e3 : ∀ i c, occ A (-1) i c = oc (aCe A) i c := by
    intro i
    induction i with
    | zero => intro c; rfl
    | succ i ih =>
      intro c
      show (occ A (-1) i c || (decide (¬ (i : Int) = -1) && decide (c = aCe A i))) = (oc (aCe A) i c || decide (c = aCe A i))
      rw [ih, decide_eq_true (show ¬ (i : Int) = -1 by omega), Bool.true_and]
  have hc : cnt (bt x) 64 = aC A := by
    rw [cnt_congr (Q := oc (aCe A) (aC A)) (fun c hc => by rw [e2 c hc, e3])]
    exact oc_cnt (fun j hj => (w.2.2.1 j hj).2.1) (fun a b hab hb => (w.2.2.2.1 a b hab hb).2)
  have hz : x &&& m.2 1 0 = 0 := bt_ext (fun c hc => by
    rw [bt_and, bt_zero, e2 c hc, h.1 c hc]
    cases ho : occ A (-1) (aC A) c with
    | false => rfl
    | true =>
      obtain ⟨j, j1, -, j3⟩ := occ_iff.mp ho
      rw [j3, (w.2.2.1 j j1).2.2.2]
      rfl)
  have key : ∀ (d i q : Nat), i + d = aC A → d < q → lX6_hasSoundDancers_1_l50 n m q (z (i : Int)) = some (.inl ()) := by
    intro d
    induction d with
    | zero =>
      intro i q h1 h2
      match q, h2 with
      | q + 1, h2 =>
        obtain rfl : i = aC A := by omega
        show bX6_hasSoundDancers_1_l50 n m (lX6_hasSoundDancers_1_l50 n m q) _ = _
        unfold bX6_hasSoundDancers_1_l50
        rw [h.2.1, if_neg (zge (by omega))]
    | succ d ih =>
      intro i q h1 h2
      match q, h2 with
      | q + 1, h2 =>
        have hi : i < aC A := by omega
        show bX6_hasSoundDancers_1_l50 n m (lX6_hasSoundDancers_1_l50 n m q) _ = _
        unfold bX6_hasSoundDancers_1_l50
        rw [h.2.1, if_pos (zlt (by omega)), c_sound1 (n := n) h w hn hi, obind, if_neg z10, z_add]
        exact ih (i + 1) q (by omega) (by omega)
  unfold fX6_hasSoundDancers_1
  rw [h.2.1, if_neg (zge (by omega)), if_neg (zge (by omega)), e1, obind, f_bitCount, obind, hc, if_pos rfl, hz, if_pos (lg_eq 0), show z 0 = z ((0 : Nat) : Int) from rfl, key (aC A) 0 n (by omega) (by omega)]
  rfl
end LAW12

