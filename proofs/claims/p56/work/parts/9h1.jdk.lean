/-! the JDK's StringBuilder and String, over any store -/
theorem zN (n : Nat) : Int32.ofNat n = z (n : Int) := by
  unfold z
  apply Int32.toBitVec_inj.mp
  show BitVec.ofNat 32 n = BitVec.ofInt 32 (n : Int)
  exact (BitVec.ofInt_natCast 32 n).symm
theorem sh0 (x : Int32) : x <<< ((0 : Int32) &&& 31) = x := by
  rw [show (0 : Int32) &&& 31 = 0 from rfl]
  exact Int32.shiftLeft_zero
theorem sr0 (x : Int32) : x >>> ((0 : Int32) &&& 31) = x := by
  rw [show (0 : Int32) &&& 31 = 0 from rfl]
  exact Int32.shiftRight_zero
def BY (x : Int32) : Prop := fits .byte (.int x) = true
/-- a StringBuilder at q, its bytes (cap of them) at p, the text T in it; M: so many things at most -/
def SBs (M : Nat) (S : pmS) (q p cap : Nat) (T : List Int32) : Prop :=
  S.1.length ≤ M ∧ S.1[q]? = some (.inl 10) ∧ S.1[p]? = some (.inr (1, cap)) ∧ S.2.2.2.1 q 0 = some p ∧ S.2.1 q 1 = 0 ∧ S.2.1 q 3 = z (T.length : Int) ∧ T.length ≤ cap ∧ (∀ i x, T[i]? = some x → S.2.1 p i = x) ∧ ∀ i, BY (S.2.1 p i)
/-- nothing below N has changed -/
def FR (N : Nat) (S S' : pmS) : Prop := N ≤ S.1.length ∧ (∃ Y, S'.1 = S.1 ++ Y) ∧ (∀ i, i < N → S'.2.1 i = S.2.1 i ∧ S'.2.2.1 i = S.2.2.1 i ∧ S'.2.2.2.1 i = S.2.2.2.1 i ∧ S'.2.2.2.2 i = S.2.2.2.2 i) ∧ (pmVm S.1.length S.2 → pmVm S'.1.length S'.2)
theorem FR.rfl {N : Nat} {S : pmS} (h : N ≤ S.1.length) : FR N S S := ⟨h, ⟨[], (List.append_nil _).symm⟩, fun _ _ => ⟨Eq.refl _, Eq.refl _, Eq.refl _, Eq.refl _⟩, id⟩
theorem FR.trans {N : Nat} {S S1 S2 : pmS} (h : FR N S S1) (g : FR N S1 S2) : FR N S S2 := by
  obtain ⟨h1, ⟨Y, hY⟩, h2, h3⟩ := h
  obtain ⟨_, ⟨Y2, gY⟩, g2, g3⟩ := g
  refine ⟨h1, ⟨Y ++ Y2, by rw [gY, hY, List.append_assoc]⟩, fun i hi => ?_, fun h => g3 (h3 h)⟩
  obtain ⟨a1, a2, a3, a4⟩ := h2 i hi
  obtain ⟨b1, b2, b3, b4⟩ := g2 i hi
  exact ⟨b1.trans a1, b2.trans a2, b3.trans a3, b4.trans a4⟩
section JDK
variable {E : pmEv0} {d A B : Nat} {S : pmS}
theorem MJ_max : MM 184 kJ9_max_7cf53 (some .int) [] 2 := ⟨rfl, rfl, rfl, rfl⟩
theorem e_max {a b : Int32} (h : a < b) : EQ E (d + 1) 184 [.int a, .int b] S A B (fun v S' => v = some (.int b) ∧ S' = S) :=
  q_ev MJ_max (Nat.le_of_ble_eq_true rfl) rfl (q_go MJ_max 2 (2, [some (.int a), some (.int b)], [.int b, .int a], S) rfl (q_st MJ_max 1 (9, [some (.int a), some (.int b)], [], S) rfl rfl (pm1 h) (q_go MJ_max 1 (10, [some (.int a), some (.int b)], [.int b], S) rfl (q_ret MJ_max rfl rfl trivial ⟨rfl, rfl⟩))))
theorem MJ_min : MM 110 kJ9_min_7cf53 (some .int) [] 2 := ⟨rfl, rfl, rfl, rfl⟩
theorem e_min1 {a b : Int32} (h : ¬ b < a) : EQ E (d + 1) 110 [.int a, .int b] S A B (fun v S' => v = some (.int a) ∧ S' = S) :=
  q_ev MJ_min (Nat.le_of_ble_eq_true rfl) rfl (q_go MJ_min 2 (2, [some (.int a), some (.int b)], [.int b, .int a], S) rfl (q_st MJ_min 0 (5, [some (.int a), some (.int b)], [], S) rfl rfl (pm1 h) (q_go MJ_min 2 (10, [some (.int a), some (.int b)], [.int a], S) rfl (q_ret MJ_min rfl rfl trivial ⟨rfl, rfl⟩))))
theorem e_min2 {a b : Int32} (h : b < a) : EQ E (d + 1) 110 [.int a, .int b] S A B (fun v S' => v = some (.int b) ∧ S' = S) :=
  q_ev MJ_min (Nat.le_of_ble_eq_true rfl) rfl (q_go MJ_min 2 (2, [some (.int a), some (.int b)], [.int b, .int a], S) rfl (q_st MJ_min 1 (9, [some (.int a), some (.int b)], [], S) rfl rfl (pm1 h) (q_go MJ_min 1 (10, [some (.int a), some (.int b)], [.int b], S) rfl (q_ret MJ_min rfl rfl trivial ⟨rfl, rfl⟩))))
theorem MJ_newLength : MM 185 kJ8_newLength_cabcc (some .int) [] 4 := ⟨rfl, rfl, rfl, rfl⟩
theorem e_newLength {g : Int32} (h : g < z 18) : EQ E (d + 2) 185 [.int (z 16), .int g, .int (z 18)] S A B (fun v S' => v = some (.int (z 34)) ∧ S' = S) := by
  have hM := MJ_newLength
  refine q_ev hM (Nat.le_of_ble_eq_true rfl) rfl (q_go hM 3 (3, [some (.int (z 16)), some (.int g), some (.int (z 18)), none], [.int (z 18), .int g, .int (z 16)], S) rfl ?_)
  refine q_call (a := 0) (b := 0) hM rfl rfl rx_s (e_max (d := d) h).ec ?_ (Nat.zero_le _) (Nat.zero_le _)
  rintro v S' ⟨rfl, rfl⟩
  refine q_go hM 4 (10, [some (.int (z 16)), some (.int g), some (.int (z 18)), some (.int (z 34))], [.int (z 34), .int (z 0)], S') rfl ?_
  refine q_st hM 0 (13, [some (.int (z 16)), some (.int g), some (.int (z 18)), some (.int (z 34))], [], S') rfl rfl (pm1 (show ¬ z 34 ≤ z 0 by decide)) ?_
  refine q_go hM 2 (16, [some (.int (z 16)), some (.int g), some (.int (z 18)), some (.int (z 34))], [.int (Int32.ofNat 2147483639), .int (z 34)], S') rfl ?_
  refine q_st hM 0 (19, [some (.int (z 16)), some (.int g), some (.int (z 18)), some (.int (z 34))], [], S') rfl rfl (pm1 (show ¬ Int32.ofNat 2147483639 < z 34 by decide)) ?_
  exact q_go hM 1 (20, [some (.int (z 16)), some (.int g), some (.int (z 18)), some (.int (z 34))], [.int (z 34)], S') rfl (q_ret hM rfl rfl trivial ⟨rfl, rfl⟩)
theorem MJ_newCapacity : MM 186 kJ5_newCapacity_0f7a4 (some .int) [] 6 := ⟨rfl, rfl, rfl, rfl⟩
theorem e_newCapacity {k : Int32} {M q p : Nat} {T : List Int32} (h : SBs M S q p 16 T) (hk : k - z 16 < z 18) : EQ E (d + 3) 186 [.ref q, .int k] S A B (fun v S' => v = some (.int (z 34)) ∧ S' = S) := by
  have hM := MJ_newCapacity
  obtain ⟨h1, h2, h3, h4, h5, h6, h7, h8, h9⟩ := h
  have hv : pmRd (pmTy 10 0) S.2 q 0 = .ref p := by
    show va_rf (S.2.2.2.1 q 0) = _
    rw [h4]
    rfl
  have hc : pmRd (pmTy 10 1) S.2 q 1 = .int 0 := congrArg Value.int h5
  refine q_ev hM (Nat.le_of_ble_eq_true rfl) rfl (q_go hM 1 (1, [some (.ref q), some (.int k), none, none, none, none], [.ref q], S) rfl ?_)
  refine q_get hM rfl h2 hv (q_len hM rfl h3 ?_)
  refine q_go hM 3 (8, [some (.ref q), some (.int k), some (.int (z 16)), none, none, none], [.ref q, .int k], S) rfl (q_get hM rfl h2 hc ?_)
  refine q_go hM 1 (12, [some (.ref q), some (.int k), some (.int (z 16)), none, none, none], [.int (k <<< ((0 : Int32) &&& 31))], S) rfl ?_
  rw [sh0]
  refine q_go hM 10 (24, [some (.ref q), some (.int k), some (.int (z 16)), some (.int k), some (.int (k - z 16)), none], [.ref q, .int (z 2), .int (z 16), .int (k - z 16), .int (z 16)], S) rfl (q_get hM rfl h2 hc ?_)
  refine q_go hM 2 (29, [some (.ref q), some (.int k), some (.int (z 16)), some (.int k), some (.int (k - z 16)), none], [.int (z 18), .int (k - z 16), .int (z 16)], S) rfl ?_
  refine q_call (a := 0) (b := 0) hM rfl rfl rx_s (e_newLength (d := d) hk).ec ?_ (Nat.zero_le _) (Nat.zero_le _)
  rintro v S' ⟨rfl, rfl⟩
  refine q_go hM 3 (38, [some (.ref q), some (.int k), some (.int (z 16)), some (.int k), some (.int (k - z 16)), some (.int (z 34))], [.int (Int32.ofNat 2147483647), .int (z 34)], S') rfl ?_
  refine q_st hM 1 (51, [some (.ref q), some (.int k), some (.int (z 16)), some (.int k), some (.int (k - z 16)), some (.int (z 34))], [], S') rfl rfl (pm1 (show ¬ z 34 = Int32.ofNat 2147483647 by decide)) ?_
  refine q_go hM 2 (54, [some (.ref q), some (.int k), some (.int (z 16)), some (.int k), some (.int (k - z 16)), some (.int (z 34))], [.ref q, .int (z 34)], S') rfl (q_get hM rfl h2 hc ?_)
  exact q_go hM 1 (58, [some (.ref q), some (.int k), some (.int (z 16)), some (.int k), some (.int (k - z 16)), some (.int (z 34))], [.int (z 34)], S') rfl (q_ret hM rfl rfl trivial ⟨rfl, rfl⟩)
theorem get_app {α : Type} {X Y : List α} {i : Nat} {e : α} (h : X[i]? = some e) : (X ++ Y)[i]? = some e := by
  rw [List.getElem?_append_left (List.getElem?_eq_some_iff.mp h).1]
  exact h
theorem get_new {α : Type} {X : List α} {e : α} : (X ++ [e])[X.length]? = some e := by
  rw [List.getElem?_append_right (Nat.le_refl _), Nat.sub_self]
  rfl
theorem by_0 : BY 0 := rfl
/-- a row of n bytes with the first w of the row at p -/
def CPy (S S' : pmS) (p n w : Nat) : Prop := S'.1 = S.1 ++ [.inr (1, n)] ∧ (∀ i, i ≠ S.1.length → S'.2.1 i = S.2.1 i ∧ S'.2.2.1 i = S.2.2.1 i ∧ S'.2.2.2.1 i = S.2.2.2.1 i ∧ S'.2.2.2.2 i = S.2.2.2.2 i) ∧ (∀ i, i < w → S'.2.1 S.1.length i = S.2.1 p i) ∧ (∀ i, BY (S'.2.1 S.1.length i)) ∧ ∀ k, S'.2.2.2.1 S.1.length k = none
theorem cp_mk {p n w : Nat} (hp : p ≠ S.1.length) (hb : ∀ i, BY (S.2.1 p i)) : CPy S (S.1 ++ [.inr (1, n)], (fun i => if i = S.1.length then va_cpy ((pmZ S.1.length S.2).1 p) ((pmZ S.1.length S.2).1 S.1.length) 0 0 w else (pmZ S.1.length S.2).1 i), (pmZ S.1.length S.2).2) p n w := by
  have e : ∀ i, (pmZ S.1.length S.2).1 p i = S.2.1 p i := fun i => if_neg hp
  have e0 : ∀ i, (pmZ S.1.length S.2).1 S.1.length i = 0 := fun i => if_pos rfl
  refine ⟨rfl, fun i hi => ⟨?_, ?_, ?_, ?_⟩, fun i hi => ?_, fun i => ?_, fun k => if_pos rfl⟩
  · show (if i = S.1.length then _ else (pmZ S.1.length S.2).1 i) = _
    rw [if_neg hi]
    funext k
    exact if_neg hi
  · funext k
    exact if_neg hi
  · funext k
    exact if_neg hi
  · funext k
    exact if_neg hi
  · show (if S.1.length = S.1.length then va_cpy ((pmZ S.1.length S.2).1 p) ((pmZ S.1.length S.2).1 S.1.length) 0 0 w else (pmZ S.1.length S.2).1 S.1.length) i = _
    rw [if_pos rfl]
    unfold va_cpy
    rw [if_pos (by omega), show 0 + (i - 0) = i by omega, e]
  · show BY ((if S.1.length = S.1.length then va_cpy ((pmZ S.1.length S.2).1 p) ((pmZ S.1.length S.2).1 S.1.length) 0 0 w else (pmZ S.1.length S.2).1 S.1.length) i)
    rw [if_pos rfl]
    unfold va_cpy
    split
    · rw [e]
      exact hb _
    · rw [e0]
      exact by_0
theorem MJ_copyOf : MM 187 kJ7_copyOf_9075b (some (.array .byte)) [] 3 := ⟨rfl, rfl, rfl, rfl⟩
theorem e_copyOf {p : Nat} (hS : S.1.length < 89999) (h3 : S.1[p]? = some (.inr (1, 16))) (hb : ∀ i, BY (S.2.1 p i)) : EQ E (d + 2) 187 [.ref p, .int (z 34)] S 1 34 (fun v S' => v = some (.ref S.1.length) ∧ CPy S S' p 34 16) := by
  have hM := MJ_copyOf
  have hp : p < S.1.length := (List.getElem?_eq_some_iff.mp h3).1
  refine q_ev hM (Nat.le_of_ble_eq_true rfl) rfl (q_go hM 2 (2, [some (.ref p), some (.int (z 34)), none], [.ref p, .int (z 34)], S) rfl (q_len hM rfl h3 ?_))
  refine q_st hM 1 (14, [some (.ref p), some (.int (z 34)), none], [], S) rfl rfl (pm1 (show ¬ z 34 = Int32.ofNat 16 by decide)) ?_
  refine q_go hM 1 (15, [some (.ref p), some (.int (z 34)), none], [.int (z 34)], S) rfl ?_
  refine q_al hM 1 34 (17, [some (.ref p), some (.int (z 34)), none], [.ref S.1.length], S.1 ++ [.inr (1, 34)], pmZ S.1.length S.2) rfl ?_ ?_
  · show (if S.1.length < 90000 then _ else none) = _
    rw [if_pos (by omega)]
    rfl
  refine q_go hM 6 (23, [some (.ref p), some (.int (z 34)), some (.ref S.1.length)], [.ref p, .int (z 0), .ref S.1.length, .int (z 0), .ref p], S.1 ++ [.inr (1, 34)], pmZ S.1.length S.2) rfl ?_
  refine q_len hM (n := 16) (t := 1) rfl (get_app h3) ?_
  refine q_go hM 1 (25, [some (.ref p), some (.int (z 34)), some (.ref S.1.length)], [.int (z 34), .int (z 16), .int (z 0), .ref S.1.length, .int (z 0), .ref p], S.1 ++ [.inr (1, 34)], pmZ S.1.length S.2) rfl ?_
  refine q_call (a := 0) (b := 0) hM rfl rfl rx_s (e_min1 (d := d) (by decide)).ec ?_ (Nat.zero_le _) (Nat.zero_le _)
  rintro v S' ⟨rfl, rfl⟩
  have e : ∀ i, (pmZ S.1.length S.2).1 p i = S.2.1 p i := fun i => if_neg (by omega)
  refine q_cpb hM (n0 := 16) (n1 := 34) ?_ rfl (get_app h3) get_new (by decide) ⟨by decide, by decide, by decide, by decide, by decide, fun i _ => ?_⟩ ?_
  · show (S.1 ++ [Sum.inr (1, 34)] : pmG).length ≤ 90000
    rw [List.length_append]
    show S.1.length + 1 ≤ 90000
    omega
  · show BY ((pmZ S.1.length S.2).1 p _)
    rw [e]
    exact hb _
  · exact q_go hM 1 (32, [some (.ref p), some (.int (z 34)), some (.ref S.1.length)], [.ref S.1.length], _) rfl (q_ret hM rfl rfl trivial ⟨rfl, cp_mk (by omega) hb⟩)
end JDK
