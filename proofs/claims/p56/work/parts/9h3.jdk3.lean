/-! append of a number below 100 -/
theorem z_ng (a : Int) : -(z a) = z (-a) := (Int32.ofInt_neg a).symm
/-- the digits of a number below 100 -/
def dg (m : Nat) : List Int32 := if m < 10 then [pmDo m] else [pmDt m, pmDo m]
theorem dg_len (m : Nat) : (dg m).length = if m < 10 then 1 else 2 := by
  unfold dg
  split <;> rfl
set_option maxRecDepth 10000 in
theorem nar_all : ((List.range 100).all (fun m => decide (vp_nar .byte (pmDo m) = pmDo m ∧ vp_nar .byte (pmDt m) = pmDt m) && (fits .byte (.int (pmDo m)) && fits .byte (.int (pmDt m))))) = true := by decide +kernel
theorem nar_o {m : Nat} (h : m < 100) : vp_nar .byte (pmDo m) = pmDo m := by
  have := List.all_eq_true.mp nar_all m (List.mem_range.mpr h)
  rw [Bool.and_eq_true] at this
  exact (of_decide_eq_true this.1).1
theorem nar_t {m : Nat} (h : m < 100) : vp_nar .byte (pmDt m) = pmDt m := by
  have := List.all_eq_true.mp nar_all m (List.mem_range.mpr h)
  rw [Bool.and_eq_true] at this
  exact (of_decide_eq_true this.1).2
theorem by_o {m : Nat} (h : m < 100) : BY (pmDo m) := by
  have := List.all_eq_true.mp nar_all m (List.mem_range.mpr h)
  rw [Bool.and_eq_true, Bool.and_eq_true] at this
  exact this.2.1
theorem by_t {m : Nat} (h : m < 100) : BY (pmDt m) := by
  have := List.all_eq_true.mp nar_all m (List.mem_range.mpr h)
  rw [Bool.and_eq_true, Bool.and_eq_true] at this
  exact this.2.2
theorem zle' {a b : Int} (h : ((-2147483648 ≤ a ∧ a < 2147483648) ∧ -2147483648 ≤ b ∧ b < 2147483648) ∧ a ≤ b) : z a ≤ z b := by
  rw [Int32.le_iff_toInt_le, z_toInt h.1.1, z_toInt h.1.2]
  exact h.2
theorem zgt' {a b : Int} (h : ((-2147483648 ≤ a ∧ a < 2147483648) ∧ -2147483648 ≤ b ∧ b < 2147483648) ∧ b < a) : ¬ z a ≤ z b := by
  rw [Int32.le_iff_toInt_le, z_toInt h.1.1, z_toInt h.1.2]
  omega
theorem in_z {k n : Nat} (h : k < n ∧ n ≤ 2000000) : vp_in (z (k : Int)) n := ok_in (okI_z (by omega))
/-- I is S's ints with the text Y put at n of the row p -/
def PT (S : pmS) (p n : Nat) (Y : List Int32) (I : Nat → Nat → Int32) : Prop := (∀ i, i ≠ p → I i = S.2.1 i) ∧ (∀ i, i < n → I p i = S.2.1 p i) ∧ (∀ i x, Y[i]? = some x → I p (n + i) = x) ∧ ((∀ i, BY (S.2.1 p i)) → ∀ i, BY (I p i))
theorem pt_1 {S : pmS} {p n m : Nat} (h : m < 10) : PT S p n (dg m) (pmU S.2.1 p n (vp_nar .byte (pmDo m))) := by
  rw [nar_o (by omega)]
  refine ⟨fun i hi => ?_, fun i hi => ?_, fun i x hx => ?_, fun hb i => ?_⟩
  · funext k
    exact pU_ne _ _ _ _ hi
  · exact pU_nk _ _ _ _ (by omega)
  · unfold dg at hx
    rw [if_pos h] at hx
    match i, hx with
    | 0, hx =>
      rw [Nat.add_zero, pU_same]
      cases hx
      rfl
    | i + 1, hx => cases hx
  · rw [pU_row]
    split
    · exact by_o (by omega)
    · exact hb i
theorem pt_2 {S : pmS} {p n m : Nat} (h : ¬ m < 10) (h2 : m < 100) : PT S p n (dg m) (pmU (pmU S.2.1 p (n + 1) (vp_nar .byte (pmDo m))) p n (vp_nar .byte (pmDt m))) := by
  rw [nar_o h2, nar_t h2]
  refine ⟨fun i hi => ?_, fun i hi => ?_, fun i x hx => ?_, fun hb i => ?_⟩
  · funext k
    rw [pU_ne _ _ _ _ hi, pU_ne _ _ _ _ hi]
  · rw [pU_nk _ _ _ _ (by omega), pU_nk _ _ _ _ (by omega)]
  · unfold dg at hx
    rw [if_neg h] at hx
    match i, hx with
    | 0, hx =>
      show pmU (pmU S.2.1 p (n + 1) (pmDo m)) p n (pmDt m) p n = x
      rw [pU_same]
      cases hx
      rfl
    | 1, hx =>
      rw [pU_nk _ _ _ _ (by omega), pU_same]
      cases hx
      rfl
    | i + 2, hx => cases hx
  · rw [pU_row]
    split
    · exact by_t h2
    · rw [pU_row]
      split
      · exact by_o h2
      · exact hb i
section JDK3
variable {E : pmEv0} {d A B : Nat} {S : pmS}
theorem MJ_stringSize : MM 194 kJ6_stringSize_0f7a4 (some .int) [] 4 := ⟨rfl, rfl, rfl, rfl⟩
theorem e_stringSize {m : Nat} (hm : m < 100) : EQ E (d + 1) 194 [.int (z (m : Int))] S A B (fun v S' => v = some (.int (z ((dg m).length : Int))) ∧ S' = S) := by
  have hM := MJ_stringSize
  refine q_ev hM (Nat.le_of_ble_eq_true rfl) rfl (q_go hM 3 (3, [some (.int (z (m : Int))), some (.int (z 1)), none, none], [.int (z (m : Int))], S) rfl ?_)
  refine q_st hM 0 (6, [some (.int (z (m : Int))), some (.int (z 1)), none, none], [], S) rfl rfl (pm1 (show ¬ z (m : Int) < z 0 from zge (by omega))) ?_
  refine q_go hM 11 (19, [some (.int (-(z (m : Int)))), some (.int (z 0)), some (.int (z (-10))), some (.int (z 1))], [.int (z 10), .int (z 1)], S) rfl ?_
  rw [z_ng]
  refine q_st hM 0 (22, [some (.int (z (-(m : Int)))), some (.int (z 0)), some (.int (z (-10))), some (.int (z 1))], [], S) rfl rfl (pm1 (show ¬ z 10 ≤ z 1 by decide)) ?_
  refine q_go hM 2 (24, [some (.int (z (-(m : Int)))), some (.int (z 0)), some (.int (z (-10))), some (.int (z 1))], [.int (z (-10)), .int (z (-(m : Int)))], S) rfl ?_
  rw [dg_len]
  by_cases h : m < 10
  · rw [if_pos h]
    refine q_st hM 0 (27, [some (.int (z (-(m : Int)))), some (.int (z 0)), some (.int (z (-10))), some (.int (z 1))], [], S) rfl rfl (pm1 (show ¬ z (-(m : Int)) ≤ z (-10) from zgt' (by omega))) ?_
    exact q_go hM 3 (30, [some (.int (z (-(m : Int)))), some (.int (z 0)), some (.int (z (-10))), some (.int (z 1))], [.int (z 1)], S) rfl (q_ret hM rfl rfl trivial ⟨rfl, rfl⟩)
  · rw [if_neg h]
    refine q_st hM 1 (31, [some (.int (z (-(m : Int)))), some (.int (z 0)), some (.int (z (-10))), some (.int (z 1))], [], S) rfl rfl (pm1 (show z (-(m : Int)) ≤ z (-10) from zle' (by omega))) ?_
    refine q_go hM 8 (19, [some (.int (z (-(m : Int)))), some (.int (z 0)), some (.int (z (-100))), some (.int (z 2))], [.int (z 10), .int (z 2)], S) rfl ?_
    refine q_st hM 0 (22, [some (.int (z (-(m : Int)))), some (.int (z 0)), some (.int (z (-100))), some (.int (z 2))], [], S) rfl rfl (pm1 (show ¬ z 10 ≤ z 2 by decide)) ?_
    refine q_go hM 2 (24, [some (.int (z (-(m : Int)))), some (.int (z 0)), some (.int (z (-100))), some (.int (z 2))], [.int (z (-100)), .int (z (-(m : Int)))], S) rfl ?_
    refine q_st hM 0 (27, [some (.int (z (-(m : Int)))), some (.int (z 0)), some (.int (z (-100))), some (.int (z 2))], [], S) rfl rfl (pm1 (show ¬ z (-(m : Int)) ≤ z (-100) from zgt' (by omega))) ?_
    exact q_go hM 3 (30, [some (.int (z (-(m : Int)))), some (.int (z 0)), some (.int (z (-100))), some (.int (z 2))], [.int (z 2)], S) rfl (q_ret hM rfl rfl trivial ⟨rfl, rfl⟩)
theorem MJ_isLatin1 : MM 195 kJ5_isLatin1_aae02 (some .boolean) [] 1 := ⟨rfl, rfl, rfl, rfl⟩
theorem e_isLatin1 {M q p cap : Nat} {T : List Int32} (h : SBs M S q p cap T) : EQ E (d + 1) 195 [.ref q] S A B (fun v S' => v = some (.int 1) ∧ S' = S) := by
  have hM := MJ_isLatin1
  refine q_ev hM (Nat.le_of_ble_eq_true rfl) rfl (q_go hM 1 (3, [some (.ref q)], [.int 1], S) rfl (q_st hM 0 (6, [some (.ref q)], [], S) rfl rfl (pm1 (show ¬ (1 : Int32) = 0 by decide)) ?_))
  refine q_go hM 1 (7, [some (.ref q)], [.ref q], S) rfl (q_get hM rfl h.2.1 (sb_cod h) ?_)
  refine q_st hM 0 (13, [some (.ref q)], [], S) rfl rfl (pm1 (show ¬ ¬ (0 : Int32) = 0 from fun g => g rfl)) ?_
  exact q_go hM 2 (18, [some (.ref q)], [.int 1], S) rfl (q_ret hM rfl rfl (pm1 (Or.inr rfl)) ⟨rfl, rfl⟩)
theorem MJ_getChars : MM 196 kJ6_getChars_ba4f3 (some .int) [] 7 := ⟨rfl, rfl, rfl, rfl⟩
theorem e_getChars {p cap m n : Nat} (hS : S.1.length ≤ 90000) (h3 : S.1[p]? = some (.inr (1, cap))) (hm : m < 100) (hn : n + (dg m).length ≤ cap) (hc9 : cap ≤ 1000) : EQ E (d + 1) 196 [.int (z (m : Int)), .int (z ((n + (dg m).length : Nat) : Int)), .ref p] S A B (fun v S' => (∃ x, v = some (.int x)) ∧ ∃ I, S' = (S.1, I, S.2.2) ∧ PT S p n (dg m) I) := by
  have hM := MJ_getChars
  have hl := dg_len m
  obtain ⟨w, hw⟩ : ∃ w, w = n + (dg m).length := ⟨_, rfl⟩
  rw [← hw]
  refine q_ev hM (Nat.le_of_ble_eq_true rfl) rfl (q_go hM 3 (4, [some (.int (z (m : Int))), some (.int (z (w : Int))), some (.ref p), none, none, some (.int (z (w : Int))), none], [.int (z (m : Int))], S) rfl ?_)
  refine q_st hM 1 (11, [some (.int (z (m : Int))), some (.int (z (w : Int))), some (.ref p), none, none, some (.int (z (w : Int))), none], [], S) rfl rfl (pm1 (show z 0 ≤ z (m : Int) from zle' (by omega))) ?_
  refine q_go hM 3 (16, [some (.int (z (m : Int))), some (.int (z (w : Int))), some (.ref p), none, none, some (.int (z (w : Int))), some (.int (z 0))], [.int (z 0)], S) rfl ?_
  refine q_st hM 0 (19, [some (.int (z (m : Int))), some (.int (z (w : Int))), some (.ref p), none, none, some (.int (z (w : Int))), some (.int (z 0))], [], S) rfl rfl (pm1 (show ¬ ¬ (z 0) = 0 from fun g => g rfl)) ?_
  refine q_go hM 5 (25, [some (.int (-(z (m : Int)))), some (.int (z (w : Int))), some (.ref p), none, none, some (.int (z (w : Int))), some (.int (z 0))], [.int (z (-100)), .int (-(z (m : Int)))], S) rfl ?_
  rw [z_ng]
  refine q_st hM 1 (72, [some (.int (z (-(m : Int)))), some (.int (z (w : Int))), some (.ref p), none, none, some (.int (z (w : Int))), some (.int (z 0))], [], S) rfl rfl (pm1 (show z (-100) < z (-(m : Int)) from zlt (by omega))) ?_
  refine q_go hM 6 (83, [some (.int (z (-(m : Int)))), some (.int (z (w : Int))), some (.ref p), none, none, some (.int (z (w : Int) + z (-1))), some (.int (z 0))], [.int (-(z (-(m : Int)))), .ref 99996, .int (z (w : Int) + z (-1)), .ref p], S) rfl ?_
  rw [z_ng, Int.neg_neg, z_add, show (w : Int) + -1 = ((w - 1 : Nat) : Int) by split at hl <;> omega]
  refine q_do hM hS rfl (in_z (by omega)) ?_
  rw [z_nat (by omega)]
  refine q_bst hM rfl h3 (in_z (by split at hl <;> omega)) ?_
  rw [z_nat (by split at hl <;> omega)]
  refine q_go hM 2 (88, [some (.int (z (-(m : Int)))), some (.int (z (w : Int))), some (.ref p), none, none, some (.int (z ((w - 1 : Nat) : Int))), some (.int (z 0))], [.int (z (-9)), .int (z (-(m : Int)))], S.1, pmU S.2.1 p (w - 1) (vp_nar .byte (pmDo m)), S.2.2) rfl ?_
  by_cases h : m < 10
  · rw [if_pos h] at hl
    refine q_st hM 1 (104, [some (.int (z (-(m : Int)))), some (.int (z (w : Int))), some (.ref p), none, none, some (.int (z ((w - 1 : Nat) : Int))), some (.int (z 0))], [], S.1, pmU S.2.1 p (w - 1) (vp_nar .byte (pmDo m)), S.2.2) rfl rfl (pm1 (show z (-9) ≤ z (-(m : Int)) from zle' (by omega))) ?_
    refine q_go hM 1 (106, [some (.int (z (-(m : Int)))), some (.int (z (w : Int))), some (.ref p), none, none, some (.int (z ((w - 1 : Nat) : Int))), some (.int (z 0))], [.int (z 0)], S.1, pmU S.2.1 p (w - 1) (vp_nar .byte (pmDo m)), S.2.2) rfl ?_
    refine q_st hM 1 (118, [some (.int (z (-(m : Int)))), some (.int (z (w : Int))), some (.ref p), none, none, some (.int (z ((w - 1 : Nat) : Int))), some (.int (z 0))], [], S.1, pmU S.2.1 p (w - 1) (vp_nar .byte (pmDo m)), S.2.2) rfl rfl (pm1 (show (z 0) = 0 from rfl)) ?_
    refine q_go hM 1 (120, [some (.int (z (-(m : Int)))), some (.int (z (w : Int))), some (.ref p), none, none, some (.int (z ((w - 1 : Nat) : Int))), some (.int (z 0))], [.int (z ((w - 1 : Nat) : Int))], S.1, pmU S.2.1 p (w - 1) (vp_nar .byte (pmDo m)), S.2.2) rfl (q_ret hM rfl rfl trivial ⟨⟨_, rfl⟩, _, rfl, ?_⟩)
    rw [show w - 1 = n by omega]
    exact pt_1 h
  · rw [if_neg h] at hl
    refine q_st hM 0 (91, [some (.int (z (-(m : Int)))), some (.int (z (w : Int))), some (.ref p), none, none, some (.int (z ((w - 1 : Nat) : Int))), some (.int (z 0))], [], S.1, pmU S.2.1 p (w - 1) (vp_nar .byte (pmDo m)), S.2.2) rfl rfl (pm1 (show ¬ z (-9) ≤ z (-(m : Int)) from zgt' (by omega))) ?_
    refine q_go hM 6 (102, [some (.int (z (-(m : Int)))), some (.int (z (w : Int))), some (.ref p), none, none, some (.int (z ((w - 1 : Nat) : Int) + z (-1))), some (.int (z 0))], [.int (-(z (-(m : Int)))), .ref 99995, .int (z ((w - 1 : Nat) : Int) + z (-1)), .ref p], S.1, pmU S.2.1 p (w - 1) (vp_nar .byte (pmDo m)), S.2.2) rfl ?_
    rw [z_ng, Int.neg_neg, z_add, show ((w - 1 : Nat) : Int) + -1 = (n : Int) by omega]
    refine q_dt hM hS rfl (in_z (by omega)) ?_
    rw [z_nat (by omega)]
    refine q_bst hM rfl h3 (in_z (by omega)) ?_
    rw [z_nat (by omega)]
    refine q_go hM 1 (106, [some (.int (z (-(m : Int)))), some (.int (z (w : Int))), some (.ref p), none, none, some (.int (z (n : Int))), some (.int (z 0))], [.int (z 0)], S.1, pmU (pmU S.2.1 p (w - 1) (vp_nar .byte (pmDo m))) p n (vp_nar .byte (pmDt m)), S.2.2) rfl ?_
    refine q_st hM 1 (118, [some (.int (z (-(m : Int)))), some (.int (z (w : Int))), some (.ref p), none, none, some (.int (z (n : Int))), some (.int (z 0))], [], S.1, pmU (pmU S.2.1 p (w - 1) (vp_nar .byte (pmDo m))) p n (vp_nar .byte (pmDt m)), S.2.2) rfl rfl (pm1 (show (z 0) = 0 from rfl)) ?_
    refine q_go hM 1 (120, [some (.int (z (-(m : Int)))), some (.int (z (w : Int))), some (.ref p), none, none, some (.int (z (n : Int))), some (.int (z 0))], [.int (z (n : Int))], S.1, pmU (pmU S.2.1 p (w - 1) (vp_nar .byte (pmDo m))) p n (vp_nar .byte (pmDt m)), S.2.2) rfl (q_ret hM rfl rfl trivial ⟨⟨_, rfl⟩, _, rfl, ?_⟩)
    rw [show w - 1 = n + 1 by omega]
    exact pt_2 h hm
theorem MJ_appendI5 : MM 197 kJ5_append_c97b9 (some (.object "java/lang/AbstractStringBuilder")) [] 4 := ⟨rfl, rfl, rfl, rfl⟩
theorem e_appendI5 {M N q p cap m : Nat} {T : List Int32} (h : SBs M S q p cap T) (hM9 : M ≤ 80000) (hcap : cap = 16 ∨ cap = 34) (hm : m < 100) (hk : T.length + (dg m).length ≤ 33) (hN : N ≤ q ∧ N ≤ p) : EQ E (d + 5) 197 [.ref q, .int (z (m : Int))] S 1 34 (fun v S' => v = some (.ref q) ∧ ApP (M + 1) N q (T ++ dg m) S S') := by
  have hM := MJ_appendI5
  refine q_ev hM (Nat.le_of_ble_eq_true rfl) rfl (q_go hM 1 (1, [some (.ref q), some (.int (z (m : Int))), none, none], [.ref q], S) rfl (q_get hM rfl h.2.1 (sb_cnt h) ?_))
  refine q_go hM 3 (7, [some (.ref q), some (.int (z (m : Int))), some (.int (z (T.length : Int))), none], [.int (z (m : Int)), .int (z (T.length : Int))], S) rfl ?_
  refine q_call (a := 0) (b := 0) hM rfl rfl rx_s ((e_stringSize (d := d) hm).le (Nat.add_le_add_left (show 1 ≤ 4 by omega) d) (Nat.le_refl _) (Nat.le_refl _)).ec ?_ (Nat.zero_le _) (Nat.zero_le _)
  rintro v S' ⟨rfl, rfl⟩
  refine q_go hM 4 (14, [some (.ref q), some (.int (z (m : Int))), some (.int (z (T.length : Int))), some (.int (z (T.length : Int) + z ((dg m).length : Int)))], [.int (z (T.length : Int) + z ((dg m).length : Int)), .ref q], S') rfl ?_
  rw [z_add, ← Int.natCast_add]
  refine q_call (a := 1) (b := 34) hM rfl rfl (rx_b h.2.1) (e_ensure (d := d) (N := N) h hM9 hcap hk hN).ec ?_
  rintro v S1 ⟨rfl, p1, cap1, g1, g2, g3, g4, g5⟩
  refine q_go hM 1 (18, [some (.ref q), some (.int (z (m : Int))), some (.int (z (T.length : Int))), some (.int (z ((T.length + (dg m).length : Nat) : Int)))], [.ref q], S1) rfl ?_
  refine q_call (a := 0) (b := 0) hM rfl rfl (rx_b g1.2.1) ((e_isLatin1 (d := d) g1).le (Nat.add_le_add_left (show 1 ≤ 4 by omega) d) (Nat.le_refl _) (Nat.le_refl _)).ec ?_ (Nat.zero_le _) (Nat.zero_le _)
  rintro v S2 ⟨rfl, rfl⟩
  refine q_st hM 0 (24, [some (.ref q), some (.int (z (m : Int))), some (.int (z (T.length : Int))), some (.int (z ((T.length + (dg m).length : Nat) : Int)))], [], S2) rfl rfl (pm1 (show ¬ (1 : Int32) = 0 by decide)) ?_
  refine q_go hM 3 (27, [some (.ref q), some (.int (z (m : Int))), some (.int (z (T.length : Int))), some (.int (z ((T.length + (dg m).length : Nat) : Int)))], [.ref q, .int (z ((T.length + (dg m).length : Nat) : Int)), .int (z (m : Int))], S2) rfl (q_get hM rfl g1.2.1 (sb_val g1) ?_)
  refine q_call (a := 0) (b := 0) hM rfl rfl rx_s ((e_getChars (d := d) (Nat.le_trans g1.1 (by omega)) g1.2.2.1 hm g3 (by omega)).le (Nat.add_le_add_left (show 1 ≤ 4 by omega) d) (Nat.le_refl _) (Nat.le_refl _)).ec ?_ (Nat.zero_le _) (Nat.zero_le _)
  rintro v S3 ⟨⟨x, rfl⟩, I, rfl, i1, i2, i3, i4⟩
  refine q_go hM 4 (50, [some (.ref q), some (.int (z (m : Int))), some (.int (z (T.length : Int))), some (.int (z ((T.length + (dg m).length : Nat) : Int)))], [.int (z ((T.length + (dg m).length : Nat) : Int)), .ref q], S2.1, I, S2.2.2) rfl (q_put hM rfl g1.2.1 rfl ?_)
  obtain ⟨k1, k2⟩ := sb_ext (N := N) (Y := dg m) (I := I) (n := z (((T.length + (dg m).length : Nat)) : Int)) g1 ⟨hN.1, g4⟩ g3 i1 i2 i3 (i4 g1.2.2.2.2.2.2.2.2) (by rw [List.length_append])
  exact q_go hM 1 (54, [some (.ref q), some (.int (z (m : Int))), some (.int (z (T.length : Int))), some (.int (z ((T.length + (dg m).length : Nat) : Int)))], [.ref q], _) rfl (q_ret hM rfl rfl trivial ⟨rfl, p1, cap1, k1, g2, g4, g5.trans k2⟩)
theorem MJ_appendI4 : MM 198 kJ4_append_bf812 (some (.object "java/lang/StringBuilder")) [] 2 := ⟨rfl, rfl, rfl, rfl⟩
/-- append(a number) -/
theorem e_appendI {M N q p cap m : Nat} {T : List Int32} (h : SBs M S q p cap T) (hM9 : M ≤ 80000) (hcap : cap = 16 ∨ cap = 34) (hm : m < 100) (hk : T.length + (dg m).length ≤ 33) (hN : N ≤ q ∧ N ≤ p) : EQ E (d + 6) 198 [.ref q, .int (z (m : Int))] S 1 34 (fun v S' => v = some (.ref q) ∧ ApP (M + 1) N q (T ++ dg m) S S') := by
  have hM := MJ_appendI4
  refine q_ev hM (Nat.le_of_ble_eq_true rfl) rfl (q_go hM 2 (2, [some (.ref q), some (.int (z (m : Int)))], [.int (z (m : Int)), .ref q], S) rfl ?_)
  refine q_call (a := 1) (b := 34) hM rfl rfl (rx_b h.2.1) (e_appendI5 (d := d) (N := N) h hM9 hcap hm hk hN).ec ?_
  rintro v S1 ⟨rfl, g⟩
  exact q_go hM 2 (7, [some (.ref q), some (.int (z (m : Int)))], [.ref q], S1) rfl (q_ret hM rfl rfl trivial ⟨rfl, g⟩)
end JDK3
