/-! a StringBuilder made, a String out of it, and its characters -/
/-- a made String at r, its bytes at p -/
def STR (S : pmS) (r p : Nat) (T : List Int32) : Prop := S.1[r]? = some (.inl 9) ∧ S.1[p]? = some (.inr (1, T.length)) ∧ S.2.2.2.1 r 0 = some p ∧ S.2.1 r 1 = 0 ∧ ∀ i x, T[i]? = some x → S.2.1 p i = x
section JDK4
variable {E : pmEv0} {d A B : Nat} {S : pmS}
theorem MJ_init5 : MM 180 kJ5_init_d00df (none) [] 2 := ⟨rfl, rfl, rfl, rfl⟩
theorem e_init5 {N q : Nat} (hS : S.1.length < 80000) (hq : S.1[q]? = some (.inl 10)) (h0 : ∀ k, S.2.1 q k = 0) (hN : N ≤ q) : EQ E (d + 1) 180 [.ref q, .int (z 16)] S 1 16 (fun v S' => v = none ∧ ApP (S.1.length + 1) N q [] S S') := by
  have hM := MJ_init5
  have hql : q < S.1.length := (List.getElem?_eq_some_iff.mp hq).1
  refine q_ev hM (Nat.le_of_ble_eq_true rfl) rfl (q_go hM 3 (7, [some (.ref q), some (.int (z 16))], [.int 1], S) rfl (q_st hM 0 (10, [some (.ref q), some (.int (z 16))], [], S) rfl rfl (pm1 (show ¬ (1 : Int32) = 0 by decide)) ?_))
  refine q_go hM 2 (12, [some (.ref q), some (.int (z 16))], [.int (z 16), .ref q], S) rfl ?_
  refine q_al hM 1 16 (14, [some (.ref q), some (.int (z 16))], [.ref S.1.length, .ref q], S.1 ++ [.inr (1, 16)], pmZ S.1.length S.2) rfl ?_ ?_
  · show (if S.1.length < 90000 then _ else none) = _
    rw [if_pos (by omega)]
    rfl
  refine q_put hM rfl (get_app hq) rfl ?_
  refine q_go hM 2 (19, [some (.ref q), some (.int (z 16))], [.int (z 0), .ref q], _) rfl (q_put hM rfl (get_app hq) rfl ?_)
  refine q_go hM 1 (38, [some (.ref q), some (.int (z 16))], [], _) rfl (q_ret hM rfl rfl trivial ⟨rfl, S.1.length, 16, ⟨?_, get_app hq, get_new, pU_same _ _ _ _, pU_same _ _ _ _, ?_, Nat.zero_le _, (fun i x hx => by cases hx), fun i => ?_⟩, Or.inl rfl, by omega, by omega, ⟨_, rfl⟩, fun i hi => ⟨?_, ?_, ?_, ?_⟩, fun hv i k r hr => ?_⟩)
  · show (S.1 ++ [Sum.inr (1, 16)] : pmG).length ≤ _
    rw [List.length_append]
    exact Nat.le_refl _
  · show pmU (pmZ S.1.length S.2).1 q 1 (z 0) q 3 = z 0
    rw [pU_nk _ _ _ _ (by decide)]
    show (if q = S.1.length then 0 else S.2.1 q 3) = _
    rw [if_neg (by omega), h0]
    rfl
  · show BY (pmU (pmZ S.1.length S.2).1 q 1 (z 0) S.1.length i)
    rw [pU_ne _ _ _ _ (by omega)]
    show BY (if S.1.length = S.1.length then 0 else S.2.1 S.1.length i)
    rw [if_pos rfl]
    exact by_0
  · show pmU (pmZ S.1.length S.2).1 q 1 (z 0) i = _
    funext k
    rw [pU_ne _ _ _ _ (by omega)]
    exact if_neg (by omega)
  · funext k
    exact if_neg (by omega)
  · show pmU (pmZ S.1.length S.2).2.2.1 q 0 (some S.1.length) i = _
    funext k
    rw [pU_ne _ _ _ _ (by omega)]
    exact if_neg (by omega)
  · funext k
    exact if_neg (by omega)
  · have hr : pmU (pmZ S.1.length S.2).2.2.1 q 0 (some S.1.length) i k = some r := hr
    show r < (S.1 ++ [Sum.inr (1, 16)] : pmG).length ∨ _
    rw [List.length_append]
    show r < S.1.length + 1 ∨ _
    have hZ : ∀ r, (pmZ S.1.length S.2).2.2.1 i k = some r → r < S.1.length + 1 ∨ 90000 ≤ r := fun r hr => by
      have hr : (if i = S.1.length then none else S.2.2.2.1 i k) = some r := hr
      split at hr
      · cases hr
      · have := hv i k r hr
        omega
    unfold pmU at hr
    split at hr
    · split at hr
      · cases hr
        omega
      · exact hZ r hr
    · exact hZ r hr
theorem MJ_init4 : MM 181 kJ4_init_da8c8 (none) [] 1 := ⟨rfl, rfl, rfl, rfl⟩
theorem e_init4 {N q : Nat} (hS : S.1.length < 80000) (hq : S.1[q]? = some (.inl 10)) (h0 : ∀ k, S.2.1 q k = 0) (hN : N ≤ q) : EQ E (d + 2) 181 [.ref q] S 1 16 (fun v S' => v = none ∧ ApP (S.1.length + 1) N q [] S S') := by
  have hM := MJ_init4
  refine q_ev hM (Nat.le_of_ble_eq_true rfl) rfl (q_go hM 2 (3, [some (.ref q)], [.int (z 16), .ref q], S) rfl ?_)
  refine q_call (a := 1) (b := 16) hM rfl rfl rx_7 (e_init5 (d := d) hS hq h0 hN).ec ?_
  rintro v S1 ⟨rfl, g⟩
  exact q_ret hM rfl rfl trivial ⟨rfl, g⟩
theorem MJ_checkLength : MM 202 kJ7_checkLength_df160 (none) [] 2 := ⟨rfl, rfl, rfl, rfl⟩
theorem e_checkLength {n : Nat} (hn : n < 1000) : EQ E (d + 1) 202 [.int (z 0), .int (z (n : Int))] S A B (fun v S' => v = none ∧ S' = S) := by
  have hM := MJ_checkLength
  refine q_ev hM (Nat.le_of_ble_eq_true rfl) rfl (q_go hM 2 (2, [some (.int (z 0)), some (.int (z (n : Int)))], [.int (z 0), .int (z (n : Int))], S) rfl (q_st hM 1 (37, [some (.int (z 0)), some (.int (z (n : Int)))], [], S) rfl rfl (pm1 (show z 0 ≤ z (n : Int) from zle' (by omega))) ?_))
  exact q_ret hM rfl rfl trivial ⟨rfl, rfl⟩
theorem MJ_copyOfRangeByte : MM 203 kJ7_copyOfRangeByte_39247 (some (.array .byte)) [] 5 := ⟨rfl, rfl, rfl, rfl⟩
theorem e_copyOfRangeByte {p cap n : Nat} (hS : S.1.length < 89999) (h3 : S.1[p]? = some (.inr (1, cap))) (hb : ∀ i, BY (S.2.1 p i)) (hn : n < cap) (hc : cap ≤ 40) : EQ E (d + 2) 203 [.ref p, .int (z 0), .int (z (n : Int))] S 1 40 (fun v S' => v = some (.ref S.1.length) ∧ CPy S S' p n n) := by
  have hM := MJ_copyOfRangeByte
  have hp : p < S.1.length := (List.getElem?_eq_some_iff.mp h3).1
  refine q_ev hM (Nat.le_of_ble_eq_true rfl) rfl (q_go hM 2 (2, [some (.ref p), some (.int (z 0)), some (.int (z (n : Int))), none, none], [.int (z (n : Int)), .int (z 0)], S) rfl ?_)
  refine q_call (a := 0) (b := 0) hM rfl rfl rx_s (e_checkLength (d := d) (by omega)).ec ?_ (Nat.zero_le _) (Nat.zero_le _)
  rintro v S0 ⟨rfl, rfl⟩
  refine q_go hM 5 (10, [some (.ref p), some (.int (z 0)), some (.int (z (n : Int))), some (.int (z (n : Int) - z 0)), none], [.int (z (n : Int) - z 0)], S0) rfl ?_
  rw [z_sub, Int.sub_zero]
  refine q_al hM 1 n (12, [some (.ref p), some (.int (z 0)), some (.int (z (n : Int))), some (.int (z (n : Int))), none], [.ref S0.1.length], S0.1 ++ [.inr (1, n)], pmZ S0.1.length S0.2) rfl ?_ ?_ (by decide) (by show n ≤ 40 - 0; omega)
  · show (if S0.1.length < 90000 then (if 61 = 61 ∧ 1 < 4 ∧ ¬ z (n : Int) < z 0 ∧ (z (n : Int)).toNatClampNeg ≤ 10000 then some (pmMk (.inr (1, (z (n : Int)).toNatClampNeg)) 2 [] (10, [some (.ref p), some (.int (z 0)), some (.int (z (n : Int))), some (.int (z (n : Int))), none], [.int (z (n : Int))], S0), 1, (z (n : Int)).toNatClampNeg) else none) else none) = _
    rw [if_pos (by omega), z_nat (by omega)]
    exact if_pos ⟨rfl, by decide, zge (by omega), by omega⟩
  refine q_go hM 6 (20, [some (.ref p), some (.int (z 0)), some (.int (z (n : Int))), some (.int (z (n : Int))), some (.ref S0.1.length)], [.ref p, .int (z 0), .ref S0.1.length, .int (z 0), .ref p], S0.1 ++ [.inr (1, n)], pmZ S0.1.length S0.2) rfl ?_
  refine q_len hM (n := cap) (t := 1) rfl (get_app h3) ?_
  rw [zN]
  refine q_go hM 3 (24, [some (.ref p), some (.int (z 0)), some (.int (z (n : Int))), some (.int (z (n : Int))), some (.ref S0.1.length)], [.int (z (n : Int)), .int (z (cap : Int) - z 0), .int (z 0), .ref S0.1.length, .int (z 0), .ref p], S0.1 ++ [.inr (1, n)], pmZ S0.1.length S0.2) rfl ?_
  rw [z_sub, Int.sub_zero]
  refine q_call (a := 0) (b := 0) hM rfl rfl rx_s (e_min2 (d := d) (zlt (by omega))).ec ?_ (Nat.zero_le _) (Nat.zero_le _)
  rintro v S' ⟨rfl, rfl⟩
  have e : ∀ i, (pmZ S0.1.length S0.2).1 p i = S0.2.1 p i := fun i => if_neg (by omega)
  refine q_cpb hM (n0 := cap) (n1 := n) ?_ rfl (get_app h3) get_new (by decide) ⟨by decide, by decide, (show ¬ z (n : Int) < z 0 from zge (by omega)), ?_, ?_, fun i _ => ?_⟩ ?_
  · show (S0.1 ++ [Sum.inr (1, n)] : pmG).length ≤ 90000
    rw [List.length_append]
    show S0.1.length + 1 ≤ 90000
    omega
  · rw [z_nat (by omega), show (z 0).toNatClampNeg = 0 from rfl]
    omega
  · rw [z_nat (by omega), show (z 0).toNatClampNeg = 0 from rfl]
    omega
  · show BY ((pmZ S0.1.length S0.2).1 p _)
    rw [e]
    exact hb _
  · rw [z_nat (by omega), show (z 0).toNatClampNeg = 0 from rfl]
    exact q_go hM 1 (32, [some (.ref p), some (.int (z 0)), some (.int (z (n : Int))), some (.int (z (n : Int))), some (.ref S0.1.length)], [.ref S0.1.length], _) rfl (q_ret hM rfl rfl trivial ⟨rfl, cp_mk (by omega) hb⟩)
theorem MJ_copyOfRange : MM 204 kJ7_copyOfRange_39247 (some (.array .byte)) [] 3 := ⟨rfl, rfl, rfl, rfl⟩
theorem e_copyOfRange {p cap n : Nat} (hS : S.1.length < 89999) (h3 : S.1[p]? = some (.inr (1, cap))) (hb : ∀ i, BY (S.2.1 p i)) (hn : n < cap) (hc : cap ≤ 40) : EQ E (d + 3) 204 [.ref p, .int (z 0), .int (z (n : Int))] S 1 40 (fun v S' => v = some (.ref S.1.length) ∧ CPy S S' p n n) := by
  have hM := MJ_copyOfRange
  refine q_ev hM (Nat.le_of_ble_eq_true rfl) rfl (q_go hM 1 (1, [some (.ref p), some (.int (z 0)), some (.int (z (n : Int)))], [.int (z 0)], S) rfl (q_st hM 0 (4, [some (.ref p), some (.int (z 0)), some (.int (z (n : Int)))], [], S) rfl rfl (pm1 (show ¬ ¬ (z 0) = 0 from fun g => g rfl)) ?_))
  refine q_go hM 2 (6, [some (.ref p), some (.int (z 0)), some (.int (z (n : Int)))], [.ref p, .int (z (n : Int))], S) rfl (q_len hM rfl h3 ?_)
  rw [zN]
  refine q_st hM 0 (10, [some (.ref p), some (.int (z 0)), some (.int (z (n : Int)))], [], S) rfl rfl (pm1 (show ¬ z (n : Int) = z (cap : Int) from zne (by omega))) ?_
  refine q_go hM 3 (13, [some (.ref p), some (.int (z 0)), some (.int (z (n : Int)))], [.int (z (n : Int)), .int (z 0), .ref p], S) rfl ?_
  refine q_call (a := 1) (b := 40) hM rfl rfl rx_s (e_copyOfRangeByte (d := d) hS h3 hb hn hc).ec ?_
  rintro v S' ⟨rfl, g⟩
  exact q_ret hM rfl rfl trivial ⟨rfl, g⟩
theorem MJ_getValue : MM 199 kJ5_getValue_6d5f1 (some (.array .byte)) [] 1 := ⟨rfl, rfl, rfl, rfl⟩
theorem e_getValue {M q p cap : Nat} {T : List Int32} (h : SBs M S q p cap T) : EQ E (d + 1) 199 [.ref q] S A B (fun v S' => v = some (.ref p) ∧ S' = S) := by
  have hM := MJ_getValue
  refine q_ev hM (Nat.le_of_ble_eq_true rfl) rfl (q_go hM 1 (1, [some (.ref q)], [.ref q], S) rfl (q_get hM rfl h.2.1 (sb_val h) ?_))
  exact q_ret hM rfl rfl trivial ⟨rfl, rfl⟩
theorem MJ_length5 : MM 200 kJ5_length_8abf5 (some .int) [] 1 := ⟨rfl, rfl, rfl, rfl⟩
theorem e_length5 {M q p cap : Nat} {T : List Int32} (h : SBs M S q p cap T) : EQ E (d + 1) 200 [.ref q] S A B (fun v S' => v = some (.int (z (T.length : Int))) ∧ S' = S) := by
  have hM := MJ_length5
  refine q_ev hM (Nat.le_of_ble_eq_true rfl) rfl (q_go hM 1 (1, [some (.ref q)], [.ref q], S) rfl (q_get hM rfl h.2.1 (sb_cnt h) ?_))
  exact q_ret hM rfl rfl trivial ⟨rfl, rfl⟩
theorem MJ_length4 : MM 201 kJ4_length_8abf5 (some .int) [] 1 := ⟨rfl, rfl, rfl, rfl⟩
theorem e_length4 {M q p cap : Nat} {T : List Int32} (h : SBs M S q p cap T) : EQ E (d + 2) 201 [.ref q] S A B (fun v S' => v = some (.int (z (T.length : Int))) ∧ S' = S) := by
  have hM := MJ_length4
  refine q_ev hM (Nat.le_of_ble_eq_true rfl) rfl (q_go hM 1 (1, [some (.ref q)], [.ref q], S) rfl ?_)
  refine q_call (a := 0) (b := 0) hM rfl rfl (rx_b h.2.1) (e_length5 (d := d) h).ec ?_ (Nat.zero_le _) (Nat.zero_le _)
  rintro v S' ⟨rfl, rfl⟩
  exact q_ret hM rfl rfl trivial ⟨rfl, rfl⟩
theorem str_mk {N M r q p cap : Nat} {S' : pmS} {T : List Int32} {I : Nat → Nat → Int32} (h : SBs M S q p cap T) (hr : S.1[r]? = some (.inl 9)) (hN : N ≤ r) (hI : I = pmU S.2.1 r 1 (z 0)) (hc : CPy (S.1, I, S.2.2) S' p T.length T.length) (hrp : r ≠ p) :
    STR (S'.1, S'.2.1, S'.2.2.1, pmU S'.2.2.2.1 r 0 (some S.1.length), S'.2.2.2.2) r S.1.length T ∧ FR N S (S'.1, S'.2.1, S'.2.2.1, pmU S'.2.2.2.1 r 0 (some S.1.length), S'.2.2.2.2) ∧ S'.1.length = S.1.length + 1 := by
  subst hI
  obtain ⟨c1, c2, c3, c4, c5⟩ := hc
  dsimp only at c1 c2 c3 c4 c5
  obtain ⟨h1, h2, h3, h4, h5, h6, h7, h8, h9⟩ := h
  have hrl : r < S.1.length := (List.getElem?_eq_some_iff.mp hr).1
  have hlen : S'.1.length = S.1.length + 1 := by
    rw [c1, List.length_append]
    rfl
  refine ⟨⟨?_, ?_, pU_same _ _ _ _, ?_, fun i x hx => ?_⟩, ⟨by omega, ⟨_, c1⟩, fun i hi => ?_, fun hv i k r' hr' => ?_⟩, hlen⟩
  · show S'.1[r]? = _
    rw [c1]
    exact get_app hr
  · show S'.1[S.1.length]? = _
    rw [c1]
    exact get_new
  · show S'.2.1 r 1 = 0
    rw [(c2 r (by omega)).1, pU_same]
    rfl
  · show S'.2.1 S.1.length i = x
    rw [c3 i (List.getElem?_eq_some_iff.mp hx).1, pU_ne _ _ _ _ (Ne.symm hrp)]
    exact h8 i x hx
  · obtain ⟨a1, a2, a3, a4⟩ := c2 i (by omega)
    refine ⟨?_, a2, ?_, a4⟩
    · show S'.2.1 i = _
      rw [a1]
      funext k
      exact pU_ne _ _ _ _ (by omega)
    · show pmU S'.2.2.2.1 r 0 (some S.1.length) i = _
      funext k
      rw [pU_ne _ _ _ _ (by omega), a3]
  · have hr' : pmU S'.2.2.2.1 r 0 (some S.1.length) i k = some r' := hr'
    show r' < S'.1.length ∨ _
    have hZ : ∀ r', S'.2.2.2.1 i k = some r' → r' < S'.1.length ∨ 90000 ≤ r' := fun r' hr' => by
      by_cases hi : i = S.1.length
      · rw [hi, c5] at hr'
        cases hr'
      · rw [(c2 i hi).2.2.1] at hr'
        have := hv i k r' hr'
        omega
    unfold pmU at hr'
    split at hr'
    · split at hr'
      · cases hr'
        omega
      · exact hZ r' hr'
    · exact hZ r' hr'
theorem SBs.put {M r q p cap : Nat} {T : List Int32} {k : Nat} {x : Int32} (h : SBs M S q p cap T) (h1 : r ≠ q) (h2 : r ≠ p) : SBs M (S.1, pmU S.2.1 r k x, S.2.2) q p cap T := by
  obtain ⟨g1, g2, g3, g4, g5, g6, g7, g8, g9⟩ := h
  have e1 : pmU S.2.1 r k x q = S.2.1 q := funext fun b => pU_ne _ _ _ _ (Ne.symm h1)
  have e2 : pmU S.2.1 r k x p = S.2.1 p := funext fun b => pU_ne _ _ _ _ (Ne.symm h2)
  refine ⟨g1, g2, g3, g4, ?_, ?_, g7, ?_, ?_⟩
  · show pmU S.2.1 r k x q 1 = 0
    rw [e1]
    exact g5
  · show pmU S.2.1 r k x q 3 = _
    rw [e1]
    exact g6
  · show ∀ i x1, T[i]? = some x1 → pmU S.2.1 r k x p i = x1
    rw [e2]
    exact g8
  · show ∀ i, BY (pmU S.2.1 r k x p i)
    rw [e2]
    exact g9
/-- a String out of the text T -/
def ToP (N r : Nat) (T : List Int32) (S S' : pmS) : Prop := ∃ p, STR S' r p T ∧ N ≤ p ∧ FR N S S' ∧ S'.1.length = S.1.length + 1
theorem MJ_initS : MM 205 kJ0_init_db425 (none) [] 5 := ⟨rfl, rfl, rfl, rfl⟩
theorem e_initS {N M r q p cap : Nat} {T : List Int32} (hS : M < 80000) (hr : S.1[r]? = some (.inl 9)) (h : SBs M S q p cap T) (hc : cap ≤ 40) (hT : T.length < cap) (hN : N ≤ r) : EQ E (d + 4) 205 [.ref r, .ref q, .null] S 1 40 (fun v S' => v = none ∧ ToP N r T S S') := by
  have hM := MJ_initS
  have hrq : r ≠ q := fun e => by
    rw [e, h.2.1] at hr
    cases hr
  have hrp : r ≠ p := fun e => by
    rw [e, h.2.2.1] at hr
    cases hr
  refine q_ev hM (Nat.le_of_ble_eq_true rfl) rfl (q_go hM 3 (5, [some (.ref r), some (.ref q), some .null, none, none], [.ref q], S) rfl ?_)
  refine q_call (a := 0) (b := 0) hM rfl rfl (rx_b h.2.1) ((e_getValue (d := d) h).le (Nat.add_le_add_left (show 1 ≤ 3 by omega) d) (Nat.le_refl _) (Nat.le_refl _)).ec ?_ (Nat.zero_le _) (Nat.zero_le _)
  rintro v S0 ⟨rfl, rfl⟩
  refine q_go hM 2 (10, [some (.ref r), some (.ref q), some .null, some (.ref p), none], [.ref q], S0) rfl ?_
  refine q_call (a := 0) (b := 0) hM rfl rfl (rx_b h.2.1) ((e_length4 (d := d) h).le (Nat.add_le_add_left (show 2 ≤ 3 by omega) d) (Nat.le_refl _) (Nat.le_refl _)).ec ?_ (Nat.zero_le _) (Nat.zero_le _)
  rintro v S1 ⟨rfl, rfl⟩
  refine q_go hM 2 (16, [some (.ref r), some (.ref q), some .null, some (.ref p), some (.int (z (T.length : Int)))], [.ref q], S1) rfl ?_
  refine q_call (a := 0) (b := 0) hM rfl rfl (rx_b h.2.1) ((e_isLatin1 (d := d) h).le (Nat.add_le_add_left (show 1 ≤ 3 by omega) d) (Nat.le_refl _) (Nat.le_refl _)).ec ?_ (Nat.zero_le _) (Nat.zero_le _)
  rintro v S2 ⟨rfl, rfl⟩
  refine q_st hM 0 (22, [some (.ref r), some (.ref q), some .null, some (.ref p), some (.int (z (T.length : Int)))], [], S2) rfl rfl (pm1 (show ¬ (1 : Int32) = 0 by decide)) ?_
  refine q_go hM 2 (24, [some (.ref r), some (.ref q), some .null, some (.ref p), some (.int (z (T.length : Int)))], [.int (z 0), .ref r], S2) rfl (q_put hM rfl hr rfl ?_)
  refine q_go hM 4 (32, [some (.ref r), some (.ref q), some .null, some (.ref p), some (.int (z (T.length : Int)))], [.int (z (T.length : Int)), .int (z 0), .ref p, .ref r], S2.1, pmU S2.2.1 r 1 (z 0), S2.2.2) rfl ?_
  have h' := h.put (k := 1) (x := z 0) hrq hrp
  refine q_call (a := 1) (b := 40) hM rfl rfl rx_s (e_copyOfRange (S := (S2.1, pmU S2.2.1 r 1 (z 0), S2.2.2)) (d := d) (Nat.lt_of_le_of_lt h.1 (by omega)) h'.2.2.1 h'.2.2.2.2.2.2.2.2 hT hc).ec ?_
  rintro v S3 ⟨rfl, hcp⟩
  obtain ⟨k1, k2, k3⟩ := str_mk (N := N) h hr hN rfl hcp hrp
  refine q_put hM rfl (by rw [hcp.1]; exact get_app hr) rfl ?_
  exact q_go hM 1 (97, [some (.ref r), some (.ref q), some .null, some (.ref p), some (.int (z (T.length : Int)))], [], _) rfl (q_ret hM rfl rfl trivial ⟨rfl, S2.1.length, k1, by have := (List.getElem?_eq_some_iff.mp hr).1; omega, k2, k3⟩)
theorem MJ_initS2 : MM 206 kJ0_init_81219 (none) [] 2 := ⟨rfl, rfl, rfl, rfl⟩
theorem e_initS2 {N M r q p cap : Nat} {T : List Int32} (hS : M < 80000) (hr : S.1[r]? = some (.inl 9)) (h : SBs M S q p cap T) (hc : cap ≤ 40) (hT : T.length < cap) (hN : N ≤ r) : EQ E (d + 5) 206 [.ref r, .ref q] S 1 40 (fun v S' => v = none ∧ ToP N r T S S') := by
  have hM := MJ_initS2
  refine q_ev hM (Nat.le_of_ble_eq_true rfl) rfl (q_go hM 3 (3, [some (.ref r), some (.ref q)], [.null, .ref q, .ref r], S) rfl ?_)
  refine q_call (a := 1) (b := 40) hM rfl rfl (rx_o 9 hr (by decide) rfl) (e_initS (d := d) (N := N) hS hr h hc hT hN).ec ?_
  rintro v S' ⟨rfl, g⟩
  exact q_ret hM rfl rfl trivial ⟨rfl, g⟩
theorem MJ_toString : MM 207 kJ4_toString_0e30d (some (.object "java/lang/String")) [] 1 := ⟨rfl, rfl, rfl, rfl⟩
theorem fr_new {N : Nat} (c : Nat) (hN : N ≤ S.1.length) : FR N S (S.1 ++ [.inl c], pmZ S.1.length S.2) := by
  refine ⟨hN, ⟨_, rfl⟩, fun i hi => ⟨?_, ?_, ?_, ?_⟩, fun hv i k r hr => ?_⟩
  · funext k
    exact if_neg (by omega)
  · funext k
    exact if_neg (by omega)
  · funext k
    exact if_neg (by omega)
  · funext k
    exact if_neg (by omega)
  · have hr : (if i = S.1.length then none else S.2.2.2.1 i k) = some r := hr
    show r < (S.1 ++ [Sum.inl c] : pmG).length ∨ _
    rw [List.length_append]
    show r < S.1.length + 1 ∨ _
    split at hr
    · cases hr
    · have := hv i k r hr
      omega
theorem SBs.new {M q p cap : Nat} {T : List Int32} (c : Nat) (h : SBs M S q p cap T) : SBs (M + 1) (S.1 ++ [.inl c], pmZ S.1.length S.2) q p cap T := by
  obtain ⟨g1, g2, g3, g4, g5, g6, g7, g8, g9⟩ := h
  have hq : q < S.1.length := (List.getElem?_eq_some_iff.mp g2).1
  have hp : p < S.1.length := (List.getElem?_eq_some_iff.mp g3).1
  refine ⟨?_, get_app g2, get_app g3, (if_neg (by omega)).trans g4, (if_neg (by omega)).trans g5, (if_neg (by omega)).trans g6, g7, fun i x hx => (if_neg (by omega)).trans (g8 i x hx), fun i => ?_⟩
  · show (S.1 ++ [Sum.inl c] : pmG).length ≤ M + 1
    rw [List.length_append]
    show S.1.length + 1 ≤ M + 1
    omega
  · show BY (if p = S.1.length then 0 else S.2.1 p i)
    rw [if_neg (by omega)]
    exact g9 i
/-- toString -/
theorem e_toString {N M q p cap : Nat} {T : List Int32} (hS : M < 70000) (h : SBs M S q p cap T) (hc : cap ≤ 40) (hT : T.length < cap) (hN : N ≤ S.1.length) : EQ E (d + 6) 207 [.ref q] S 2 44 (fun v S' => v = some (.ref S.1.length) ∧ ∃ p, STR S' S.1.length p T ∧ N ≤ p ∧ FR N S S' ∧ S'.1.length = S.1.length + 2) := by
  have hM := MJ_toString
  have h1 := h.1
  refine q_ev hM (Nat.le_of_ble_eq_true rfl) rfl (q_al hM 1 4 (3, [some (.ref q)], [.ref S.1.length], S.1 ++ [.inl 9], pmZ S.1.length S.2) rfl ?_ ?_)
  · show (if S.1.length < 90000 then _ else none) = _
    rw [if_pos (by omega)]
    rfl
  refine q_go hM 2 (5, [some (.ref q)], [.ref q, .ref S.1.length, .ref S.1.length], S.1 ++ [.inl 9], pmZ S.1.length S.2) rfl ?_
  refine q_call (a := 1) (b := 40) hM rfl rfl (rx_o 9 get_new (by decide) rfl) (e_initS2 (S := (S.1 ++ [.inl 9], pmZ S.1.length S.2)) (d := d) (N := N) (M := M + 1) (by omega) get_new (h.new 9) hc hT hN).ec ?_
  rintro v S' ⟨rfl, p', g1, g2, g3, g4⟩
  refine q_ret hM rfl rfl trivial ⟨rfl, p', g1, g2, (fr_new 9 hN).trans g3, ?_⟩
  have : (S.1 ++ [Sum.inl 9] : pmG).length = S.1.length + 1 := by
    rw [List.length_append]
    rfl
  show S'.1.length = S.1.length + 2
  rw [g4]
  show (S.1 ++ [Sum.inl 9] : pmG).length + 1 = _
  rw [this]
end JDK4
