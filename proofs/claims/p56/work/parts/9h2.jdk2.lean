/-! append of a String constant -/
theorem sb_grow {M N q p : Nat} {S S' : pmS} {T : List Int32} (h : SBs M S q p 16 T) (hq : N ≤ q) (hc : CPy S S' p 34 16) : SBs (M + 1) (S'.1, S'.2.1, S'.2.2.1, pmU S'.2.2.2.1 q 0 (some S.1.length), S'.2.2.2.2) q S.1.length 34 T ∧ FR N S (S'.1, S'.2.1, S'.2.2.1, pmU S'.2.2.2.1 q 0 (some S.1.length), S'.2.2.2.2) := by
  obtain ⟨h1, h2, h3, h4, h5, h6, h7, h8, h9⟩ := h
  obtain ⟨c1, c2, c3, c4, c5⟩ := hc
  have hql : q < S.1.length := (List.getElem?_eq_some_iff.mp h2).1
  have hlen : S'.1.length = S.1.length + 1 := by
    rw [c1, List.length_append]
    rfl
  refine ⟨⟨?_, ?_, ?_, ?_, ?_, ?_, by omega, fun i x hx => ?_, c4⟩, by omega, ⟨_, c1⟩, fun i hi => ?_, fun hv i k r hr => ?_⟩
  · show S'.1.length ≤ _
    omega
  · show S'.1[q]? = _
    rw [c1]
    exact get_app h2
  · show S'.1[S.1.length]? = _
    rw [c1]
    exact get_new
  · exact pU_same _ _ _ _
  · show S'.2.1 q 1 = 0
    rw [(c2 q (by omega)).1]
    exact h5
  · show S'.2.1 q 3 = _
    rw [(c2 q (by omega)).1]
    exact h6
  · show S'.2.1 S.1.length i = x
    have : i < T.length := (List.getElem?_eq_some_iff.mp hx).1
    rw [c3 i (by omega)]
    exact h8 i x hx
  · obtain ⟨a1, a2, a3, a4⟩ := c2 i (by omega)
    refine ⟨a1, a2, ?_, a4⟩
    show pmU S'.2.2.2.1 q 0 (some S.1.length) i = _
    funext k
    rw [pU_ne _ _ _ _ (by omega), a3]
  · have hr : pmU S'.2.2.2.1 q 0 (some S.1.length) i k = some r := hr
    show r < S'.1.length ∨ _
    unfold pmU at hr
    split at hr
    · split at hr
      · cases hr
        omega
      · by_cases hi : i = S.1.length
        · subst hi
          rw [c5] at hr
          cases hr
        · rw [(c2 i hi).2.2.1] at hr
          have := hv i k r hr
          omega
    · by_cases hi : i = S.1.length
      · subst hi
        rw [c5] at hr
        cases hr
      · rw [(c2 i hi).2.2.1] at hr
        have := hv i k r hr
        omega
/-- more text -/
theorem sb_ext {M N q p cap : Nat} {S : pmS} {T Y : List Int32} {I : Nat → Nat → Int32} (h : SBs M S q p cap T) (hqp : N ≤ q ∧ N ≤ p) (hc : T.length + Y.length ≤ cap) (hI : ∀ i, i ≠ p → I i = S.2.1 i) (h1 : ∀ i, i < T.length → I p i = S.2.1 p i) (h2 : ∀ i x, Y[i]? = some x → I p (T.length + i) = x) (hb : ∀ i, BY (I p i)) {n : Int32} (hn : n = z (((T ++ Y).length : Nat) : Int)) :
    SBs M (S.1, pmU I q 3 n, S.2.2) q p cap (T ++ Y) ∧ FR N S (S.1, pmU I q 3 n, S.2.2) := by
  obtain ⟨g1, g2, g3, g4, g5, g6, g7, g8, g9⟩ := h
  have hpq : p ≠ q := fun e => by
    rw [e, g2] at g3
    cases g3
  have hl : (T ++ Y).length = T.length + Y.length := List.length_append
  have hql : q < S.1.length := (List.getElem?_eq_some_iff.mp g2).1
  refine ⟨⟨g1, g2, g3, g4, ?_, ?_, by omega, fun i x hx => ?_, fun i => ?_⟩, by omega, ⟨[], (List.append_nil _).symm⟩, fun i hi => ⟨?_, rfl, rfl, rfl⟩, id⟩
  · show pmU I q 3 n q 1 = 0
    rw [pU_nk _ _ _ _ (by decide), hI q (Ne.symm hpq)]
    exact g5
  · show pmU I q 3 n q 3 = _
    rw [pU_same]
    exact hn
  · show pmU I q 3 n p i = x
    rw [pU_ne _ _ _ _ hpq]
    rcases Nat.lt_or_ge i T.length with hi | hi
    · rw [List.getElem?_append_left hi] at hx
      rw [h1 i hi]
      exact g8 i x hx
    · rw [List.getElem?_append_right hi] at hx
      have := h2 _ _ hx
      rw [show T.length + (i - T.length) = i by omega] at this
      exact this
  · show BY (pmU I q 3 n p i)
    rw [pU_ne _ _ _ _ hpq]
    exact hb i
  · show pmU I q 3 n i = _
    funext k
    rw [pU_ne _ _ _ _ (by omega), hI i (by omega)]
section JDK2
variable {E : pmEv0} {d A B : Nat} {S : pmS}
theorem sb_val {M q p cap : Nat} {T : List Int32} (h : SBs M S q p cap T) : pmRd (pmTy 10 0) S.2 q 0 = .ref p := by
  show va_rf (S.2.2.2.1 q 0) = _
  rw [h.2.2.2.1]
  rfl
theorem sb_cod {M q p cap : Nat} {T : List Int32} (h : SBs M S q p cap T) : pmRd (pmTy 10 1) S.2 q 1 = .int 0 := congrArg Value.int h.2.2.2.2.1
theorem sb_cnt {M q p cap : Nat} {T : List Int32} (h : SBs M S q p cap T) : pmRd (pmTy 10 3) S.2 q 3 = .int (z (T.length : Int)) := congrArg Value.int h.2.2.2.2.2.1
/-- room for k bytes -/
def EnP (M N q : Nat) (T : List Int32) (k : Nat) (S S' : pmS) : Prop := ∃ p cap, SBs (M + 1) S' q p cap T ∧ (cap = 16 ∨ cap = 34) ∧ k ≤ cap ∧ N ≤ p ∧ FR N S S'
theorem MJ_ensure : MM 188 kJ5_ensureCapacityInternal_d00df (none) [] 3 := ⟨rfl, rfl, rfl, rfl⟩
theorem e_ensure {M N q p cap k : Nat} {T : List Int32} (h : SBs M S q p cap T) (hM9 : M ≤ 80000) (hcap : cap = 16 ∨ cap = 34) (hk : k ≤ 33) (hN : N ≤ q ∧ N ≤ p) : EQ E (d + 4) 188 [.ref q, .int (z (k : Int))] S 1 34 (fun v S' => v = none ∧ EnP M N q T k S S') := by
  have hM := MJ_ensure
  have h2 := h.2.1
  have hql : q < S.1.length := (List.getElem?_eq_some_iff.mp h2).1
  refine q_ev hM (Nat.le_of_ble_eq_true rfl) rfl (q_go hM 1 (1, [some (.ref q), some (.int (z (k : Int))), none], [.ref q], S) rfl ?_)
  refine q_get hM rfl h2 (sb_val h) (q_len hM rfl h.2.2.1 ?_)
  refine q_go hM 1 (6, [some (.ref q), some (.int (z (k : Int))), none], [.ref q, .int (Int32.ofNat cap)], S) rfl (q_get hM rfl h2 (sb_cod h) ?_)
  refine q_go hM 1 (10, [some (.ref q), some (.int (z (k : Int))), none], [.int (Int32.ofNat cap >>> ((0 : Int32) &&& 31))], S) rfl ?_
  rw [sr0, zN]
  refine q_go hM 4 (14, [some (.ref q), some (.int (z (k : Int))), some (.int (z (cap : Int)))], [.int (z (k : Int) - z (cap : Int))], S) rfl ?_
  rw [z_sub]
  rcases Nat.lt_or_ge cap k with hlt | hge
  · obtain rfl : cap = 16 := by omega
    refine q_st hM 0 (17, [some (.ref q), some (.int (z (k : Int))), some (.int (z ((16 : Nat) : Int)))], [], S) rfl rfl (pm1 (show ¬ z ((k : Int) - (16 : Nat)) ≤ 0 from fun g => ?_)) ?_
    · rw [Int32.le_iff_toInt_le, z_toInt (by omega)] at g
      have : (0 : Int32).toInt = 0 := rfl
      omega
    refine q_go hM 2 (19, [some (.ref q), some (.int (z (k : Int))), some (.int (z ((16 : Nat) : Int)))], [.ref q, .ref q], S) rfl (q_get hM rfl h2 (sb_val h) ?_)
    refine q_go hM 2 (24, [some (.ref q), some (.int (z (k : Int))), some (.int (z ((16 : Nat) : Int)))], [.int (z (k : Int)), .ref q, .ref p, .ref q], S) rfl ?_
    refine q_call (a := 0) (b := 0) hM rfl rfl (rx_b h2) (e_newCapacity (d := d) h (by
      rw [z_sub]
      exact zlt (by omega))).ec ?_ (Nat.zero_le _) (Nat.zero_le _)
    rintro v S' ⟨rfl, rfl⟩
    refine q_go hM 1 (28, [some (.ref q), some (.int (z (k : Int))), some (.int (z ((16 : Nat) : Int)))], [.ref q, .int (z 34), .ref p, .ref q], S') rfl (q_get hM rfl h2 (sb_cod h) ?_)
    refine q_go hM 1 (32, [some (.ref q), some (.int (z (k : Int))), some (.int (z ((16 : Nat) : Int)))], [.int (z 34), .ref p, .ref q], S') rfl ?_
    refine q_call (a := 1) (b := 34) hM rfl rfl rx_s ((e_copyOf (d := d) (by have := h.1; omega) h.2.2.1 h.2.2.2.2.2.2.2.2).le (by omega) (Nat.le_refl _) (Nat.le_refl _)).ec ?_
    rintro v S2 ⟨rfl, hcp⟩
    obtain ⟨g1, g2⟩ := sb_grow (N := N) h hN.1 hcp
    refine q_put hM rfl (by rw [hcp.1]; exact get_app h2) rfl ?_
    exact q_ret hM rfl rfl trivial ⟨rfl, S'.1.length, 34, g1, Or.inr rfl, by omega, by omega, g2⟩
  · refine q_st hM 1 (38, [some (.ref q), some (.int (z (k : Int))), some (.int (z (cap : Int)))], [], S) rfl rfl (pm1 (show z ((k : Int) - (cap : Nat)) ≤ 0 from ?_)) ?_
    · rw [Int32.le_iff_toInt_le, z_toInt (by omega)]
      show (k : Int) - (cap : Nat) ≤ 0
      omega
    obtain ⟨g1, g2, g3, g4, g5, g6, g7, g8, g9⟩ := h
    exact q_ret hM rfl rfl trivial ⟨rfl, p, cap, ⟨Nat.le_succ_of_le g1, g2, g3, g4, g5, g6, g7, g8, g9⟩, hcap, hge, hN.2, FR.rfl (show N ≤ S.1.length by omega)⟩
theorem MJ_coder : MM 182 kJ0_coder_7d493 (some .byte) [] 1 := ⟨rfl, rfl, rfl, rfl⟩
theorem e_coderL {s : Nat} (hS : S.1.length ≤ 90000) (hs : s < pmSt0.length) : EQ E (d + 1) 182 [.ref (100000 + s)] S A B (fun v S' => v = some (.int 0) ∧ S' = S) := by
  have hM := MJ_coder
  refine q_ev hM (Nat.le_of_ble_eq_true rfl) rfl (q_go hM 1 (3, [some (.ref (100000 + s))], [.int 1], S) rfl (q_st hM 0 (6, [some (.ref (100000 + s))], [], S) rfl rfl (pm1 (show ¬ (1 : Int32) = 0 by decide)) ?_))
  refine q_go hM 1 (7, [some (.ref (100000 + s))], [.ref (100000 + s)], S) rfl (q_l41 hM hS rfl hs ?_)
  exact q_go hM 1 (14, [some (.ref (100000 + s))], [.int 0], S) rfl (q_ret hM rfl rfl (pm1 rfl) ⟨rfl, rfl⟩)
theorem MJ_length : MM 183 kJ0_length_8abf5 (some .int) [] 1 := ⟨rfl, rfl, rfl, rfl⟩
theorem rx_l {t s : Nat} {as : List Value} (hs : s < pmSt0.length) (ht : (pmNm (Pg t)).cls = "java/lang/String") : pmRx S t 2 (.ref (100000 + s) :: as) := rx_j (by omega) (by omega) ht
theorem e_lengthL {s : Nat} (hS : S.1.length ≤ 90000) (hs : s < pmSt0.length) : EQ E (d + 2) 183 [.ref (100000 + s)] S A B (fun v S' => v = some (.int (z ((pmStB s).length : Int))) ∧ S' = S) := by
  have hM := MJ_length
  refine q_ev hM (Nat.le_of_ble_eq_true rfl) rfl (q_go hM 1 (1, [some (.ref (100000 + s))], [.ref (100000 + s)], S) rfl (q_l40 hM hS rfl hs (q_llen hM hS rfl hs ?_)))
  refine q_go hM 1 (6, [some (.ref (100000 + s))], [.ref (100000 + s), .int (Int32.ofNat (pmStB s).length)], S) rfl ?_
  refine q_call (a := 0) (b := 0) hM rfl rfl (rx_l hs rfl) (e_coderL (d := d) hS hs).ec ?_ (Nat.zero_le _) (Nat.zero_le _)
  rintro v S' ⟨rfl, rfl⟩
  refine q_go hM 1 (10, [some (.ref (100000 + s))], [.int (Int32.ofNat (pmStB s).length >>> ((0 : Int32) &&& 31))], S') rfl ?_
  rw [sr0, zN]
  exact q_ret hM rfl rfl trivial ⟨rfl, rfl⟩
theorem MJ_inflate : MM 189 kJ5_inflateIfNeededFor_a7421 (none) [] 2 := ⟨rfl, rfl, rfl, rfl⟩
theorem e_inflate {M q p cap s : Nat} {T : List Int32} (h : SBs M S q p cap T) (hM9 : M ≤ 90000) (hs : s < pmSt0.length) : EQ E (d + 2) 189 [.ref q, .ref (100000 + s)] S A B (fun v S' => v = none ∧ S' = S) := by
  have hM := MJ_inflate
  refine q_ev hM (Nat.le_of_ble_eq_true rfl) rfl (q_go hM 1 (3, [some (.ref q), some (.ref (100000 + s))], [.int 1], S) rfl (q_st hM 0 (6, [some (.ref q), some (.ref (100000 + s))], [], S) rfl rfl (pm1 (show ¬ (1 : Int32) = 0 by decide)) ?_))
  refine q_go hM 1 (7, [some (.ref q), some (.ref (100000 + s))], [.ref q], S) rfl (q_get hM rfl h.2.1 (sb_cod h) ?_)
  refine q_go hM 1 (11, [some (.ref q), some (.ref (100000 + s))], [.ref (100000 + s), .int 0], S) rfl ?_
  refine q_call (a := 0) (b := 0) hM rfl rfl (rx_l hs rfl) (e_coderL (d := d) (Nat.le_trans h.1 hM9) hs).ec ?_ (Nat.zero_le _) (Nat.zero_le _)
  rintro v S' ⟨rfl, rfl⟩
  refine q_st hM 1 (21, [some (.ref q), some (.ref (100000 + s))], [], S') rfl rfl (pm1 (show (0 : Int32) = 0 from rfl)) ?_
  exact q_ret hM rfl rfl trivial ⟨rfl, rfl⟩
/-- a constant's bytes put at n -/
def puLt (S : pmS) (p n s : Nat) : pmS := (S.1, (fun i => if i = p then va_cpy (fun j => (pmStB s).getD j 0) (S.2.1 p) 0 n (pmStB s).length else S.2.1 i), S.2.2)
def byL (l : List Int32) : Bool := l.all (fun x => fits .byte (.int x))
set_option maxRecDepth 10000 in
theorem stB_all : ((List.range 30).all (fun s => byL (pmStB s) && decide ((pmStB s).length ≤ 20))) = true := by decide +kernel
theorem st0_len : pmSt0.length = 30 := rfl
theorem stB_by {s : Nat} (hs : s < pmSt0.length) (i : Nat) : BY ((pmStB s).getD i 0) := by
  have h := List.all_eq_true.mp stB_all s (List.mem_range.mpr (by rw [← st0_len]; exact hs))
  rw [Bool.and_eq_true] at h
  rw [List.getD_eq_getElem?_getD]
  cases hx : (pmStB s)[i]? with
  | none => exact by_0
  | some x => exact List.all_eq_true.mp h.1 x (List.mem_of_getElem? hx)
theorem stB_len {s : Nat} (hs : s < pmSt0.length) : (pmStB s).length ≤ 20 := by
  have h := List.all_eq_true.mp stB_all s (List.mem_range.mpr (by rw [← st0_len]; exact hs))
  rw [Bool.and_eq_true] at h
  exact of_decide_eq_true h.2
theorem MJ_getBytes : MM 190 kJ0_getBytes_840e7 (none) [] 4 := ⟨rfl, rfl, rfl, rfl⟩
theorem e_getBytes {p cap s n : Nat} (hS : S.1.length ≤ 90000) (h3 : S.1[p]? = some (.inr (1, cap))) (hs : s < pmSt0.length) (hn : n + (pmStB s).length ≤ cap) (hc9 : cap ≤ 1000) : EQ E (d + 2) 190 [.ref (100000 + s), .ref p, .int (z (n : Int)), .int 0] S A B (fun v S' => v = none ∧ S' = puLt S p n s) := by
  have hM := MJ_getBytes
  refine q_ev hM (Nat.le_of_ble_eq_true rfl) rfl (q_go hM 1 (1, [some (.ref (100000 + s)), some (.ref p), some (.int (z (n : Int))), some (.int 0)], [.ref (100000 + s)], S) rfl ?_)
  refine q_call (a := 0) (b := 0) hM rfl rfl (rx_l hs rfl) (e_coderL (d := d) hS hs).ec ?_ (Nat.zero_le _) (Nat.zero_le _)
  rintro v S' ⟨rfl, rfl⟩
  refine q_go hM 1 (5, [some (.ref (100000 + s)), some (.ref p), some (.int (z (n : Int))), some (.int 0)], [.int 0, .int 0], S') rfl ?_
  refine q_st hM 0 (8, [some (.ref (100000 + s)), some (.ref p), some (.int (z (n : Int))), some (.int 0)], [], S') rfl rfl (pm1 (show ¬ ¬ (0 : Int32) = 0 from fun g => g rfl)) ?_
  refine q_go hM 1 (9, [some (.ref (100000 + s)), some (.ref p), some (.int (z (n : Int))), some (.int 0)], [.ref (100000 + s)], S') rfl (q_l40 hM hS rfl hs ?_)
  refine q_go hM 5 (17, [some (.ref (100000 + s)), some (.ref p), some (.int (z (n : Int))), some (.int 0)], [.int (z (n : Int) <<< ((0 : Int32) &&& 31)), .ref p, .int (z 0), .ref (200000 + s)], S') rfl ?_
  rw [sh0]
  refine q_go hM 1 (18, [some (.ref (100000 + s)), some (.ref p), some (.int (z (n : Int))), some (.int 0)], [.ref (100000 + s), .int (z (n : Int)), .ref p, .int (z 0), .ref (200000 + s)], S') rfl (q_l40 hM hS rfl hs (q_llen hM hS rfl hs ?_))
  rw [zN]
  have hl := stB_len hs
  refine q_cpl hM hS rfl hs h3 (by decide) ⟨by decide, (show ¬ z (n : Int) < z 0 from zge (by omega)), (show ¬ z ((pmStB s).length : Int) < z 0 from zge (by omega)), ?_, ?_, fun i _ => stB_by hs _⟩ ?_
  · rw [z_nat (by omega), show (z 0).toNatClampNeg = 0 from rfl]
    omega
  · rw [z_nat (by omega), z_nat (by omega)]
    omega
  · rw [z_nat (by omega), z_nat (by omega), show (z 0).toNatClampNeg = 0 from rfl]
    exact q_go hM 1 (43, [some (.ref (100000 + s)), some (.ref p), some (.int (z (n : Int))), some (.int 0)], [], puLt S' p n s) rfl (q_ret hM rfl rfl trivial ⟨rfl, rfl⟩)
theorem MJ_putStringAt : MM 191 kJ5_putStringAt_47b60 (none) [] 3 := ⟨rfl, rfl, rfl, rfl⟩
theorem e_putStringAt {M q p cap s n : Nat} {T : List Int32} (h : SBs M S q p cap T) (hM9 : M ≤ 90000) (hs : s < pmSt0.length) (hn : n + (pmStB s).length ≤ cap) (hc9 : cap ≤ 1000) : EQ E (d + 3) 191 [.ref q, .int (z (n : Int)), .ref (100000 + s)] S A B (fun v S' => v = none ∧ S' = puLt S p n s) := by
  have hM := MJ_putStringAt
  refine q_ev hM (Nat.le_of_ble_eq_true rfl) rfl (q_go hM 2 (2, [some (.ref q), some (.int (z (n : Int))), some (.ref (100000 + s))], [.ref (100000 + s), .ref q], S) rfl ?_)
  refine q_call (a := 0) (b := 0) hM rfl rfl (rx_b h.2.1) (e_inflate (d := d) h hM9 hs).ec ?_ (Nat.zero_le _) (Nat.zero_le _)
  rintro v S' ⟨rfl, rfl⟩
  refine q_go hM 2 (7, [some (.ref q), some (.int (z (n : Int))), some (.ref (100000 + s))], [.ref q, .ref (100000 + s)], S') rfl (q_get hM rfl h.2.1 (sb_val h) ?_)
  refine q_go hM 2 (12, [some (.ref q), some (.int (z (n : Int))), some (.ref (100000 + s))], [.ref q, .int (z (n : Int)), .ref p, .ref (100000 + s)], S') rfl (q_get hM rfl h.2.1 (sb_cod h) ?_)
  refine q_call (a := 0) (b := 0) hM rfl rfl (rx_l hs rfl) (e_getBytes (d := d) (Nat.le_trans h.1 hM9) h.2.2.1 hs hn hc9).ec ?_ (Nat.zero_le _) (Nat.zero_le _)
  rintro v S2 ⟨rfl, rfl⟩
  exact q_ret hM rfl rfl trivial ⟨rfl, rfl⟩
/-- what append leaves -/
def ApP (M N q : Nat) (T : List Int32) (S S' : pmS) : Prop := ∃ p cap, SBs M S' q p cap T ∧ (cap = 16 ∨ cap = 34) ∧ N ≤ p ∧ FR N S S'
theorem MJ_append5 : MM 192 kJ5_append_cf1ce (some (.object "java/lang/AbstractStringBuilder")) [] 3 := ⟨rfl, rfl, rfl, rfl⟩
theorem e_append5 {M N q p cap s : Nat} {T : List Int32} (h : SBs M S q p cap T) (hM9 : M ≤ 80000) (hcap : cap = 16 ∨ cap = 34) (hs : s < pmSt0.length) (hk : T.length + (pmStB s).length ≤ 33) (hN : N ≤ q ∧ N ≤ p) : EQ E (d + 5) 192 [.ref q, .ref (100000 + s)] S 1 34 (fun v S' => v = some (.ref q) ∧ ApP (M + 1) N q (T ++ pmStB s) S S') := by
  have hM := MJ_append5
  refine q_ev hM (Nat.le_of_ble_eq_true rfl) rfl (q_go hM 3 (10, [some (.ref q), some (.ref (100000 + s)), none], [.ref (100000 + s)], S) rfl ?_)
  refine q_call (a := 0) (b := 0) hM rfl rfl (rx_l hs rfl) ((e_lengthL (d := d) (Nat.le_trans h.1 (by omega)) hs).le (Nat.add_le_add_left (show 2 ≤ 4 by omega) d) (Nat.le_refl _) (Nat.le_refl _)).ec ?_ (Nat.zero_le _) (Nat.zero_le _)
  rintro v S' ⟨rfl, rfl⟩
  refine q_go hM 3 (16, [some (.ref q), some (.ref (100000 + s)), some (.int (z ((pmStB s).length : Int)))], [.ref q, .ref q], S') rfl (q_get hM rfl h.2.1 (sb_cnt h) ?_)
  refine q_go hM 2 (21, [some (.ref q), some (.ref (100000 + s)), some (.int (z ((pmStB s).length : Int)))], [.int (z (T.length : Int) + z ((pmStB s).length : Int)), .ref q], S') rfl ?_
  rw [z_add, ← Int.natCast_add]
  refine q_call (a := 1) (b := 34) hM rfl rfl (rx_b h.2.1) (e_ensure (d := d) (N := N) h hM9 hcap hk hN).ec ?_
  rintro v S1 ⟨rfl, p1, cap1, g1, g2, g3, g4, g5⟩
  refine q_go hM 2 (26, [some (.ref q), some (.ref (100000 + s)), some (.int (z ((pmStB s).length : Int)))], [.ref q, .ref q], S1) rfl (q_get hM rfl g1.2.1 (sb_cnt g1) ?_)
  refine q_go hM 1 (30, [some (.ref q), some (.ref (100000 + s)), some (.int (z ((pmStB s).length : Int)))], [.ref (100000 + s), .int (z (T.length : Int)), .ref q], S1) rfl ?_
  refine q_call (a := 0) (b := 0) hM rfl rfl (rx_b g1.2.1) ((e_putStringAt (d := d) g1 (by omega) hs g3 (by omega)).le (Nat.add_le_add_left (show 3 ≤ 4 by omega) d) (Nat.le_refl _) (Nat.le_refl _)).ec ?_ (Nat.zero_le _) (Nat.zero_le _)
  rintro v S2 ⟨rfl, rfl⟩
  have hpq : q ≠ p1 := fun e => by
    have := g1.2.2.1
    rw [← e, g1.2.1] at this
    cases this
  have hcnt : pmRd (pmTy 10 3) (puLt S1 p1 T.length s).2 q 3 = .int (z (T.length : Int)) := by
    show Value.int ((if q = p1 then va_cpy (fun j => (pmStB s).getD j 0) (S1.2.1 p1) 0 T.length (pmStB s).length else S1.2.1 q) 3) = _
    rw [if_neg hpq]
    exact sb_cnt g1
  refine q_go hM 2 (35, [some (.ref q), some (.ref (100000 + s)), some (.int (z ((pmStB s).length : Int)))], [.ref q, .ref q], puLt S1 p1 T.length s) rfl (q_get hM rfl g1.2.1 hcnt ?_)
  refine q_go hM 2 (40, [some (.ref q), some (.ref (100000 + s)), some (.int (z ((pmStB s).length : Int)))], [.int (z (T.length : Int) + z ((pmStB s).length : Int)), .ref q], puLt S1 p1 T.length s) rfl (q_put hM rfl g1.2.1 rfl ?_)
  rw [z_add, ← Int.natCast_add]
  obtain ⟨k1, k2⟩ := sb_ext (N := N) (Y := pmStB s) (I := (puLt S1 p1 T.length s).2.1) (n := z (((T.length + (pmStB s).length : Nat)) : Int)) g1 ⟨hN.1, g4⟩ g3 (fun i hi => if_neg hi) (fun i hi => by
      show (if p1 = p1 then va_cpy (fun j => (pmStB s).getD j 0) (S1.2.1 p1) 0 T.length (pmStB s).length else S1.2.1 p1) i = _
      rw [if_pos rfl]
      exact if_neg (by omega)) (fun i x hx => by
      show (if p1 = p1 then va_cpy (fun j => (pmStB s).getD j 0) (S1.2.1 p1) 0 T.length (pmStB s).length else S1.2.1 p1) (T.length + i) = _
      have hi := (List.getElem?_eq_some_iff.mp hx).1
      rw [if_pos rfl]
      unfold va_cpy
      rw [if_pos (by omega), show 0 + (T.length + i - T.length) = i by omega]
      dsimp only
      rw [List.getD_eq_getElem?_getD, hx]
      rfl) (fun i => by
      show BY ((if p1 = p1 then va_cpy (fun j => (pmStB s).getD j 0) (S1.2.1 p1) 0 T.length (pmStB s).length else S1.2.1 p1) i)
      rw [if_pos rfl]
      unfold va_cpy
      split
      · exact stB_by hs _
      · exact g1.2.2.2.2.2.2.2.2 i) (by rw [List.length_append])
  exact q_go hM 1 (44, [some (.ref q), some (.ref (100000 + s)), some (.int (z ((pmStB s).length : Int)))], [.ref q], _) rfl (q_ret hM rfl rfl trivial ⟨rfl, p1, cap1, k1, g2, g4, g5.trans k2⟩)
theorem MJ_append4 : MM 193 kJ4_append_15ec4 (some (.object "java/lang/StringBuilder")) [] 2 := ⟨rfl, rfl, rfl, rfl⟩
/-- append(a String constant) -/
theorem e_appendS {M N q p cap s : Nat} {T : List Int32} (h : SBs M S q p cap T) (hM9 : M ≤ 80000) (hcap : cap = 16 ∨ cap = 34) (hs : s < pmSt0.length) (hk : T.length + (pmStB s).length ≤ 33) (hN : N ≤ q ∧ N ≤ p) : EQ E (d + 6) 193 [.ref q, .ref (100000 + s)] S 1 34 (fun v S' => v = some (.ref q) ∧ ApP (M + 1) N q (T ++ pmStB s) S S') := by
  have hM := MJ_append4
  refine q_ev hM (Nat.le_of_ble_eq_true rfl) rfl (q_go hM 2 (2, [some (.ref q), some (.ref (100000 + s))], [.ref (100000 + s), .ref q], S) rfl ?_)
  refine q_call (a := 1) (b := 34) hM rfl rfl (rx_b h.2.1) (e_append5 (d := d) (N := N) h hM9 hcap hs hk hN).ec ?_
  rintro v S1 ⟨rfl, g⟩
  exact q_go hM 2 (7, [some (.ref q), some (.ref (100000 + s))], [.ref q], S1) rfl (q_ret hM rfl rfl trivial ⟨rfl, g⟩)
end JDK2
