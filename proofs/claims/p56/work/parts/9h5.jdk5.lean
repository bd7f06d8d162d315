/-! characters of Strings -/
def CHr (x : Int32) : Prop := (Int32.toUInt32 (x &&& z 255) % 65536).toInt32 = x ∧ vp_nar .char x = x ∧ ∃ k : Nat, k < 200 ∧ x = z (k : Int)
def CHb (x : Int32) : Bool := decide ((Int32.toUInt32 (x &&& z 255) % 65536).toInt32 = x) && (decide (vp_nar .char x = x) && decide (z (x.toInt.toNat : Int) = x ∧ x.toInt.toNat < 200))
theorem CHr_of {x : Int32} (h : CHb x = true) : CHr x := by
  unfold CHb at h
  rw [Bool.and_eq_true, Bool.and_eq_true] at h
  exact ⟨of_decide_eq_true h.1, of_decide_eq_true h.2.1, _, (of_decide_eq_true h.2.2).2, (of_decide_eq_true h.2.2).1.symm⟩
set_option maxRecDepth 100000 in
theorem chr_all : ((List.range 30).all (fun s => (pmStB s).all CHb) && (List.range 100).all (fun m => CHb (pmDo m) && CHb (pmDt m))) = true := by decide +kernel
theorem chr_st {s : Nat} (hs : s < pmSt0.length) {x : Int32} (hx : x ∈ pmStB s) : CHr x := by
  have h := chr_all
  rw [Bool.and_eq_true] at h
  exact CHr_of (List.all_eq_true.mp (List.all_eq_true.mp h.1 s (List.mem_range.mpr (by rw [← st0_len]; exact hs))) x hx)
theorem chr_dg {m : Nat} (hm : m < 100) {x : Int32} (hx : x ∈ dg m) : CHr x := by
  have h := chr_all
  rw [Bool.and_eq_true] at h
  have h2 := List.all_eq_true.mp h.2 m (List.mem_range.mpr hm)
  rw [Bool.and_eq_true] at h2
  unfold dg at hx
  split at hx
  · rcases List.mem_cons.mp hx with rfl | hx
    · exact CHr_of h2.1
    · exact absurd hx List.not_mem_nil
  · rcases List.mem_cons.mp hx with rfl | hx
    · exact CHr_of h2.2
    · rcases List.mem_cons.mp hx with rfl | hx
      · exact CHr_of h2.1
      · exact absurd hx List.not_mem_nil
section JDK5
variable {E : pmEv0} {d A B : Nat} {S : pmS}
theorem e_ck3 {i n : Nat} (h : i < n ∧ n < 1000) : EQ E (d + 1) 42 [.int (z (i : Int)), .int (z (n : Int)), va_rf E.2.2] S A B (fun v S' => (∃ x, v = some (.int x)) ∧ S' = S) := by
  have hM := MMJ3_checkIndex_8e157
  cases E.2.2 with
  | none =>
    refine q_ev hM (Nat.le_of_ble_eq_true rfl) rfl (q_go hM 1 (1, [some (.int (z (i : Int))), some (.int (z (n : Int))), some .null], [.int (z (i : Int))], S) rfl ?_)
    refine q_st hM 0 (4, [some (.int (z (i : Int))), some (.int (z (n : Int))), some .null], [], S) rfl rfl (pm1 (show ¬ z (i : Int) < z 0 from zge (by omega))) ?_
    refine q_go hM 2 (6, [some (.int (z (i : Int))), some (.int (z (n : Int))), some .null], [.int (z (n : Int)), .int (z (i : Int))], S) rfl (q_st hM 1 (16, [some (.int (z (i : Int))), some (.int (z (n : Int))), some .null], [], S) rfl rfl (pm1 (show z (i : Int) < z (n : Int) from zlt (by omega))) ?_)
    exact q_go hM 1 (17, [some (.int (z (i : Int))), some (.int (z (n : Int))), some .null], [.int (z (i : Int))], S) rfl (q_ret hM rfl rfl trivial ⟨⟨_, rfl⟩, rfl⟩)
  | some q =>
    refine q_ev hM (Nat.le_of_ble_eq_true rfl) rfl (q_go hM 1 (1, [some (.int (z (i : Int))), some (.int (z (n : Int))), some (.ref q)], [.int (z (i : Int))], S) rfl ?_)
    refine q_st hM 0 (4, [some (.int (z (i : Int))), some (.int (z (n : Int))), some (.ref q)], [], S) rfl rfl (pm1 (show ¬ z (i : Int) < z 0 from zge (by omega))) ?_
    refine q_go hM 2 (6, [some (.int (z (i : Int))), some (.int (z (n : Int))), some (.ref q)], [.int (z (n : Int)), .int (z (i : Int))], S) rfl (q_st hM 1 (16, [some (.int (z (i : Int))), some (.int (z (n : Int))), some (.ref q)], [], S) rfl rfl (pm1 (show z (i : Int) < z (n : Int) from zlt (by omega))) ?_)
    exact q_go hM 1 (17, [some (.int (z (i : Int))), some (.int (z (n : Int))), some (.ref q)], [.int (z (i : Int))], S) rfl (q_ret hM rfl rfl trivial ⟨⟨_, rfl⟩, rfl⟩)
theorem e_ck {i n : Nat} (h : i < n ∧ n < 1000) : EQ E (d + 2) 43 [.int (z (i : Int)), .int (z (n : Int))] S A B (fun v S' => v = none ∧ S' = S) := by
  have hM := MMJ0_checkIndex_df160
  refine q_ev hM (Nat.le_of_ble_eq_true rfl) rfl (q_go hM 3 (5, [some (.int (z (i : Int))), some (.int (z (n : Int)))], [va_rf E.2.2, .int (z (n : Int)), .int (z (i : Int))], S) rfl ?_)
  refine q_call (a := 0) (b := 0) hM rfl rfl rx_s (e_ck3 (d := d) h).ec ?_ (Nat.zero_le _) (Nat.zero_le _)
  rintro v S' ⟨⟨x, rfl⟩, rfl⟩
  exact q_go hM 1 (9, [some (.int (z (i : Int))), some (.int (z (n : Int)))], [], S') rfl (q_ret hM rfl rfl trivial ⟨rfl, rfl⟩)
theorem MJ_charAt1 : MM 44 kJ1_charAt_3b067 (some .char) [] 2 := ⟨rfl, rfl, rfl, rfl⟩
theorem e_charAt1 {i n p : Nat} {x : Int32} (h : i < n ∧ n < 1000) (h3 : S.1[p]? = some (.inr (1, n))) (hx : S.2.1 p i = x) (hc : CHr x) : EQ E (d + 3) 44 [.ref p, .int (z (i : Int))] S A B (fun v S' => v = some (.int x) ∧ S' = S) := by
  have hM := MJ_charAt1
  refine q_ev hM (Nat.le_of_ble_eq_true rfl) rfl (q_go hM 2 (2, [some (.ref p), some (.int (z (i : Int)))], [.ref p, .int (z (i : Int))], S) rfl (q_len hM rfl h3 ?_))
  rw [zN]
  refine q_call (a := 0) (b := 0) hM rfl rfl rx_s (e_ck (d := d) h).ec ?_ (Nat.zero_le _) (Nat.zero_le _)
  rintro v S' ⟨rfl, rfl⟩
  refine q_go hM 2 (8, [some (.ref p), some (.int (z (i : Int)))], [.int (z (i : Int)), .ref p], S') rfl (q_bld hM rfl h3 (in_z (by omega)) ?_)
  rw [z_nat (by omega), hx]
  refine q_go hM 3 (14, [some (.ref p), some (.int (z (i : Int)))], [.int ((Int32.toUInt32 (x &&& z 255) % 65536).toInt32)], S') rfl ?_
  rw [hc.1]
  exact q_ret hM rfl rfl (pm1 hc.2.1) ⟨rfl, rfl⟩
/-- .. of a constant's bytes -/
theorem q_lbld {d j : Nat} {co : Nat → Option (Instr × Nat × Nat × Nat)} {rt : Option FieldType} {hd : List (Nat × Nat × Nat × Nat × Nat)} {mx : Nat} {Q : Option Value → pmS → Prop} {pc : Nat} {L : List (Option Value)} {st : List Value} (hM : MM j co rt hd mx) {q : Nat} {i : Int32} {x : Nat × Nat} (hS : S.1.length ≤ 90000) (hc : co pc = some (.baload, 1, x)) (h0 : q < pmSt0.length) (hi : vp_in i (pmStB q).length) (h : RQ E d j (pc + 1, L, .int ((pmStB q).getD i.toNatClampNeg 0) :: st, S) A B Q) : RQ E d j (pc, L, .int i :: .ref (200000 + q) :: st, S) A B Q := by
  have e : pmStep 0 .baload x (pc, L, .int i :: .ref (200000 + q) :: st, S) = none := by
    show (match S.1[200000 + q]? with | some (.inr a) => if a.1 = 1 then some (pmNx (pc, L, .int i :: .ref (200000 + q) :: st, S) 1 (.int (S.2.1 (200000 + q) i.toNatClampNeg) :: st), [vp_in i a.2]) else none | _ => none) = _
    rw [get_none hS (by omega)]
  have e2 : pmXs E .baload x (pc, L, .int i :: .ref (200000 + q) :: st, S) = some ((pc + 1, L, .int ((pmStB q).getD i.toNatClampNeg 0) :: st, S), [vp_in i (pmStB q).length]) := by
    show (if 200000 ≤ 200000 + q ∧ 200000 + q - 200000 < pmSt0.length then some (pmNx (pc, L, .int i :: .ref (200000 + q) :: st, S) 1 (.int ((pmStB (200000 + q - 200000)).getD i.toNatClampNeg 0) :: st), [vp_in i (pmStB (200000 + q - 200000)).length]) else none) = _
    rw [if_pos ⟨by omega, by omega⟩, show 200000 + q - 200000 = q by omega]
    rfl
  exact q_st hM 0 _ hc (show pmStp E 0 _ _ _ = some (_, _) by unfold pmStp; rw [e]; dsimp only; rw [e2]) (pm1 hi) h
theorem e_charAt1L {i s : Nat} {x : Int32} (hS : S.1.length ≤ 90000) (hs : s < pmSt0.length) (hx : (pmStB s)[i]? = some x) : EQ E (d + 3) 44 [.ref (200000 + s), .int (z (i : Int))] S A B (fun v S' => v = some (.int x) ∧ S' = S) := by
  have hM := MJ_charAt1
  have hl := stB_len hs
  have hi := (List.getElem?_eq_some_iff.mp hx).1
  have hc := chr_st hs (List.mem_of_getElem? hx)
  refine q_ev hM (Nat.le_of_ble_eq_true rfl) rfl (q_go hM 2 (2, [some (.ref (200000 + s)), some (.int (z (i : Int)))], [.ref (200000 + s), .int (z (i : Int))], S) rfl (q_llen hM hS rfl hs ?_))
  rw [zN]
  refine q_call (a := 0) (b := 0) hM rfl rfl rx_s (e_ck (d := d) ⟨hi, by omega⟩).ec ?_ (Nat.zero_le _) (Nat.zero_le _)
  rintro v S' ⟨rfl, rfl⟩
  refine q_go hM 2 (8, [some (.ref (200000 + s)), some (.int (z (i : Int)))], [.int (z (i : Int)), .ref (200000 + s)], S') rfl (q_lbld hM hS rfl hs (in_z (by omega)) ?_)
  rw [z_nat (by omega), List.getD_eq_getElem?_getD, hx, Option.getD_some]
  refine q_go hM 3 (14, [some (.ref (200000 + s)), some (.int (z (i : Int)))], [.int ((Int32.toUInt32 (x &&& z 255) % 65536).toInt32)], S') rfl ?_
  rw [hc.1]
  exact q_ret hM rfl rfl (pm1 hc.2.1) ⟨rfl, rfl⟩
theorem MJ_isLatin : MM 41 kJ0_isLatin1_aae02 (some .boolean) [] 1 := ⟨rfl, rfl, rfl, rfl⟩
theorem e_isLatinL {s : Nat} (hS : S.1.length ≤ 90000) (hs : s < pmSt0.length) : EQ E (d + 1) 41 [.ref (100000 + s)] S A B (fun v S' => v = some (.int 1) ∧ S' = S) := by
  have hM := MJ_isLatin
  refine q_ev hM (Nat.le_of_ble_eq_true rfl) rfl (q_go hM 1 (3, [some (.ref (100000 + s))], [.int 1], S) rfl (q_st hM 0 (6, [some (.ref (100000 + s))], [], S) rfl rfl (pm1 (show ¬ (1 : Int32) = 0 by decide)) ?_))
  refine q_go hM 1 (7, [some (.ref (100000 + s))], [.ref (100000 + s)], S) rfl (q_l41 hM hS rfl hs ?_)
  refine q_st hM 0 (13, [some (.ref (100000 + s))], [], S) rfl rfl (pm1 (show ¬ ¬ (0 : Int32) = 0 from fun g => g rfl)) ?_
  exact q_go hM 2 (18, [some (.ref (100000 + s))], [.int 1], S) rfl (q_ret hM rfl rfl (pm1 (Or.inr rfl)) ⟨rfl, rfl⟩)
theorem e_isLatinM {r p : Nat} {T : List Int32} (hS : S.1.length ≤ 90000) (h : STR S r p T) : EQ E (d + 1) 41 [.ref r] S A B (fun v S' => v = some (.int 1) ∧ S' = S) := by
  have hM := MJ_isLatin
  refine q_ev hM (Nat.le_of_ble_eq_true rfl) rfl (q_go hM 1 (3, [some (.ref r)], [.int 1], S) rfl (q_st hM 0 (6, [some (.ref r)], [], S) rfl rfl (pm1 (show ¬ (1 : Int32) = 0 by decide)) ?_))
  refine q_go hM 1 (7, [some (.ref r)], [.ref r], S) rfl (q_s41 hM rfl hS h.1 h.2.2.2.1 ?_)
  refine q_st hM 0 (13, [some (.ref r)], [], S) rfl rfl (pm1 (show ¬ ¬ (0 : Int32) = 0 from fun g => g rfl)) ?_
  exact q_go hM 2 (18, [some (.ref r)], [.int 1], S) rfl (q_ret hM rfl rfl (pm1 (Or.inr rfl)) ⟨rfl, rfl⟩)
theorem MJ_charAt : MM 45 kJ0_charAt_5068e (some .char) [] 2 := ⟨rfl, rfl, rfl, rfl⟩
theorem e_charAtL {i s : Nat} {x : Int32} (hS : S.1.length ≤ 90000) (hs : s < pmSt0.length) (hx : (pmStB s)[i]? = some x) : EQ E (d + 4) 45 [.ref (100000 + s), .int (z (i : Int))] S A B (fun v S' => v = some (.int x) ∧ S' = S) := by
  have hM := MJ_charAt
  have hc := chr_st hs (List.mem_of_getElem? hx)
  refine q_ev hM (Nat.le_of_ble_eq_true rfl) rfl (q_go hM 1 (1, [some (.ref (100000 + s)), some (.int (z (i : Int)))], [.ref (100000 + s)], S) rfl ?_)
  refine q_call (a := 0) (b := 0) hM rfl rfl (rx_l hs rfl) ((e_isLatinL (d := d) hS hs).le (Nat.add_le_add_left (show 1 ≤ 3 by omega) d) (Nat.le_refl _) (Nat.le_refl _)).ec ?_ (Nat.zero_le _) (Nat.zero_le _)
  rintro v S' ⟨rfl, rfl⟩
  refine q_st hM 0 (7, [some (.ref (100000 + s)), some (.int (z (i : Int)))], [], S') rfl rfl (pm1 (show ¬ (1 : Int32) = 0 by decide)) ?_
  refine q_go hM 1 (8, [some (.ref (100000 + s)), some (.int (z (i : Int)))], [.ref (100000 + s)], S') rfl (q_l40 hM hS rfl hs ?_)
  refine q_go hM 1 (12, [some (.ref (100000 + s)), some (.int (z (i : Int)))], [.int (z (i : Int)), .ref (200000 + s)], S') rfl ?_
  refine q_call (a := 0) (b := 0) hM rfl rfl rx_s (e_charAt1L (d := d) hS hs hx).ec ?_ (Nat.zero_le _) (Nat.zero_le _)
  rintro v S2 ⟨rfl, rfl⟩
  exact q_ret hM rfl rfl (pm1 hc.2.1) ⟨rfl, rfl⟩
theorem e_charAtM {i r p : Nat} {x : Int32} {T : List Int32} (hS : S.1.length ≤ 90000) (h : STR S r p T) (hT : T.length < 1000) (hx : T[i]? = some x) (hc : CHr x) : EQ E (d + 4) 45 [.ref r, .int (z (i : Int))] S A B (fun v S' => v = some (.int x) ∧ S' = S) := by
  have hM := MJ_charAt
  have hi := (List.getElem?_eq_some_iff.mp hx).1
  refine q_ev hM (Nat.le_of_ble_eq_true rfl) rfl (q_go hM 1 (1, [some (.ref r), some (.int (z (i : Int)))], [.ref r], S) rfl ?_)
  refine q_call (a := 0) (b := 0) hM rfl rfl (rx_o 9 h.1 (by decide) rfl) ((e_isLatinM (d := d) hS h).le (Nat.add_le_add_left (show 1 ≤ 3 by omega) d) (Nat.le_refl _) (Nat.le_refl _)).ec ?_ (Nat.zero_le _) (Nat.zero_le _)
  rintro v S' ⟨rfl, rfl⟩
  refine q_st hM 0 (7, [some (.ref r), some (.int (z (i : Int)))], [], S') rfl rfl (pm1 (show ¬ (1 : Int32) = 0 by decide)) ?_
  refine q_go hM 1 (8, [some (.ref r), some (.int (z (i : Int)))], [.ref r], S') rfl (q_s40 hM rfl hS h.1 h.2.2.1 ?_)
  refine q_go hM 1 (12, [some (.ref r), some (.int (z (i : Int)))], [.int (z (i : Int)), .ref p], S') rfl ?_
  refine q_call (a := 0) (b := 0) hM rfl rfl rx_s (e_charAt1 (d := d) ⟨hi, hT⟩ h.2.1 (h.2.2.2.2 i x hx) hc).ec ?_ (Nat.zero_le _) (Nat.zero_le _)
  rintro v S2 ⟨rfl, rfl⟩
  exact q_ret hM rfl rfl (pm1 hc.2.1) ⟨rfl, rfl⟩
theorem e_coderM {r p : Nat} {T : List Int32} (hS : S.1.length ≤ 90000) (h : STR S r p T) : EQ E (d + 1) 182 [.ref r] S A B (fun v S' => v = some (.int 0) ∧ S' = S) := by
  have hM := MJ_coder
  refine q_ev hM (Nat.le_of_ble_eq_true rfl) rfl (q_go hM 1 (3, [some (.ref r)], [.int 1], S) rfl (q_st hM 0 (6, [some (.ref r)], [], S) rfl rfl (pm1 (show ¬ (1 : Int32) = 0 by decide)) ?_))
  refine q_go hM 1 (7, [some (.ref r)], [.ref r], S) rfl (q_s41 hM rfl hS h.1 h.2.2.2.1 ?_)
  exact q_go hM 1 (14, [some (.ref r)], [.int 0], S) rfl (q_ret hM rfl rfl (pm1 rfl) ⟨rfl, rfl⟩)
theorem e_lengthM {r p : Nat} {T : List Int32} (hS : S.1.length ≤ 90000) (h : STR S r p T) : EQ E (d + 2) 183 [.ref r] S A B (fun v S' => v = some (.int (z (T.length : Int))) ∧ S' = S) := by
  have hM := MJ_length
  refine q_ev hM (Nat.le_of_ble_eq_true rfl) rfl (q_go hM 1 (1, [some (.ref r)], [.ref r], S) rfl (q_s40 hM rfl hS h.1 h.2.2.1 (q_len hM rfl h.2.1 ?_)))
  refine q_go hM 1 (6, [some (.ref r)], [.ref r, .int (Int32.ofNat T.length)], S) rfl ?_
  refine q_call (a := 0) (b := 0) hM rfl rfl (rx_o 9 h.1 (by decide) rfl) (e_coderM (d := d) hS h).ec ?_ (Nat.zero_le _) (Nat.zero_le _)
  rintro v S' ⟨rfl, rfl⟩
  refine q_go hM 1 (10, [some (.ref r)], [.int (Int32.ofNat T.length >>> ((0 : Int32) &&& 31))], S') rfl ?_
  rw [sr0, zN]
  exact q_ret hM rfl rfl trivial ⟨rfl, rfl⟩
end JDK5
