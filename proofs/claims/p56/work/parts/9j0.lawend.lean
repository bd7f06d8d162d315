/-! the law's end -/
section LEND
variable {E : pmEv0} {n : Nat} {J : pmG} {F : pmM} {m : pmI} {D : Nat → Nat → UInt64} {W : Wd}
theorem ML_law : MM 248 kL_law (some .boolean) [] 5 := ⟨rfl, rfl, rfl, rfl⟩
def Q9 : Option Value → pmS → Prop := fun v _ => v = some (.int 1)
/-- a call of the class's own, by its function -/
theorem ec_x {d d' t : Nat} {as : List Value} {v : Option Value} {m' : pmI} (he : pmEv Pg E d' t as (sst m D) (.inl v, sst m' D, 0, 0)) (hd : d' ≤ d) (has : okA as = true) (hF : okF9 J F) : EC E d t as (eS J F m D) 0 0 (fun v' S' => v' = v ∧ S' = eS J F m' D) :=
  ⟨v, eS J F m' D, 0, 0, Or.inr (calR_id (pmEv_le he hd) has hF), Nat.le_refl _, Nat.le_refl _, rfl, rfl⟩
/-- what is known of a sound state, and what is seen of it -/
theorem see {A : Ab} {H : List Ab} {S : Option Ab} {T : Nat} (hn : 200 ≤ n) (h : CI A H S T m) : ∃ a' : Nat → Int32, ∀ m H S T, CI A H S T m → ∃ m' w', fL_seen n m (fun _ => 0) = some (a', m', w') ∧ CI A H S T m' ∧ w' ≤ 56 := by
  obtain ⟨W, h, rfl, -⟩ := h
  exact s_all hn h.2.1.1 h.2.1.2.1 (fun i hi => (h.2.1.2.2.1 i hi).1) h.2.1.2.2.2.2.2.2.1
theorem OcW.t {W W' : Wd} {t : Int} (h : OcW W t W') : -900004 ≤ t ∧ t ≤ 1000000 := by
  rcases h.2.2 with ⟨⟨h, -⟩, -⟩ | ⟨h, -⟩ <;> omega
theorem law_end (hn : 200 ≤ n) (h : cInv m W) (hX : aX (wA W) < 900) (hF : okF9 J F) (hJ : J.length ≤ 1000) : RQ E 13 248 (125, [some (.ref 99998), some (.ref 0), none, none, none], [], eS J F m D) 200 2000 Q9 := by
  have hM := ML_law
  obtain ⟨a, hs⟩ := see (n := n) hn (CI.of h)
  obtain ⟨N, hN⟩ : ∃ N, N = 113 + J.length := ⟨_, rfl⟩
  refine q_go hM 1 (126, [some (.ref 99998), some (.ref 0), none, none, none], [.ref 0], eS J F m D) rfl ?_
  refine q_call (a := 57) (b := 496) hM rfl rfl rx_s (ec_seen (n := n) hs (CI.of h) hF (by omega) (by decide)) ?_
  rintro v S1 ⟨m1, rfl, rfl, c1⟩
  have hF1 := okF9_set hF (by omega) a
  have hR1 : ROW (J ++ [.inr (0, 160)]) (setF F (113 + J.length) a) (113 + J.length) a := row_new
  have hl1 : (J ++ [Sum.inr (0, 160)] : pmG).length = J.length + 1 := by
    rw [List.length_append]
    rfl
  rw [← hN] at hF1 hR1 ⊢
  obtain ⟨J1, hJ1⟩ : ∃ J1, J1 = J ++ [Sum.inr (0, 160)] := ⟨_, rfl⟩
  obtain ⟨F1, hF1e⟩ : ∃ F1, F1 = setF F N a := ⟨_, rfl⟩
  rw [← hJ1, ← hF1e] at hF1 hR1 ⊢
  rw [← hJ1] at hl1
  obtain ⟨W1, i1, a1, b1, s1, t1⟩ := c1
  -- save
  obtain ⟨m2, e2, i2⟩ := k_save i1
  refine q_go hM 2 (131, [some (.ref 99998), some (.ref 0), some (.ref N), none, none], [.ref 0], eS J1 F1 m1 D) rfl ?_
  refine q_call (a := 0) (b := 0) hM rfl rfl (rx_o 8 rfl (by decide) rfl) (ec_x (eX8_save m1 D _ e2) (by decide) rfl hF1) ?_ (Nat.zero_le _) (Nat.zero_le _)
  rintro v S2 ⟨rfl, rfl⟩
  obtain ⟨dn, hdn⟩ : ∃ dn, dn = aC (wA W1) := ⟨_, rfl⟩
  rw [← hdn]
  obtain ⟨W2, hW2⟩ : ∃ W2 : Wd, W2 = (wA W1, wH W1, some (wA W1), W1.2.2.2) := ⟨_, rfl⟩
  rw [← hW2] at i2
  have a2 : wA W2 = wA W := by rw [hW2]; exact a1
  have s2 : wS W2 = some (wA W) := by rw [hW2, ← a1]
  -- the questions
  refine q_go hM 2 (136, [some (.ref 99998), some (.ref 0), some (.ref N), some (.int (z (dn : Int))), none], [.ref 0], eS J1 F1 m2 D) rfl ?_
  obtain ⟨t3, m3, w3, e3, hw3, ht3, c3⟩ := qo_cost (n := n) i2 hn
  refine q_call (a := 1) (b := 6) hM rfl rfl rx_s6 (ec_v (A := 1) (B := 6) e3 (eL_exitCost_0 n m2 D) (by decide) rfl hF1 hw3 (by omega)) ?_
  rintro v S3 ⟨rfl, rfl⟩
  obtain ⟨W3, i3, a3, -, s3, -⟩ := c3
  refine q_go hM 3 (142, [some (.ref 99998), some (.ref 0), some (.ref N), some (.int (z (dn : Int))), none], [.int (z 0), .int (z 0), .ref 0, .int (z t3)], eS J1 F1 m3 D) rfl ?_
  obtain ⟨t4, m4, w4, e4, hw4, ht4, c4⟩ := qo_beat (n := n) i3 hn (f := 0) (d := 0) (by omega) (by omega)
  refine q_call (a := 1) (b := 6) hM rfl rfl rx_s6 (ec_v (A := 1) (B := 6) e4 (eL_blockedBeat_0 n _ _ m3 D) (by decide) rfl hF1 hw4 (by omega)) ?_
  rintro v S4 ⟨rfl, rfl⟩
  obtain ⟨W4, i4, a4, -, s4, -⟩ := c4
  refine q_go hM 5 (152, [some (.ref 99998), some (.ref 0), some (.ref N), some (.int (z (dn : Int))), none], [.int (z 7), .int (z 7), .int (z 0), .ref 0, .int (z t3 + z t4)], eS J1 F1 m4 D) rfl ?_
  rw [z_add]
  obtain ⟨t5, m5, w5, e5, hw5, ht5, c5⟩ := qo_dist (n := n) i4 hn (d := 0) (x := 7) (y := 7) (by omega) (by omega) (by omega)
  refine q_call (a := 1) (b := 6) hM rfl rfl rx_s6 (ec_v (A := 1) (B := 6) e5 (eL_distance_0 n _ _ _ m4 D) (by decide) rfl hF1 hw5 (by omega)) ?_
  rintro v S5 ⟨rfl, rfl⟩
  obtain ⟨W5, i5, a5, -, s5, -⟩ := c5
  refine q_go hM 3 (158, [some (.ref 99998), some (.ref 0), some (.ref N), some (.int (z (dn : Int))), none], [.int (z 0), .ref 0, .int (z (t3 + t4) + z t5)], eS J1 F1 m5 D) rfl ?_
  rw [z_add]
  obtain ⟨m6, e6, i6⟩ := k_writeRow (n := n) i5 hn (y := 0) (by omega)
  refine q_call (a := 0) (b := 0) hM rfl rfl (rx_o 8 rfl (by decide) rfl) (ec_x (eX8_writeRow n _ m5 D _ e6) (by decide) rfl hF1) ?_ (Nat.zero_le _) (Nat.zero_le _)
  rintro v S6 ⟨rfl, rfl⟩
  refine q_go hM 3 (164, [some (.ref 99998), some (.ref 0), some (.ref N), some (.int (z (dn : Int))), none], [.int (z 0), .ref 0, .int (z (t3 + t4 + t5) + z 8)], eS J1 F1 m6 D) rfl ?_
  rw [z_add]
  obtain ⟨t7, m7, w7, e7, hw7, ht7, c7⟩ := qo_of2 (n := n) i6 hn (d := 0) (by omega)
  refine q_call (a := 1) (b := 6) hM rfl rfl rx_s6 (ec_v (A := 1) (B := 6) e7 (eL_exitOf_0 n _ m6 D) (by decide) rfl hF1 hw7 (by omega)) ?_
  rintro v S7 ⟨rfl, rfl⟩
  have c7' : CI (wA W) (wH W5) (some (wA W)) (wT W5) m7 := by
    obtain ⟨W7, i7, a7, b7, s7, t7⟩ := c7
    exact ⟨W7, i7, a7.trans (a5.trans (a4.trans (a3.trans a2))), b7, s7.trans (s5.trans (s4.trans (s3.trans s2))), t7⟩
  obtain ⟨u, hu⟩ : ∃ u, u = t3 + t4 + t5 + 8 + t7 := ⟨_, rfl⟩
  refine q_go hM 4 (172, [some (.ref 99998), some (.ref 0), some (.ref N), some (.int (z (dn : Int))), some (.int (z (t3 + t4 + t5 + 8) + z t7))], [.ref 0, .ref N], eS J1 F1 m7 D) rfl ?_
  rw [z_add, ← hu]
  -- nothing is changed
  refine q_call (a := 57) (b := 496) hM rfl rfl rx_s (ec_seen (n := n) hs c7' hF1 (by omega) (by decide)) ?_
  rintro v S8 ⟨m8, rfl, rfl, c8⟩
  have hF2 := okF9_set hF1 (by omega) a
  have hR2 : ROW (J1 ++ [.inr (0, 160)]) (setF F1 (113 + J1.length) a) (113 + J1.length) a := row_new
  have hR1' := hR1.ext (ext_set hF1 (by omega) a)
  refine q_call (a := 0) (b := 0) hM rfl rfl rx_s (ec_ali hR1' hR2 (by omega) (fun _ _ => rfl) hF2 (by decide)) ?_ (Nat.zero_le _) (Nat.zero_le _)
  rintro v S9 ⟨rfl, rfl⟩
  have hl2 : (J1 ++ [Sum.inr (0, 160)] : pmG).length = J1.length + 1 := by
    rw [List.length_append]
    rfl
  obtain ⟨J2, hJ2⟩ : ∃ J2, J2 = J1 ++ [Sum.inr (0, 160)] := ⟨_, rfl⟩
  obtain ⟨F2, hF2e⟩ : ∃ F2, F2 = setF F1 (113 + J1.length) a := ⟨_, rfl⟩
  rw [← hJ2, ← hF2e] at hF2 hR1' ⊢
  rw [← hJ2] at hl2
  refine q_st hM 1 (183, [some (.ref 99998), some (.ref 0), some (.ref N), some (.int (z (dn : Int))), some (.int (z u))], [], eS J2 F2 m8 D) rfl rfl (pm1 (show ¬ (1 : Int32) = 0 by decide)) ?_
  obtain ⟨W8, i8, a8, -, s8, -⟩ := c8
  -- the changes
  refine q_go hM 5 (189, [some (.ref 99998), some (.ref 0), some (.ref N), some (.int (z (dn : Int))), some (.int (z u))], [.int (z 3), .int (z 3), .int (z 0), .ref 0, .int (z u)], eS J2 F2 m8 D) rfl ?_
  refine q_call (a := 1) (b := 6) hM rfl rfl rx_s6 (ec_oc (o_walk i8 hn (d := 0) (x := 3) (y := 3) (by omega) (by omega) (by omega)) (eL_walk_0 n _ _ _ m8 D) (by decide) rfl hF2 (by decide) (by decide)) ?_
  rintro v S10 ⟨x1, m9, W9, rfl, rfl, i9, o9⟩
  refine q_go hM 2 (194, [some (.ref 99998), some (.ref 0), some (.ref N), some (.int (z (dn : Int))), some (.int (z u))], [.int (z 0), .ref 0, .int (z x1), .int (z u)], eS J2 F2 m9 D) rfl ?_
  refine q_call (a := 1) (b := 6) hM rfl rfl rx_s6 (ec_oc (o_renewNails i9 hn (d := 0) (by omega)) (eL_renewNails_0 n _ m9 D) (by decide) rfl hF2 (by decide) (by decide)) ?_
  rintro v S11 ⟨x2, m10, W10, rfl, rfl, i10, o10⟩
  refine q_go hM 5 (204, [some (.ref 99998), some (.ref 0), some (.ref N), some (.int (z (dn : Int))), some (.int (z u))], [.int (z 3), .int (z 7), .int (z 7), .ref 0, .int (z x1 + z x2), .int (z u)], eS J2 F2 m10 D) rfl ?_
  rw [z_add]
  have X8 : aX (wA W8) < 900 := by rw [a8]; exact hX
  have X9 : aX (wA W9) ≤ aX (wA W8) + 10 := by rcases o9.2.2 with ⟨-, h⟩ | ⟨-, h, -⟩ <;> (try rw [h]) <;> omega
  have X10 : aX (wA W10) ≤ aX (wA W9) + 10 := by rcases o10.2.2 with ⟨-, h⟩ | ⟨-, h, -⟩ <;> (try rw [h]) <;> omega
  refine q_call (a := 1) (b := 6) hM rfl rfl rx_s6 (ec_oc (o_addDancer i10 hn (x := 7) (y := 7) (v := 3) (by omega) (by omega) (by omega) (by omega)) (eL_addDancer_0 n _ _ _ m10 D) (by decide) rfl hF2 (by decide) (by decide)) ?_
  rintro v S12 ⟨x3, m11, W11, rfl, rfl, i11, o11⟩
  refine q_go hM 4 (211, [some (.ref 99998), some (.ref 0), some (.ref N), some (.int (z (dn : Int))), some (.int (z u))], [.int (z 0), .int (z 1), .ref 0, .int (z (x1 + x2) + z x3), .int (z u)], eS J2 F2 m11 D) rfl ?_
  rw [z_add]
  refine q_call (a := 1) (b := 6) hM rfl rfl rx_s6 (ec_oc (o_perform i11 hn (f := 1) (d := 0) (by omega) (by omega)) (eL_perform_0 n _ _ m11 D) (by decide) rfl hF2 (by decide) (by decide)) ?_
  rintro v S13 ⟨x4, m12, W12, rfl, rfl, i12, o12⟩
  refine q_go hM 3 (217, [some (.ref 99998), some (.ref 0), some (.ref N), some (.int (z (dn : Int))), some (.int (z u))], [.int (z 0), .ref 0, .int (z (x1 + x2 + x3) + z x4), .int (z u)], eS J2 F2 m12 D) rfl ?_
  rw [z_add]
  refine q_call (a := 1) (b := 6) hM rfl rfl rx_s6 (ec_oc (o_removeExit i12 hn (x := 0) (by omega)) (eL_removeExit_0 n _ m12 D) (by decide) rfl hF2 (by decide) (by decide)) ?_
  rintro v S14 ⟨x5, m13, W13, rfl, rfl, i13, o13⟩
  have hs13 : wS W13 = some (wA W) := by rw [o13.2.1, o12.2.1, o11.2.1, o10.2.1, o9.2.1, s8]
  have r1 := o9.t
  have r2 := o10.t
  have r3 := o11.t
  have r4 := o12.t
  have r5 := o13.t
  refine q_go hM 5 (228, [some (.ref 99998), some (.ref 0), some (.ref N), some (.int (z (dn : Int))), some (.int (z u + (z (x1 + x2 + x3 + x4) + z x5)))], [.int (Int32.ofNat 4204967296), .int (z u + (z (x1 + x2 + x3 + x4) + z x5))], eS J2 F2 m13 D) rfl ?_
  rw [z_add, z_add]
  refine q_st hM 0 (231, [some (.ref 99998), some (.ref 0), some (.ref N), some (.int (z (dn : Int))), some (.int (z (u + (x1 + x2 + x3 + x4 + x5))))], [], eS J2 F2 m13 D) rfl rfl (pm1 (show ¬ z (u + (x1 + x2 + x3 + x4 + x5)) ≤ z (-90000000) from zgt' (by omega))) ?_
  -- restore
  obtain ⟨m14, e14, i14⟩ := k_restore i13 hs13
  have e14' : fL_restore_0 m13 = some (z (aC (wA W) : Int), m14, 0) := by
    unfold fL_restore_0
    rw [e14, obind, oT_l]
  refine q_go hM 1 (232, [some (.ref 99998), some (.ref 0), some (.ref N), some (.int (z (dn : Int))), some (.int (z (u + (x1 + x2 + x3 + x4 + x5))))], [.ref 0], eS J2 F2 m13 D) rfl ?_
  refine q_call (a := 0) (b := 0) hM rfl rfl rx_s6 (ec_v e14' (eL_restore_0 m13 D) (by decide) rfl hF2 (Nat.le_refl _) (Nat.le_refl _)) ?_ (Nat.zero_le _) (Nat.zero_le _)
  rintro v S15 ⟨rfl, rfl⟩
  refine q_go hM 1 (236, [some (.ref 99998), some (.ref 0), some (.ref N), some (.int (z (dn : Int))), some (.int (z (u + (x1 + x2 + x3 + x4 + x5))))], [.int (z (dn : Int)), .int (z (aC (wA W) : Int))], eS J2 F2 m14 D) rfl ?_
  refine q_st hM 0 (239, [some (.ref 99998), some (.ref 0), some (.ref N), some (.int (z (dn : Int))), some (.int (z (u + (x1 + x2 + x3 + x4 + x5))))], [], eS J2 F2 m14 D) rfl rfl (pm1 (show ¬ ¬ z (aC (wA W) : Int) = z (dn : Int) from fun g => g (by rw [hdn, a1]))) ?_
  refine q_go hM 2 (241, [some (.ref 99998), some (.ref 0), some (.ref N), some (.int (z (dn : Int))), some (.int (z (u + (x1 + x2 + x3 + x4 + x5))))], [.ref 0, .ref N], eS J2 F2 m14 D) rfl ?_
  have c14 : CI (wA W) [] (some (wA W)) (wT W13) m14 := ⟨_, i14, rfl, rfl, rfl, rfl⟩
  refine q_call (a := 57) (b := 496) hM rfl rfl rx_s (ec_seen (n := n) hs c14 hF2 (by omega) (by decide)) ?_
  rintro v S16 ⟨m15, rfl, rfl, c15⟩
  have hF3 := okF9_set hF2 (by omega) a
  have hR3 : ROW (J2 ++ [.inr (0, 160)]) (setF F2 (113 + J2.length) a) (113 + J2.length) a := row_new
  refine q_call (a := 0) (b := 0) hM rfl rfl rx_s (ec_ali (hR1'.ext (ext_set hF2 (by omega) a)) hR3 (by omega) (fun _ _ => rfl) hF3 (by decide)) ?_ (Nat.zero_le _) (Nat.zero_le _)
  rintro v S17 ⟨rfl, rfl⟩
  refine q_st hM 0 (250, [some (.ref 99998), some (.ref 0), some (.ref N), some (.int (z (dn : Int))), some (.int (z (u + (x1 + x2 + x3 + x4 + x5))))], [], eS (J2 ++ [.inr (0, 160)]) (setF F2 (113 + J2.length) a) m15 D) rfl rfl (pm1 (show ¬ (1 : Int32) = 0 by decide)) ?_
  refine q_go hM 1 (251, [some (.ref 99998), some (.ref 0), some (.ref N), some (.int (z (dn : Int))), some (.int (z (u + (x1 + x2 + x3 + x4 + x5))))], [.ref 0], eS (J2 ++ [.inr (0, 160)]) (setF F2 (113 + J2.length) a) m15 D) rfl ?_
  obtain ⟨W15, i15, a15, b15, -, -⟩ := c15
  have e16 : fL_undo_0 m15 = some (z (-900001), m15, 1) := by
    unfold fL_undo_0
    rw [k_undo0 i15 b15, obind, oT_r, if_pos rfl]
  refine q_call (a := 1) (b := 6) hM rfl rfl rx_s6 (ec_v e16 (eL_undo_0 m15 D) (by decide) rfl hF3 (Nat.le_refl _) (Nat.le_refl _)) ?_
  rintro v S18 ⟨rfl, rfl⟩
  refine q_go hM 1 (256, [some (.ref 99998), some (.ref 0), some (.ref N), some (.int (z (dn : Int))), some (.int (z (u + (x1 + x2 + x3 + x4 + x5))))], [.int (Int32.ofNat 4294067295), .int (z (-900001))], eS (J2 ++ [.inr (0, 160)]) (setF F2 (113 + J2.length) a) m15 D) rfl ?_
  refine q_st hM 0 (259, [some (.ref 99998), some (.ref 0), some (.ref N), some (.int (z (dn : Int))), some (.int (z (u + (x1 + x2 + x3 + x4 + x5))))], [], eS (J2 ++ [.inr (0, 160)]) (setF F2 (113 + J2.length) a) m15 D) rfl rfl (pm1 (show ¬ ¬ z (-900001) = Int32.ofNat 4294067295 from fun g => g rfl)) ?_
  exact q_go hM 2 (264, [some (.ref 99998), some (.ref 0), some (.ref N), some (.int (z (dn : Int))), some (.int (z (u + (x1 + x2 + x3 + x4 + x5))))], [.int 1], eS (J2 ++ [.inr (0, 160)]) (setF F2 (113 + J2.length) a) m15 D) rfl (q_ret hM rfl rfl (pm1 (Or.inr rfl)) rfl)
end LEND
