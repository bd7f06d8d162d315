/-! the law's loop -/
theorem OcW.wB {W W' : Wd} {t : Int} {k : Nat} (h : OcW W t W') (hB : wB W k) : wB W' (k + 10) := by
  obtain ⟨b1, b2, b3⟩ := hB
  obtain ⟨-, hs, h⟩ := h
  refine ⟨?_, fun B hb => ?_, fun B hb => ?_⟩
  · rcases h with ⟨-, h⟩ | ⟨-, h, -⟩
    · omega
    · rw [h]
      omega
  · rcases h with ⟨⟨-, h⟩, -⟩ | ⟨-, -, h⟩
    · rw [h] at hb
      rcases List.mem_cons.mp (List.mem_of_mem_take hb) with rfl | hb
      · omega
      · have := b2 B hb
        omega
    · rw [h] at hb
      have := b2 B hb
      omega
  · rw [hs] at hb
    have := b3 B hb
    omega
section LLOOP
variable {E : pmEv0} {n : Nat} {D : Nat → Nat → UInt64}
theorem law_from (hn : 200 ≤ n) : ∀ (e k : Nat) (J : pmG) (F : pmM) (m : pmI) (W : Wd), k + e = 8 → cInv m W → wT W = 0 → wB W (6 + 10 * k) → okF9 J F → J.length ≤ 30 * k →
    RQ E 13 248 (20, [some (.ref 99998), some (.ref 0), some (.int (z (k : Int))), none, none], [], eS J F m D) (200 + 150 * e) (2000 + 1600 * e) Q9
  | 0, k, J, F, m, W, hk, h, h0, hB, hF, hJ => by
    have hM := ML_law
    obtain rfl : k = 8 := by omega
    refine q_go hM 2 (23, [some (.ref 99998), some (.ref 0), some (.int (z ((8 : Nat) : Int))), none, none], [.int (z 8), .int (z ((8 : Nat) : Int))], eS J F m D) rfl ?_
    refine q_st hM 1 (125, [some (.ref 99998), some (.ref 0), some (.int (z ((8 : Nat) : Int))), none, none], [], eS J F m D) rfl rfl (pm1 (show z 8 ≤ z ((8 : Nat) : Int) by decide)) ?_
    refine q_le hM (L' := [some (.ref 99998), some (.ref 0), none, none, none]) rfl ⟨rfl, rfl, trivial⟩ ?_
    have := hB.1
    exact q_mono (law_end (n := n) hn h (by omega) hF (by omega)) (by omega) (by omega)
  | e + 1, k, J, F, m, W, hk, h, h0, hB, hF, hJ => by
    have hM := ML_law
    have hX := hB.1
    obtain ⟨a, hs⟩ := see (n := n) hn (CI.of h)
    obtain ⟨N, hN⟩ : ∃ N, N = 113 + J.length := ⟨_, rfl⟩
    refine q_mono (A := 150 + (200 + 150 * e)) (B := 1600 + (2000 + 1600 * e)) ?_ (by omega) (by omega)
    refine q_go hM 2 (23, [some (.ref 99998), some (.ref 0), some (.int (z (k : Int))), none, none], [.int (z 8), .int (z (k : Int))], eS J F m D) rfl ?_
    refine q_st hM 0 (26, [some (.ref 99998), some (.ref 0), some (.int (z (k : Int))), none, none], [], eS J F m D) rfl rfl (pm1 (show ¬ z 8 ≤ z (k : Int) from zgt' (by omega))) ?_
    refine q_go hM 1 (27, [some (.ref 99998), some (.ref 0), some (.int (z (k : Int))), none, none], [.ref 0], eS J F m D) rfl ?_
    refine q_call (a := 57) (b := 496) hM rfl rfl rx_s (ec_seen (n := n) hs (CI.of h) hF (by omega) (by decide)) ?_ (by omega) (by omega)
    rintro v S1 ⟨m1, rfl, rfl, c1⟩
    have hF1 := okF9_set hF (by omega) a
    have hR1 : ROW (J ++ [.inr (0, 160)]) (setF F (113 + J.length) a) (113 + J.length) a := row_new
    have hl1 : (J ++ [Sum.inr (0, 160)] : pmG).length = J.length + 1 := by
      rw [List.length_append]
      rfl
    rw [← hN] at hF1 hR1 ⊢
    obtain ⟨J1, hJ1⟩ : ∃ J1, J1 = J ++ [Sum.inr (0, 160)] := ⟨_, rfl⟩
    obtain ⟨F1, hF1e⟩ : ∃ F1, F1 = setF F N a := ⟨_, rfl⟩
    rw [← hJ1, ← hF1e] at hF1 hR1 ⊢
    rw [← hJ1] at hl1
    obtain ⟨W1, i1, a1, b1, s1, t1⟩ := c1
    have hB1 : wB W1 (6 + 10 * k) := by
      obtain ⟨q1, q2, q3⟩ := hB
      exact ⟨by rw [a1]; exact q1, fun B hb => q2 B (by rw [← b1]; exact hb), fun B hb => q3 B (by rw [← s1]; exact hb)⟩
    refine q_go hM 8 (39, [some (.ref 99998), some (.ref 0), some (.int (z (k : Int))), some (.ref N), none], [.int (z 90 + z 4 * z (k : Int)), .ref 99998, .ref 0], eS J1 F1 m1 D) rfl ?_
    rw [z_mul, z_add, show (90 : Int) + 4 * (k : Int) = ((90 + 4 * k : Nat) : Int) by omega]
    refine q_call (a := 20) (b := 500) hM rfl rfl rx_s (acts_ok (n := n) (i := 90 + 4 * k) i1 hn (by omega) hF1 (by rw [a1]; omega) (by omega) (t1.trans h0)).ec ?_ (by omega) (by omega)
    rintro v S2 ⟨t, J2, F2, m2, W2, rfl, rfl, hE2, i2, o2⟩
    have hF2 := hE2.2.2.1
    have hl2 := hE2.2.1
    have hR2 := hR1.ext hE2
    have ht := o2.t
    have h02 : wT W2 = 0 := o2.1 (t1.trans h0)
    have hB2 : wB W2 (6 + 10 * k + 10) := o2.wB hB1
    refine q_go hM 2 (45, [some (.ref 99998), some (.ref 0), some (.int (z (k : Int))), some (.ref N), some (.int (z t))], [.ref 0], eS J2 F2 m2 D) rfl ?_
    obtain ⟨m3, w3, e3, i3, hw3⟩ := well_ok (n := n) i2 hn
    refine q_call (a := 10) (b := 60) hM rfl rfl rx_s (ec_v (A := 10) (B := 60) e3 (eL_isWell_0 n m2 D) (by decide) rfl hF2 hw3 (by omega)) ?_ (by omega) (by omega)
    rintro v S3 ⟨rfl, rfl⟩
    refine q_st hM 0 (51, [some (.ref 99998), some (.ref 0), some (.int (z (k : Int))), some (.ref N), some (.int (z t))], [], eS J2 F2 m3 D) rfl rfl (pm1 (show ¬ z 1 = 0 by decide)) ?_
    refine q_go hM 2 (55, [some (.ref 99998), some (.ref 0), some (.int (z (k : Int))), some (.ref N), some (.int (z t))], [.int (Int32.ofNat 4294067287), .int (z t)], eS J2 F2 m3 D) rfl ?_
    refine q_st hM 0 (58, [some (.ref 99998), some (.ref 0), some (.int (z (k : Int))), some (.ref N), some (.int (z t))], [], eS J2 F2 m3 D) rfl rfl (pm1 (show ¬ z t = z (-900009) from zne (by omega))) ?_
    refine q_go hM 2 (63, [some (.ref 99998), some (.ref 0), some (.int (z (k : Int))), some (.ref N), some (.int (z t))], [.int (Int32.ofNat 4294067296), .int (z t)], eS J2 F2 m3 D) rfl ?_
    -- what is left to do once the loop goes on
    have next : ∀ (J' : pmG) (F' : pmM) (m' : pmI) (W' : Wd) (A B : Nat), cInv m' W' → wT W' = 0 → wB W' (6 + 10 * k + 10) → okF9 J' F' → J'.length ≤ 30 * k + 30 → 200 + 150 * e ≤ A → 2000 + 1600 * e ≤ B →
        RQ E 13 248 (119, [some (.ref 99998), some (.ref 0), some (.int (z (k : Int))), some (.ref N), some (.int (z t))], [], eS J' F' m' D) A B Q9 := by
      intro J' F' m' W' A B i' h0' hB' hF' hJ' hA' hB9
      refine q_go hM 2 (20, [some (.ref 99998), some (.ref 0), some (.int (z (k : Int) + z 1)), some (.ref N), some (.int (z t))], [], eS J' F' m' D) rfl ?_
      rw [z_add, show (k : Int) + 1 = ((k + 1 : Nat) : Int) from rfl]
      refine q_le hM (L' := [some (.ref 99998), some (.ref 0), some (.int (z ((k + 1 : Nat) : Int))), none, none]) rfl ⟨rfl, rfl, rfl, trivial⟩ ?_
      exact q_mono (law_from hn e (k + 1) J' F' m' W' (by omega) i' h0' (by rw [show 6 + 10 * (k + 1) = 6 + 10 * k + 10 by omega]; exact hB') hF' (by omega)) hA' hB9
    by_cases hlt : -900000 < t
    · -- it has done something
      have hh : wH W2 = (wA W1 :: wH W1).take 8 := by
        rcases o2.2.2 with ⟨⟨-, h⟩, -⟩ | ⟨h, -⟩
        · exact h
        · omega
      refine q_st hM 1 (79, [some (.ref 99998), some (.ref 0), some (.int (z (k : Int))), some (.ref N), some (.int (z t))], [], eS J2 F2 m3 D) rfl rfl (pm1 (show z (-900000) < z t from zlt (by omega))) ?_
      refine q_go hM 2 (84, [some (.ref 99998), some (.ref 0), some (.int (z (k : Int))), some (.ref N), some (.int (z t))], [.int (Int32.ofNat 4294067296), .int (z t)], eS J2 F2 m3 D) rfl ?_
      refine q_st hM 0 (87, [some (.ref 99998), some (.ref 0), some (.int (z (k : Int))), some (.ref N), some (.int (z t))], [], eS J2 F2 m3 D) rfl rfl (pm1 (show ¬ z t ≤ z (-900000) from zgt' (by omega))) ?_
      refine q_go hM 5 (93, [some (.ref 99998), some (.ref 0), some (.int (z (k : Int))), some (.ref N), some (.int (z t))], [.int (z ((5 : Nat) : Int)), .int (z ((123 : Nat) : Int) + z (k : Int)), .ref 99998], eS J2 F2 m3 D) rfl ?_
      rw [z_add, ← Int.natCast_add]
      obtain ⟨r, hr, er⟩ := k_in (E := E) m3 (123 + k) (by omega) (b := 5) (by omega)
      refine q_call (a := 0) (b := 0) hM rfl rfl rx_s (ec_in er hF2 (by decide)) ?_ (Nat.zero_le _) (Nat.zero_le _)
      rintro v S4 ⟨rfl, rfl⟩
      by_cases hr0 : r = 0
      · refine q_st hM 0 (99, [some (.ref 99998), some (.ref 0), some (.int (z (k : Int))), some (.ref N), some (.int (z t))], [], eS J2 F2 m3 D) rfl rfl (pm1 (show ¬ ¬ z (r : Int) = 0 from fun g => g (by rw [hr0]; rfl))) ?_
        obtain ⟨hs', hh'⟩ : ∃ hs', wH W2 = wA W1 :: hs' := ⟨_, hh⟩
        obtain ⟨m4, e4, i4⟩ := k_undo i3 hh'
        have e4' : fL_undo_0 m3 = some (z (hs'.length : Int), m4, 0) := by
          unfold fL_undo_0
          rw [e4, obind, oT_l]
        have hlen : hs'.length + 1 ≤ 8 := by
          have : (wH W2).length ≤ 8 := by
            rw [hh]
            exact List.length_take_le _ _
          rw [hh', List.length_cons] at this
          exact this
        refine q_go hM 1 (100, [some (.ref 99998), some (.ref 0), some (.int (z (k : Int))), some (.ref N), some (.int (z t))], [.ref 0], eS J2 F2 m3 D) rfl ?_
        refine q_call (a := 0) (b := 0) hM rfl rfl rx_s6 (ec_v e4' (eL_undo_0 m3 D) (by decide) rfl hF2 (Nat.le_refl _) (Nat.le_refl _)) ?_ (Nat.zero_le _) (Nat.zero_le _)
        rintro v S5 ⟨rfl, rfl⟩
        refine q_st hM 0 (106, [some (.ref 99998), some (.ref 0), some (.int (z (k : Int))), some (.ref N), some (.int (z t))], [], eS J2 F2 m4 D) rfl rfl (pm1 (show ¬ z (hs'.length : Int) < z 0 from zge (by omega))) ?_
        refine q_go hM 2 (108, [some (.ref 99998), some (.ref 0), some (.int (z (k : Int))), some (.ref N), some (.int (z t))], [.ref 0, .ref N], eS J2 F2 m4 D) rfl ?_
        have c4 : CI (wA W) hs' (wS W2) (wT W2) m4 := ⟨_, i4, a1, rfl, rfl, rfl⟩
        refine q_call (a := 57) (b := 496) hM rfl rfl rx_s (ec_seen (n := n) hs c4 hF2 (by omega) (by decide)) ?_ (by omega) (by omega)
        rintro v S6 ⟨m5, rfl, rfl, c5⟩
        have hF3 := okF9_set hF2 (by omega) a
        have hR3 : ROW (J2 ++ [.inr (0, 160)]) (setF F2 (113 + J2.length) a) (113 + J2.length) a := row_new
        refine q_call (a := 0) (b := 0) hM rfl rfl rx_s (ec_ali (hR2.ext (ext_set hF2 (by omega) a)) hR3 (by have := hR2.1.2; omega) (fun _ _ => rfl) hF3 (by decide)) ?_ (Nat.zero_le _) (Nat.zero_le _)
        rintro v S7 ⟨rfl, rfl⟩
        refine q_st hM 1 (119, [some (.ref 99998), some (.ref 0), some (.int (z (k : Int))), some (.ref N), some (.int (z t))], [], eS (J2 ++ [.inr (0, 160)]) (setF F2 (113 + J2.length) a) m5 D) rfl rfl (pm1 (show ¬ (1 : Int32) = 0 by decide)) ?_
        obtain ⟨W5, i5, a5, b5, s5, t5⟩ := c5
        refine next _ _ m5 W5 _ _ i5 (t5.trans h02) ?_ hF3 (by rw [List.length_append]; show J2.length + 1 ≤ _; omega) (by omega) (by omega)
        refine ⟨by rw [a5]; omega, fun B hb => hB2.2.1 B ?_, fun B hb => hB2.2.2 B (by rw [← s5]; exact hb)⟩
        rw [hh']
        rw [b5] at hb
        exact List.mem_cons_of_mem _ hb
      · refine q_st hM 1 (119, [some (.ref 99998), some (.ref 0), some (.int (z (k : Int))), some (.ref N), some (.int (z t))], [], eS J2 F2 m3 D) rfl rfl (pm1 (show ¬ z (r : Int) = z 0 from zne (by omega))) ?_
        exact next J2 F2 m3 W2 _ _ i3 h02 hB2 hF2 (by omega) (by omega) (by omega)
    · -- thrown: nothing has changed
      have ha : wA W2 = wA W1 := by
        rcases o2.2.2 with ⟨⟨h, -⟩, -⟩ | ⟨-, h, -⟩
        · omega
        · exact h
      refine q_st hM 0 (66, [some (.ref 99998), some (.ref 0), some (.int (z (k : Int))), some (.ref N), some (.int (z t))], [], eS J2 F2 m3 D) rfl rfl (pm1 (show ¬ z (-900000) < z t from zge (by omega))) ?_
      refine q_go hM 2 (68, [some (.ref 99998), some (.ref 0), some (.int (z (k : Int))), some (.ref N), some (.int (z t))], [.ref 0, .ref N], eS J2 F2 m3 D) rfl ?_
      have c3 : CI (wA W) (wH W2) (wS W2) (wT W2) m3 := ⟨W2, i3, ha.trans a1, rfl, rfl, rfl⟩
      refine q_call (a := 57) (b := 496) hM rfl rfl rx_s (ec_seen (n := n) hs c3 hF2 (by omega) (by decide)) ?_ (by omega) (by omega)
      rintro v S6 ⟨m5, rfl, rfl, c5⟩
      have hF3 := okF9_set hF2 (by omega) a
      have hR3 : ROW (J2 ++ [.inr (0, 160)]) (setF F2 (113 + J2.length) a) (113 + J2.length) a := row_new
      refine q_call (a := 0) (b := 0) hM rfl rfl rx_s (ec_ali (hR2.ext (ext_set hF2 (by omega) a)) hR3 (by have := hR2.1.2; omega) (fun _ _ => rfl) hF3 (by decide)) ?_ (Nat.zero_le _) (Nat.zero_le _)
      rintro v S7 ⟨rfl, rfl⟩
      refine q_st hM 1 (79, [some (.ref 99998), some (.ref 0), some (.int (z (k : Int))), some (.ref N), some (.int (z t))], [], eS (J2 ++ [.inr (0, 160)]) (setF F2 (113 + J2.length) a) m5 D) rfl rfl (pm1 (show ¬ (1 : Int32) = 0 by decide)) ?_
      refine q_go hM 2 (84, [some (.ref 99998), some (.ref 0), some (.int (z (k : Int))), some (.ref N), some (.int (z t))], [.int (Int32.ofNat 4294067296), .int (z t)], eS (J2 ++ [.inr (0, 160)]) (setF F2 (113 + J2.length) a) m5 D) rfl ?_
      refine q_st hM 1 (119, [some (.ref 99998), some (.ref 0), some (.int (z (k : Int))), some (.ref N), some (.int (z t))], [], eS (J2 ++ [.inr (0, 160)]) (setF F2 (113 + J2.length) a) m5 D) rfl rfl (pm1 (show z t ≤ z (-900000) from zle' (by omega))) ?_
      obtain ⟨W5, i5, a5, b5, s5, t5⟩ := c5
      refine next _ _ m5 W5 _ _ i5 (t5.trans h02) ?_ hF3 (by rw [List.length_append]; show J2.length + 1 ≤ _; omega) (by omega) (by omega)
      exact ⟨by rw [a5]; omega, fun B hb => hB2.2.1 B (by rw [← b5]; exact hb), fun B hb => hB2.2.2 B (by rw [← s5]; exact hb)⟩
end LLOOP
