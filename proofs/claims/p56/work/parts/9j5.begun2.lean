/-! the law's begun, from the empty store -/
theorem sst_eS (m : pmI) (D : Nat → Nat → UInt64) : sst m D = eS [] (m.1, m.2, pmR0, D) m D := by
  have e : ∀ {α : Type} (f : Nat → Nat → α), mixR f f = f := fun f => by
    funext i k
    unfold mixR
    split <;> rfl
  unfold eS
  dsimp only
  rw [e, e, e, e, List.append_nil]
theorem okF9_0 (m : pmI) (D : Nat → Nat → UInt64) : okF9 [] (m.1, m.2, pmR0, D) := ⟨by show 113 + 0 ≤ 90000; omega, fun i k q h => Or.inl (by have := pmR0_ok h; omega)⟩
/-- what begun leaves -/
def BeQ (v : Option Value) (S' : pmS) : Prop := v = some (.ref 0) ∧ ∃ F m D W, S' = eS [] F m D ∧ okF9 [] F ∧ cInv m W ∧ wT W = 0 ∧ wB W 6
section BEG2
variable {E : pmEv0} {n : Nat} {F : pmM} {m : pmI} {D : Nat → Nat → UInt64}
theorem begun_10 (hn : 200 ≤ n) (hF : okF9 [] F) (h : cInv m We) : RQ E 12 58 (10, [some (.ref 99998), some (.ref 0), some (.int (z 0)), none], [], eS [] F m D) 100 600 BeQ := by
  have hM := ML_begun
  obtain ⟨r1, hr1, e1⟩ := k_inA (E := E) 0 (by omega) (b := 15) (by omega)
  obtain ⟨r2, hr2, e2⟩ := k_inA (E := E) 31 (by omega) (b := 5) (by omega)
  obtain ⟨r4, hr4, e4⟩ := k_inA (E := E) 71 (by omega) (b := 5) (by omega)
  -- the end
  have p4 : ∀ m W nn, BGi (r1 + (2 + r2) + 2 + 18 + (2 + r4)) (2 + r2) nn m W → RQ E 12 58 (232, [some (.ref 99998), some (.ref 0), some (.int (z nn)), none], [], eS [] F m D) 0 0 BeQ := by
    intro m W nn hI
    have q1 := hI.2.2.2.1
    have q2 := hI.2.2.2.2
    refine q_go hM 2 (235, [some (.ref 99998), some (.ref 0), some (.int (z nn)), none], [.int (Int32.ofNat 4204967296), .int (z nn)], eS [] F m D) rfl ?_
    refine q_st hM 1 (242, [some (.ref 99998), some (.ref 0), some (.int (z nn)), none], [], eS [] F m D) rfl rfl (pm1 (show z (-90000000) ≤ z nn from zle' (by omega))) ?_
    refine q_go hM 1 (243, [some (.ref 99998), some (.ref 0), some (.int (z nn)), none], [.ref 0], eS [] F m D) rfl ?_
    exact q_ret hM rfl rfl trivial ⟨rfl, F, m, D, W, rfl, hF, hI.1, hI.2.1, wB_up hI.2.2.1 (by omega)⟩
  have p3 : ∀ m W nn, BGi (r1 + (2 + r2) + 2 + 18) (2 + r2) nn m W → RQ E 12 58 (168, [some (.ref 99998), some (.ref 0), some (.int (z nn)), none], [], eS [] F m D) 10 60 BeQ := by
    intro m W nn hI
    refine q_go hM 2 (170, [some (.ref 99998), some (.ref 0), some (.int (z nn)), some (.int (z ((0 : Nat) : Int)))], [], eS [] F m D) rfl ?_
    exact q_mono (beg_4 (n := n) hn hF hr4 e4 p4 (2 + r4) 0 m W nn (by omega) hI) (by omega) (by omega)
  have p2 : ∀ m W nn, BGi (r1 + (2 + r2)) (2 + r2) nn m W → RQ E 12 58 (113, [some (.ref 99998), some (.ref 0), some (.int (z nn)), none], [], eS [] F m D) 40 240 BeQ := by
    intro m W nn hI
    refine q_go hM 4 (117, [some (.ref 99998), some (.ref 0), some (.int (z nn)), none], [.int (z 1), .int (z 0), .ref 0, .int (z nn)], eS [] F m D) rfl ?_
    refine q_call (a := 1) (b := 6) hM rfl rfl rx_s6 (ec_bg (b_pair hI.1 hn (a := 0) (b := 1) (by omega) (by omega)) (eL_pair_0 n _ _ m D) (by decide) rfl hF) ?_
    rintro v S1 ⟨x, m', W', rfl, rfl, i1, hx, ht, hB⟩
    have hI1 := hI.next i1 hx ht hB
    refine q_go hM 3 (123, [some (.ref 99998), some (.ref 0), some (.int (z nn)), none], [.int (z 3), .int (z 2), .ref 0, .int (z x), .int (z nn)], eS [] F m' D) rfl ?_
    refine q_call (a := 1) (b := 6) hM rfl rfl rx_s6 (ec_bg (b_pair i1 hn (a := 2) (b := 3) (by omega) (by omega)) (eL_pair_0 n _ _ m' D) (by decide) rfl hF) ?_
    rintro v S2 ⟨y, m2, W2, rfl, rfl, i2, hy, ht2, hB2⟩
    have hI2 := hI1.next i2 hy ht2 hB2
    refine q_go hM 5 (131, [some (.ref 99998), some (.ref 0), some (.int (z nn + (z x + z y))), some (.int (z ((0 : Nat) : Int)))], [], eS [] F m2 D) rfl ?_
    rw [z_add, z_add, ← Int.add_assoc]
    exact q_mono (beg_3 (n := n) hn hF (c0 := r1 + (2 + r2) + 2) (K := 2 + r2) p3 18 0 m2 W2 _ rfl hI2) (by omega) (by omega)
  have p1 : ∀ m W nn, BGi r1 0 nn m W → RQ E 12 58 (55, [some (.ref 99998), some (.ref 0), some (.int (z nn)), none], [], eS [] F m D) 60 360 BeQ := by
    intro m W nn hI
    refine q_go hM 2 (57, [some (.ref 99998), some (.ref 0), some (.int (z nn)), some (.int (z ((0 : Nat) : Int)))], [], eS [] F m D) rfl ?_
    exact q_mono (beg_2 (n := n) hn hF (c0 := r1) hr2 e2 p2 (2 + r2) 0 m W nn (by omega) hI) (by omega) (by omega)
  refine q_go hM 2 (12, [some (.ref 99998), some (.ref 0), some (.int (z 0)), some (.int (z ((0 : Nat) : Int)))], [], eS [] F m D) rfl ?_
  exact q_mono (beg_1 (n := n) hn hF hr1 e1 p1 r1 0 m We 0 (Nat.zero_add _) ⟨h, rfl, ⟨Nat.le_refl _, fun B hb => absurd hb List.not_mem_nil, fun B hb => by cases hb⟩, by omega, by omega⟩) (by omega) (by omega)
theorem begun_ok (E : pmEv0) : EQ E 13 58 [.ref 99998] (den ([], [], [])) 1100 1000600 BeQ := by
  obtain ⟨N, R, kc, ks, e, hN, hR, h1, h2⟩ := prChk_ok prChk_t
  obtain ⟨g1, g2⟩ := prInts_ok hN
  have hS : den (pmG0, N, R) = eS [] (lk 0 N, (fun _ _ => 0), pmR0, fun _ _ => 0) (lk 0 N, fun _ _ => 0) (fun _ _ => 0) := by
    refine Eq.trans ?_ (sst_eS (lk 0 N, fun _ _ => 0) (fun _ _ => 0))
    unfold den
    dsimp only
    rw [hR]
  obtain ⟨v, S', a, b, q1, q2, q3, q4⟩ := begun_10 (E := E) (n := 200) (D := fun _ _ => 0) (Nat.le_refl _) (okF9_0 (lk 0 N, fun _ _ => 0) (fun _ _ => 0)) (We_c (m := (lk 0 N, fun _ _ => 0)) g1 g2 (fun _ _ => rfl))
  have q5 := q1 kc ks
  rw [← hS] at q5
  refine ⟨v, S', kc + a, ks + b, ⟨Nat.le_of_ble_eq_true rfl, ?_⟩, by omega, by omega, q4⟩
  exact prX_ok (d := 12) (fun t as S u g => pmEv_le (prE_ok 5 t as S u g) (by decide)) _ _ _ _ _ e _ q5
/-- the law's run -/
theorem law_rq (E : pmEv0) : EQ E 14 248 [.ref 99998] (den ([], [], [])) 10000 1100000 Q9 := by
  have hM := ML_law
  refine q_ev hM (Nat.le_of_ble_eq_true rfl) rfl (q_go hM 1 (1, [some (.ref 99998), none, none, none, none], [.ref 99998], den ([], [], [])) rfl ?_)
  refine q_call (a := 1100) (b := 1000600) hM rfl rfl rx_s (begun_ok E).ec ?_
  rintro v S' ⟨rfl, F, m, D, W, rfl, hF, h, h0, hB⟩
  refine q_go hM 4 (10, [some (.ref 99998), some (.ref 0), none, none, none], [.ref 0], eS [] F m D) rfl ?_
  obtain ⟨m1, w, e1, i1, hw⟩ := well_ok (n := 200) h (Nat.le_refl _)
  refine q_call (a := 10) (b := 60) hM rfl rfl rx_s (ec_v (A := 10) (B := 60) e1 (eL_isWell_0 200 m D) (by decide) rfl hF hw (by omega)) ?_
  rintro v S1 ⟨rfl, rfl⟩
  refine q_st hM 1 (18, [some (.ref 99998), some (.ref 0), none, none, none], [], eS [] F m1 D) rfl rfl (pm1 (show ¬ z 1 = 0 by decide)) ?_
  refine q_go hM 2 (20, [some (.ref 99998), some (.ref 0), some (.int (z ((0 : Nat) : Int))), none, none], [], eS [] F m1 D) rfl ?_
  exact q_mono (law_from (n := 200) (Nat.le_refl _) 8 0 [] F m1 W rfl i1 h0 hB hF (Nat.zero_le _)) (by decide) (by decide)
end BEG2
/-- the law, from its entry to its end -/
theorem law_pm (E : pmEv0) : ∃ nn S1 kc ks, pmX Pg E (pmCl2 (pmEv Pg E 13)) 248 nn (0, pmL0 5 [.ref 99998], [], den ([], [], [])) 0 0 (.inl (some (.int 1)), S1, kc, ks) ∧ kc ≤ 10000 ∧ ks ≤ 1100000 := by
  obtain ⟨v, S', a, b, ⟨-, nn, h⟩, h2, h3, h4⟩ := law_rq E
  have h4 : v = some (.int 1) := h4
  subst h4
  exact ⟨nn, S', a, b, h, h2, h3⟩
