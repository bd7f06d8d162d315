/-! the law's acts: the calls by number -/
theorem z_dv {u b : Nat} (h : u < 2000000000 ∧ 0 < b ∧ b < 1000) : z (u : Int) / z (b : Int) = z ((u / b : Nat) : Int) := by
  have h1 := z_toInt (k := (u : Int)) (by omega)
  have h2 := z_toInt (k := (b : Int)) (by omega)
  have h3 : (z (u : Int) / z (b : Int)).toInt = ((u / b : Nat) : Int) := by
    rw [Int32.toInt_div_of_ne_left _ _ (by
      intro g
      have := congrArg Int32.toInt g
      rw [h1] at this
      have h9 : Int32.minValue.toInt = -2147483648 := rfl
      omega), h1, h2, Int.tdiv_eq_ediv_of_nonneg (by omega)]
    omega
  rw [← Int32.ofInt_toInt (z (u : Int) / z (b : Int)), h3]
  rfl
theorem z_md {u b : Nat} {b' : Int} (e : b' = (b : Int)) (h : u < 2000000000 ∧ 0 < b ∧ b < 1000) : z (u : Int) - z (u : Int) / z b' * z b' = z ((u % b : Nat) : Int) := by
  subst e
  rw [z_dv h, z_mul, z_sub]
  congr 1
  have := Nat.div_add_mod u b
  have h2 : ((u / b : Nat) : Int) * (b : Int) = ((b * (u / b) : Nat) : Int) := by
    rw [Nat.mul_comm]
    exact (Int.natCast_mul _ _).symm
  omega
/-- more things, those of before as they were -/
def EXT (k : Nat) (J : pmG) (F : pmM) (J' : pmG) (F' : pmM) : Prop := (∃ Y, J' = J ++ Y) ∧ J'.length ≤ J.length + k ∧ okF9 J' F' ∧ ∀ i, 113 ≤ i → i < 113 + J.length → F'.1 i = F.1 i ∧ F'.2.1 i = F.2.1 i ∧ F'.2.2.1 i = F.2.2.1 i ∧ F'.2.2.2 i = F.2.2.2 i
theorem ext_rf {k : Nat} {J : pmG} {F : pmM} (h : okF9 J F) : EXT k J F J F := ⟨⟨[], (List.append_nil _).symm⟩, Nat.le_add_right _ _, h, fun _ _ _ => ⟨rfl, rfl, rfl, rfl⟩⟩
/-- what acts comes to -/
def AcQ (W : Wd) (J : pmG) (F : pmM) (D : Nat → Nat → UInt64) (v : Option Value) (S' : pmS) : Prop := ∃ t J' F' m' W', v = some (.int (z t)) ∧ S' = eS J' F' m' D ∧ EXT 20 J F J' F' ∧ cInv m' W' ∧ OcW W t W'
theorem okF9.le {J : pmG} {F : pmM} (h : okF9 J F) (m : pmI) (D : Nat → Nat → UInt64) : (eS J F m D).1.length ≤ 90000 := by
  show (pmG0 ++ J).length ≤ 90000
  rw [pmG0_app]
  exact h.1
section ACTS
variable {E : pmEv0} {n : Nat} {J : pmG} {F : pmM} {m : pmI} {D : Nat → Nat → UInt64} {W : Wd}
theorem k_dancer (h : cInv m W) (hn : 200 ≤ n) {a : Nat} (ha : a < 10) : ∃ t : Nat, fL_dancer_0 n (z (a : Int)) m = some (z (t : Int), m, 0) ∧ (t < 10 ∨ t < aX (wA W)) := by
  unfold fL_dancer_0
  have h8 := h.2.1.1
  rw [y_dancers h, obind]
  by_cases h0 : 0 < aC (wA W)
  · rw [if_pos (show z 0 < z (aC (wA W) : Int) from zlt (by omega))]
    by_cases h9 : a < 9
    · rw [if_pos (zlt (by omega)), obind, if_pos (show ¬ z (aC (wA W) : Int) = (0 : Int32) from fun g => absurd (show z (aC (wA W) : Int) = z 0 from g) (zne (by omega))), z_md rfl (by omega)]
      obtain ⟨i, hi, -, hk⟩ := byRank_ex (Nat.mod_lt a h0)
      rw [y_byNails_at h hn hi hk (Nat.mod_lt a h0), obind]
      exact ⟨aNu (wA W) i, rfl, Or.inr (h.2.1.2.2.1 i hi).1⟩
    · rw [if_neg (zge (by omega))]
      exact ⟨a, rfl, Or.inl ha⟩
  · rw [if_neg (show ¬ z 0 < z (aC (wA W) : Int) from zge (by omega))]
    exact ⟨a, rfl, Or.inl ha⟩
theorem ML_acts : MM 232 kL_acts (some .int) [] 6 := ⟨rfl, rfl, rfl, rfl⟩
set_option maxRecDepth 10000 in
theorem a_152 {i : Int32} {a b c : Nat} (h : cInv m W) (hn : 200 ≤ n) (hF : okF9 J F) (hX : aX (wA W) < 90) (ha : a < 10) (hb : b < 9) (hc : c < 60) : RQ E 12 232 (152, [some (.ref 0), some (.ref 99998), some (.int i), some (.int (z (a : Int))), some (.int (z (b : Int))), some (.int (z (c : Int)))], [], eS J F m D) 20 500 (AcQ W J F D) := by
  have hM := ML_acts
  refine q_go hM 3 (156, [some (.ref 0), some (.ref 99998), some (.int i), some (.int (z (a : Int))), some (.int (z (b : Int))), some (.int (z (c : Int)))], [.int (z 9), .int (z (a : Int)), .ref 0], eS J F m D) rfl ?_
  refine q_gp hM 1 (157, [some (.ref 0), some (.ref 99998), some (.int i), some (.int (z (a : Int))), some (.int (z (b : Int))), some (.int (z (c : Int)))], [.int ((z (a : Int)) - (z (a : Int)) / z 9 * z 9), .ref 0], eS J F m D) [¬ z 9 = 0] rfl (pm1 (by decide)) ?_
  rw [z_md (b := 9) (b' := 9) rfl (by omega)]
  refine q_go hM 1 (159, [some (.ref 0), some (.ref 99998), some (.int i), some (.int (z (a : Int))), some (.int (z (b : Int))), some (.int (z (c : Int)))], [.int (z (b : Int)), .int (z ((a % 9 : Nat) : Int)), .ref 0], eS J F m D) rfl ?_
  refine q_call (a := 1) (b := 6) hM rfl rfl rx_s6 (ec_oc (o_addProp h hn (by omega) (by omega)) (eL_addProp_0 n _ _ m D) (by decide) rfl hF (by decide) (by decide)) ?_
  rintro v S' ⟨x, m', W', rfl, rfl, i1, o1⟩
  exact q_ret hM rfl rfl trivial ⟨x, J, F, m', W', rfl, rfl, ext_rf hF, i1, o1⟩
set_option maxRecDepth 10000 in
theorem a_163 {i : Int32} {a b c : Nat} (h : cInv m W) (hn : 200 ≤ n) (hF : okF9 J F) (hX : aX (wA W) < 90) (ha : a < 10) (hb : b < 9) (hc : c < 60) : RQ E 12 232 (163, [some (.ref 0), some (.ref 99998), some (.int i), some (.int (z (a : Int))), some (.int (z (b : Int))), some (.int (z (c : Int)))], [], eS J F m D) 20 500 (AcQ W J F D) := by
  have hM := ML_acts
  refine q_go hM 3 (168, [some (.ref 0), some (.ref 99998), some (.int i), some (.int (z (a : Int))), some (.int (z (b : Int))), some (.int (z (c : Int)))], [.int (z 8), .int (z (c : Int)), .ref 0], eS J F m D) rfl ?_
  refine q_gp hM 1 (169, [some (.ref 0), some (.ref 99998), some (.int i), some (.int (z (a : Int))), some (.int (z (b : Int))), some (.int (z (c : Int)))], [.int ((z (c : Int)) - (z (c : Int)) / z 8 * z 8), .ref 0], eS J F m D) [¬ z 8 = 0] rfl (pm1 (by decide)) ?_
  rw [z_md (b := 8) (b' := 8) rfl (by omega)]
  refine q_go hM 1 (171, [some (.ref 0), some (.ref 99998), some (.int i), some (.int (z (a : Int))), some (.int (z (b : Int))), some (.int (z (c : Int)))], [.int (z (b : Int)), .int (z ((c % 8 : Nat) : Int)), .ref 0], eS J F m D) rfl ?_
  refine q_call (a := 1) (b := 6) hM rfl rfl rx_s6 (ec_oc (o_removeProp h (by omega) (by omega)) (eL_removeProp_0 _ _ m D) (by decide) rfl hF (by decide) (by decide)) ?_
  rintro v S' ⟨x, m', W', rfl, rfl, i1, o1⟩
  exact q_ret hM rfl rfl trivial ⟨x, J, F, m', W', rfl, rfl, ext_rf hF, i1, o1⟩
set_option maxRecDepth 10000 in
theorem a_175 {i : Int32} {a b c : Nat} (h : cInv m W) (hn : 200 ≤ n) (hF : okF9 J F) (hX : aX (wA W) < 90) (ha : a < 10) (hb : b < 9) (hc : c < 60) : RQ E 12 232 (175, [some (.ref 0), some (.ref 99998), some (.int i), some (.int (z (a : Int))), some (.int (z (b : Int))), some (.int (z (c : Int)))], [], eS J F m D) 20 500 (AcQ W J F D) := by
  have hM := ML_acts
  refine q_go hM 3 (179, [some (.ref 0), some (.ref 99998), some (.int i), some (.int (z (a : Int))), some (.int (z (b : Int))), some (.int (z (c : Int)))], [.int (z 9), .int (z (a : Int)), .ref 0], eS J F m D) rfl ?_
  refine q_gp hM 1 (180, [some (.ref 0), some (.ref 99998), some (.int i), some (.int (z (a : Int))), some (.int (z (b : Int))), some (.int (z (c : Int)))], [.int ((z (a : Int)) - (z (a : Int)) / z 9 * z 9), .ref 0], eS J F m D) [¬ z 9 = 0] rfl (pm1 (by decide)) ?_
  rw [z_md (b := 9) (b' := 9) rfl (by omega)]
  refine q_go hM 3 (186, [some (.ref 0), some (.ref 99998), some (.int i), some (.int (z (a : Int))), some (.int (z (b : Int))), some (.int (z (c : Int)))], [.int (z 22), .int (z (c : Int)), .int (z (b : Int)), .int (z ((a % 9 : Nat) : Int)), .ref 0], eS J F m D) rfl ?_
  refine q_gp hM 1 (187, [some (.ref 0), some (.ref 99998), some (.int i), some (.int (z (a : Int))), some (.int (z (b : Int))), some (.int (z (c : Int)))], [.int ((z (c : Int)) - (z (c : Int)) / z 22 * z 22), .int (z (b : Int)), .int (z ((a % 9 : Nat) : Int)), .ref 0], eS J F m D) [¬ z 22 = 0] rfl (pm1 (by decide)) ?_
  rw [z_md (b := 22) (b' := 22) rfl (by omega)]
  refine q_call (a := 1) (b := 6) hM rfl rfl rx_s6 (ec_oc (o_addDancer h hn (by omega) (by omega) (by omega) (by omega)) (eL_addDancer_0 n _ _ _ m D) (by decide) rfl hF (by decide) (by decide)) ?_
  rintro v S' ⟨x, m', W', rfl, rfl, i1, o1⟩
  exact q_ret hM rfl rfl trivial ⟨x, J, F, m', W', rfl, rfl, ext_rf hF, i1, o1⟩
set_option maxRecDepth 10000 in
theorem a_191 {i : Int32} {a b c : Nat} (h : cInv m W) (hn : 200 ≤ n) (hF : okF9 J F) (hX : aX (wA W) < 90) (ha : a < 10) (hb : b < 9) (hc : c < 60) : RQ E 12 232 (191, [some (.ref 0), some (.ref 99998), some (.int i), some (.int (z (a : Int))), some (.int (z (b : Int))), some (.int (z (c : Int)))], [], eS J F m D) 20 500 (AcQ W J F D) := by
  have hM := ML_acts
  refine q_go hM 3 (194, [some (.ref 0), some (.ref 99998), some (.int i), some (.int (z (a : Int))), some (.int (z (b : Int))), some (.int (z (c : Int)))], [.int (z (a : Int)), .ref 0, .ref 0], eS J F m D) rfl ?_
  obtain ⟨t1, e1, h1⟩ := k_dancer (n := n) h hn (a := a) (by omega)
  refine q_call (a := 0) (b := 0) hM rfl rfl rx_s (ec_v e1 (eL_dancer_0 n _ m D) (by decide) rfl hF (Nat.le_refl _) (Nat.le_refl _)) ?_ (Nat.zero_le _) (Nat.zero_le _)
  rintro v S1 ⟨rfl, rfl⟩
  refine q_call (a := 1) (b := 6) hM rfl rfl rx_s6 (ec_oc (o_removeDancer h hn (by omega)) (eL_removeDancer_0 n _ m D) (by decide) rfl hF (by decide) (by decide)) ?_
  rintro v S' ⟨x, m', W', rfl, rfl, i1, o1⟩
  exact q_ret hM rfl rfl trivial ⟨x, J, F, m', W', rfl, rfl, ext_rf hF, i1, o1⟩
set_option maxRecDepth 10000 in
theorem a_201 {i : Int32} {a b c : Nat} (h : cInv m W) (hn : 200 ≤ n) (hF : okF9 J F) (hX : aX (wA W) < 90) (ha : a < 10) (hb : b < 9) (hc : c < 60) : RQ E 12 232 (201, [some (.ref 0), some (.ref 99998), some (.int i), some (.int (z (a : Int))), some (.int (z (b : Int))), some (.int (z (c : Int)))], [], eS J F m D) 20 500 (AcQ W J F D) := by
  have hM := ML_acts
  refine q_go hM 3 (204, [some (.ref 0), some (.ref 99998), some (.int i), some (.int (z (a : Int))), some (.int (z (b : Int))), some (.int (z (c : Int)))], [.int (z (a : Int)), .ref 0, .ref 0], eS J F m D) rfl ?_
  obtain ⟨t1, e1, h1⟩ := k_dancer (n := n) h hn (a := a) (by omega)
  refine q_call (a := 0) (b := 0) hM rfl rfl rx_s (ec_v e1 (eL_dancer_0 n _ m D) (by decide) rfl hF (Nat.le_refl _) (Nat.le_refl _)) ?_ (Nat.zero_le _) (Nat.zero_le _)
  rintro v S1 ⟨rfl, rfl⟩
  refine q_go hM 2 (210, [some (.ref 0), some (.ref 99998), some (.int i), some (.int (z (a : Int))), some (.int (z (b : Int))), some (.int (z (c : Int)))], [.int (z (b : Int)), .ref 0, .int (z (t1 : Int)), .ref 0], eS J F m D) rfl ?_
  obtain ⟨t2, e2, h2⟩ := k_dancer (n := n) h hn (a := b) (by omega)
  refine q_call (a := 0) (b := 0) hM rfl rfl rx_s (ec_v e2 (eL_dancer_0 n _ m D) (by decide) rfl hF (Nat.le_refl _) (Nat.le_refl _)) ?_ (Nat.zero_le _) (Nat.zero_le _)
  rintro v S2 ⟨rfl, rfl⟩
  refine q_call (a := 1) (b := 6) hM rfl rfl rx_s6 (ec_oc (o_pair h hn (by omega) (by omega)) (eL_pair_0 n _ _ m D) (by decide) rfl hF (by decide) (by decide)) ?_
  rintro v S' ⟨x, m', W', rfl, rfl, i1, o1⟩
  exact q_ret hM rfl rfl trivial ⟨x, J, F, m', W', rfl, rfl, ext_rf hF, i1, o1⟩
set_option maxRecDepth 10000 in
theorem a_217 {i : Int32} {a b c : Nat} (h : cInv m W) (hn : 200 ≤ n) (hF : okF9 J F) (hX : aX (wA W) < 90) (ha : a < 10) (hb : b < 9) (hc : c < 60) : RQ E 12 232 (217, [some (.ref 0), some (.ref 99998), some (.int i), some (.int (z (a : Int))), some (.int (z (b : Int))), some (.int (z (c : Int)))], [], eS J F m D) 20 500 (AcQ W J F D) := by
  have hM := ML_acts
  refine q_go hM 3 (220, [some (.ref 0), some (.ref 99998), some (.int i), some (.int (z (a : Int))), some (.int (z (b : Int))), some (.int (z (c : Int)))], [.int (z (a : Int)), .ref 0, .ref 0], eS J F m D) rfl ?_
  obtain ⟨t1, e1, h1⟩ := k_dancer (n := n) h hn (a := a) (by omega)
  refine q_call (a := 0) (b := 0) hM rfl rfl rx_s (ec_v e1 (eL_dancer_0 n _ m D) (by decide) rfl hF (Nat.le_refl _) (Nat.le_refl _)) ?_ (Nat.zero_le _) (Nat.zero_le _)
  rintro v S1 ⟨rfl, rfl⟩
  refine q_call (a := 1) (b := 6) hM rfl rfl rx_s6 (ec_oc (o_unpair h hn (by omega)) (eL_unpair_0 n _ m D) (by decide) rfl hF (by decide) (by decide)) ?_
  rintro v S' ⟨x, m', W', rfl, rfl, i1, o1⟩
  exact q_ret hM rfl rfl trivial ⟨x, J, F, m', W', rfl, rfl, ext_rf hF, i1, o1⟩
set_option maxRecDepth 10000 in
theorem a_227 {i : Int32} {a b c : Nat} (h : cInv m W) (hn : 200 ≤ n) (hF : okF9 J F) (hX : aX (wA W) < 90) (ha : a < 10) (hb : b < 9) (hc : c < 60) : RQ E 12 232 (227, [some (.ref 0), some (.ref 99998), some (.int i), some (.int (z (a : Int))), some (.int (z (b : Int))), some (.int (z (c : Int)))], [], eS J F m D) 20 500 (AcQ W J F D) := by
  have hM := ML_acts
  refine q_go hM 3 (232, [some (.ref 0), some (.ref 99998), some (.int i), some (.int (z (a : Int))), some (.int (z (b : Int))), some (.int (z (c : Int)))], [.int (z 7), .int (z (b : Int)), .ref 0], eS J F m D) rfl ?_
  refine q_gp hM 1 (233, [some (.ref 0), some (.ref 99998), some (.int i), some (.int (z (a : Int))), some (.int (z (b : Int))), some (.int (z (c : Int)))], [.int ((z (b : Int)) - (z (b : Int)) / z 7 * z 7), .ref 0], eS J F m D) [¬ z 7 = 0] rfl (pm1 (by decide)) ?_
  rw [z_md (b := 7) (b' := 7) rfl (by omega)]
  refine q_go hM 3 (239, [some (.ref 0), some (.ref 99998), some (.int i), some (.int (z (a : Int))), some (.int (z (b : Int))), some (.int (z (c : Int)))], [.int (z 6), .int (z (c : Int)), .ref (100000 + 18), .int (z ((b % 7 : Nat) : Int)), .ref 0], eS J F m D) rfl ?_
  refine q_gp hM 1 (240, [some (.ref 0), some (.ref 99998), some (.int i), some (.int (z (a : Int))), some (.int (z (b : Int))), some (.int (z (c : Int)))], [.int ((z (c : Int)) - (z (c : Int)) / z 6 * z 6), .ref (100000 + 18), .int (z ((b % 7 : Nat) : Int)), .ref 0], eS J F m D) [¬ z 6 = 0] rfl (pm1 (by decide)) ?_
  rw [z_md (b := 6) (b' := 6) rfl (by omega)]
  obtain ⟨x, hx⟩ : ∃ x, (pmStB 18)[c % 6]? = some x := ⟨_, List.getElem?_eq_getElem (show c % 6 < (pmStB 18).length from Nat.mod_lt _ (by decide))⟩
  obtain ⟨-, -, k, hk, rfl⟩ := chr_st (s := 18) (by decide) (List.mem_of_getElem? hx)
  refine q_call (a := 0) (b := 0) hM rfl rfl (rx_l (s := 18) (by decide) rfl) ((e_charAtL (d := 8) (s := 18) (hF.le m D) (by decide) hx).ec) ?_ (Nat.zero_le _) (Nat.zero_le _)
  rintro v S9 ⟨rfl, rfl⟩
  refine q_call (a := 1) (b := 6) hM rfl rfl rx_s6 (ec_oc (o_addMove h hn (by omega) (by omega)) (eL_addMove_0 n _ _ m D) (by decide) rfl hF (by decide) (by decide)) ?_
  rintro v S' ⟨x, m', W', rfl, rfl, i1, o1⟩
  exact q_ret hM rfl rfl trivial ⟨x, J, F, m', W', rfl, rfl, ext_rf hF, i1, o1⟩
set_option maxRecDepth 10000 in
theorem a_247 {i : Int32} {a b c : Nat} (h : cInv m W) (hn : 200 ≤ n) (hF : okF9 J F) (hX : aX (wA W) < 90) (ha : a < 10) (hb : b < 9) (hc : c < 60) : RQ E 12 232 (247, [some (.ref 0), some (.ref 99998), some (.int i), some (.int (z (a : Int))), some (.int (z (b : Int))), some (.int (z (c : Int)))], [], eS J F m D) 20 500 (AcQ W J F D) := by
  have hM := ML_acts
  refine q_go hM 3 (252, [some (.ref 0), some (.ref 99998), some (.int i), some (.int (z (a : Int))), some (.int (z (b : Int))), some (.int (z (c : Int)))], [.int (z 7), .int (z (b : Int)), .ref 0], eS J F m D) rfl ?_
  refine q_gp hM 1 (253, [some (.ref 0), some (.ref 99998), some (.int i), some (.int (z (a : Int))), some (.int (z (b : Int))), some (.int (z (c : Int)))], [.int ((z (b : Int)) - (z (b : Int)) / z 7 * z 7), .ref 0], eS J F m D) [¬ z 7 = 0] rfl (pm1 (by decide)) ?_
  rw [z_md (b := 7) (b' := 7) rfl (by omega)]
  refine q_call (a := 1) (b := 6) hM rfl rfl rx_s6 (ec_oc (o_clearFigure h (by omega)) (eL_clearFigure_0 _ m D) (by decide) rfl hF (by decide) (by decide)) ?_
  rintro v S' ⟨x, m', W', rfl, rfl, i1, o1⟩
  exact q_ret hM rfl rfl trivial ⟨x, J, F, m', W', rfl, rfl, ext_rf hF, i1, o1⟩
set_option maxRecDepth 10000 in
theorem a_257 {i : Int32} {a b c : Nat} (h : cInv m W) (hn : 200 ≤ n) (hF : okF9 J F) (hX : aX (wA W) < 90) (ha : a < 10) (hb : b < 9) (hc : c < 60) : RQ E 12 232 (257, [some (.ref 0), some (.ref 99998), some (.int i), some (.int (z (a : Int))), some (.int (z (b : Int))), some (.int (z (c : Int)))], [], eS J F m D) 20 500 (AcQ W J F D) := by
  have hM := ML_acts
  refine q_go hM 3 (262, [some (.ref 0), some (.ref 99998), some (.int i), some (.int (z (a : Int))), some (.int (z (b : Int))), some (.int (z (c : Int)))], [.int (z 7), .int (z (b : Int)), .ref 0], eS J F m D) rfl ?_
  refine q_gp hM 1 (263, [some (.ref 0), some (.ref 99998), some (.int i), some (.int (z (a : Int))), some (.int (z (b : Int))), some (.int (z (c : Int)))], [.int ((z (b : Int)) - (z (b : Int)) / z 7 * z 7), .ref 0], eS J F m D) [¬ z 7 = 0] rfl (pm1 (by decide)) ?_
  rw [z_md (b := 7) (b' := 7) rfl (by omega)]
  refine q_go hM 2 (265, [some (.ref 0), some (.ref 99998), some (.int i), some (.int (z (a : Int))), some (.int (z (b : Int))), some (.int (z (c : Int)))], [.int (z (a : Int)), .ref 0, .int (z ((b % 7 : Nat) : Int)), .ref 0], eS J F m D) rfl ?_
  obtain ⟨t1, e1, h1⟩ := k_dancer (n := n) h hn (a := a) (by omega)
  refine q_call (a := 0) (b := 0) hM rfl rfl rx_s (ec_v e1 (eL_dancer_0 n _ m D) (by decide) rfl hF (Nat.le_refl _) (Nat.le_refl _)) ?_ (Nat.zero_le _) (Nat.zero_le _)
  rintro v S1 ⟨rfl, rfl⟩
  refine q_call (a := 1) (b := 6) hM rfl rfl rx_s6 (ec_oc (o_perform h hn (by omega) (by omega)) (eL_perform_0 n _ _ m D) (by decide) rfl hF (by decide) (by decide)) ?_
  rintro v S' ⟨x, m', W', rfl, rfl, i1, o1⟩
  exact q_ret hM rfl rfl trivial ⟨x, J, F, m', W', rfl, rfl, ext_rf hF, i1, o1⟩
set_option maxRecDepth 10000 in
theorem a_272 {i : Int32} {a b c : Nat} (h : cInv m W) (hn : 200 ≤ n) (hF : okF9 J F) (hX : aX (wA W) < 90) (ha : a < 10) (hb : b < 9) (hc : c < 60) : RQ E 12 232 (272, [some (.ref 0), some (.ref 99998), some (.int i), some (.int (z (a : Int))), some (.int (z (b : Int))), some (.int (z (c : Int)))], [], eS J F m D) 20 500 (AcQ W J F D) := by
  have hM := ML_acts
  refine q_go hM 3 (275, [some (.ref 0), some (.ref 99998), some (.int i), some (.int (z (a : Int))), some (.int (z (b : Int))), some (.int (z (c : Int)))], [.int (z (a : Int)), .ref 0, .ref 0], eS J F m D) rfl ?_
  obtain ⟨t1, e1, h1⟩ := k_dancer (n := n) h hn (a := a) (by omega)
  refine q_call (a := 0) (b := 0) hM rfl rfl rx_s (ec_v e1 (eL_dancer_0 n _ m D) (by decide) rfl hF (Nat.le_refl _) (Nat.le_refl _)) ?_ (Nat.zero_le _) (Nat.zero_le _)
  rintro v S1 ⟨rfl, rfl⟩
  refine q_go hM 3 (284, [some (.ref 0), some (.ref 99998), some (.int i), some (.int (z (a : Int))), some (.int (z (b : Int))), some (.int (z (c : Int)))], [.int (z 8), .int (z (c : Int)), .int (z (b : Int)), .int (z (t1 : Int)), .ref 0], eS J F m D) rfl ?_
  refine q_gp hM 1 (285, [some (.ref 0), some (.ref 99998), some (.int i), some (.int (z (a : Int))), some (.int (z (b : Int))), some (.int (z (c : Int)))], [.int ((z (c : Int)) - (z (c : Int)) / z 8 * z 8), .int (z (b : Int)), .int (z (t1 : Int)), .ref 0], eS J F m D) [¬ z 8 = 0] rfl (pm1 (by decide)) ?_
  rw [z_md (b := 8) (b' := 8) rfl (by omega)]
  refine q_call (a := 1) (b := 6) hM rfl rfl rx_s6 (ec_oc (o_walk h hn (by omega) (by omega) (by omega)) (eL_walk_0 n _ _ _ m D) (by decide) rfl hF (by decide) (by decide)) ?_
  rintro v S' ⟨x, m', W', rfl, rfl, i1, o1⟩
  exact q_ret hM rfl rfl trivial ⟨x, J, F, m', W', rfl, rfl, ext_rf hF, i1, o1⟩
set_option maxRecDepth 10000 in
theorem a_289 {i : Int32} {a b c : Nat} (h : cInv m W) (hn : 200 ≤ n) (hF : okF9 J F) (hX : aX (wA W) < 90) (ha : a < 10) (hb : b < 9) (hc : c < 60) : RQ E 12 232 (289, [some (.ref 0), some (.ref 99998), some (.int i), some (.int (z (a : Int))), some (.int (z (b : Int))), some (.int (z (c : Int)))], [], eS J F m D) 20 500 (AcQ W J F D) := by
  have hM := ML_acts
  refine q_go hM 3 (292, [some (.ref 0), some (.ref 99998), some (.int i), some (.int (z (a : Int))), some (.int (z (b : Int))), some (.int (z (c : Int)))], [.int (z (a : Int)), .ref 0, .ref 0], eS J F m D) rfl ?_
  obtain ⟨t1, e1, h1⟩ := k_dancer (n := n) h hn (a := a) (by omega)
  refine q_call (a := 0) (b := 0) hM rfl rfl rx_s (ec_v e1 (eL_dancer_0 n _ m D) (by decide) rfl hF (Nat.le_refl _) (Nat.le_refl _)) ?_ (Nat.zero_le _) (Nat.zero_le _)
  rintro v S1 ⟨rfl, rfl⟩
  refine q_call (a := 1) (b := 6) hM rfl rfl rx_s6 (ec_oc (o_renewNails h hn (by omega)) (eL_renewNails_0 n _ m D) (by decide) rfl hF (by decide) (by decide)) ?_
  rintro v S' ⟨x, m', W', rfl, rfl, i1, o1⟩
  exact q_ret hM rfl rfl trivial ⟨x, J, F, m', W', rfl, rfl, ext_rf hF, i1, o1⟩
set_option maxRecDepth 10000 in
theorem a_299 {i : Int32} {a b c : Nat} (h : cInv m W) (hn : 200 ≤ n) (hF : okF9 J F) (hX : aX (wA W) < 90) (ha : a < 10) (hb : b < 9) (hc : c < 60) : RQ E 12 232 (299, [some (.ref 0), some (.ref 99998), some (.int i), some (.int (z (a : Int))), some (.int (z (b : Int))), some (.int (z (c : Int)))], [], eS J F m D) 20 500 (AcQ W J F D) := by
  have hM := ML_acts
  refine q_go hM 4 (306, [some (.ref 0), some (.ref 99998), some (.int i), some (.int (z (a : Int))), some (.int (z (b : Int))), some (.int (z (c : Int)))], [.int (z 8), .int (z (c : Int)), .int (z (b : Int)), .ref 0], eS J F m D) rfl ?_
  refine q_gp hM 1 (307, [some (.ref 0), some (.ref 99998), some (.int i), some (.int (z (a : Int))), some (.int (z (b : Int))), some (.int (z (c : Int)))], [.int ((z (c : Int)) - (z (c : Int)) / z 8 * z 8), .int (z (b : Int)), .ref 0], eS J F m D) [¬ z 8 = 0] rfl (pm1 (by decide)) ?_
  rw [z_md (b := 8) (b' := 8) rfl (by omega)]
  refine q_call (a := 1) (b := 6) hM rfl rfl rx_s6 (ec_oc (o_addExit h hn (by omega) (by omega)) (eL_addExit_0 n _ _ m D) (by decide) rfl hF (by decide) (by decide)) ?_
  rintro v S' ⟨x, m', W', rfl, rfl, i1, o1⟩
  exact q_ret hM rfl rfl trivial ⟨x, J, F, m', W', rfl, rfl, ext_rf hF, i1, o1⟩
set_option maxRecDepth 10000 in
theorem a_311 {i : Int32} {a b c : Nat} (h : cInv m W) (hn : 200 ≤ n) (hF : okF9 J F) (hX : aX (wA W) < 90) (ha : a < 10) (hb : b < 9) (hc : c < 60) : RQ E 12 232 (311, [some (.ref 0), some (.ref 99998), some (.int i), some (.int (z (a : Int))), some (.int (z (b : Int))), some (.int (z (c : Int)))], [], eS J F m D) 20 500 (AcQ W J F D) := by
  have hM := ML_acts
  refine q_go hM 3 (316, [some (.ref 0), some (.ref 99998), some (.int i), some (.int (z (a : Int))), some (.int (z (b : Int))), some (.int (z (c : Int)))], [.int (z 7), .int (z (b : Int)), .ref 0], eS J F m D) rfl ?_
  refine q_gp hM 1 (317, [some (.ref 0), some (.ref 99998), some (.int i), some (.int (z (a : Int))), some (.int (z (b : Int))), some (.int (z (c : Int)))], [.int ((z (b : Int)) - (z (b : Int)) / z 7 * z 7), .ref 0], eS J F m D) [¬ z 7 = 0] rfl (pm1 (by decide)) ?_
  rw [z_md (b := 7) (b' := 7) rfl (by omega)]
  refine q_call (a := 1) (b := 6) hM rfl rfl rx_s6 (ec_oc (o_removeExit h hn (by omega)) (eL_removeExit_0 n _ m D) (by decide) rfl hF (by decide) (by decide)) ?_
  rintro v S' ⟨x, m', W', rfl, rfl, i1, o1⟩
  exact q_ret hM rfl rfl trivial ⟨x, J, F, m', W', rfl, rfl, ext_rf hF, i1, o1⟩
set_option maxRecDepth 10000 in
theorem a_321 {i : Int32} {a b c : Nat} (h : cInv m W) (hn : 200 ≤ n) (hF : okF9 J F) (hX : aX (wA W) < 90) (ha : a < 10) (hb : b < 9) (hc : c < 60) : RQ E 12 232 (321, [some (.ref 0), some (.ref 99998), some (.int i), some (.int (z (a : Int))), some (.int (z (b : Int))), some (.int (z (c : Int)))], [], eS J F m D) 20 500 (AcQ W J F D) := by
  have hM := ML_acts
  refine q_go hM 2 (324, [some (.ref 0), some (.ref 99998), some (.int i), some (.int (z (a : Int))), some (.int (z (b : Int))), some (.int (z (c : Int)))], [.int (z 5), .int (z (c : Int))], eS J F m D) rfl ?_
  refine q_gp hM 1 (325, [some (.ref 0), some (.ref 99998), some (.int i), some (.int (z (a : Int))), some (.int (z (b : Int))), some (.int (z (c : Int)))], [.int ((z (c : Int)) - (z (c : Int)) / z 5 * z 5)], eS J F m D) [¬ z 5 = 0] rfl (pm1 (by decide)) ?_
  rw [z_md (b := 5) (b' := 5) rfl (by omega)]
  by_cases h0 : c % 5 = 0
  · refine q_st hM 0 (328, [some (.ref 0), some (.ref 99998), some (.int i), some (.int (z (a : Int))), some (.int (z (b : Int))), some (.int (z (c : Int)))], [], eS J F m D) rfl rfl (pm1 (show ¬ ¬ z ((c % 5 : Nat) : Int) = 0 from fun g => g (by rw [h0]; rfl))) ?_
    refine q_go hM 1 (329, [some (.ref 0), some (.ref 99998), some (.int i), some (.int (z (a : Int))), some (.int (z (b : Int))), some (.int (z (c : Int)))], [.ref 0], eS J F m D) rfl ?_
    refine q_call (a := 1) (b := 6) hM rfl rfl rx_s6 (ec_oc (o_leaveAll h hn) (eL_leaveAll_0 n m D) (by decide) rfl hF (by decide) (by decide)) ?_
    rintro v S' ⟨x, m', W', rfl, rfl, i1, o1⟩
    refine q_go hM 1 (345, [some (.ref 0), some (.ref 99998), some (.int i), some (.int (z (a : Int))), some (.int (z (b : Int))), some (.int (z (c : Int)))], [.int (z x)], eS J F m' D) rfl ?_
    exact q_ret hM rfl rfl trivial ⟨x, J, F, m', W', rfl, rfl, ext_rf hF, i1, o1⟩
  · refine q_st hM 1 (335, [some (.ref 0), some (.ref 99998), some (.int i), some (.int (z (a : Int))), some (.int (z (b : Int))), some (.int (z (c : Int)))], [], eS J F m D) rfl rfl (pm1 (show ¬ z ((c % 5 : Nat) : Int) = z 0 from zne (by omega))) ?_
    refine q_go hM 3 (339, [some (.ref 0), some (.ref 99998), some (.int i), some (.int (z (a : Int))), some (.int (z (b : Int))), some (.int (z (c : Int)))], [.int (z (b : Int)), .ref 0, .ref 0], eS J F m D) rfl ?_
    obtain ⟨t1, e1, h1⟩ := k_dancer (n := n) h hn (a := b) (by omega)
    refine q_call (a := 0) (b := 0) hM rfl rfl rx_s (ec_v e1 (eL_dancer_0 n _ m D) (by decide) rfl hF (Nat.le_refl _) (Nat.le_refl _)) ?_ (Nat.zero_le _) (Nat.zero_le _)
    rintro v S1 ⟨rfl, rfl⟩
    refine q_call (a := 1) (b := 6) hM rfl rfl rx_s6 (ec_oc (o_unpair h hn (by omega)) (eL_unpair_0 n _ m D) (by decide) rfl hF (by decide) (by decide)) ?_
    rintro v S' ⟨x, m', W', rfl, rfl, i1, o1⟩
    exact q_ret hM rfl rfl trivial ⟨x, J, F, m', W', rfl, rfl, ext_rf hF, i1, o1⟩
end ACTS
