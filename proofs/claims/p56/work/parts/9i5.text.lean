/-! the law's acts: the texts -/
/-- a StringBuilder at N with a text between lo and hi long, made over S0 -/
def SBq (i N : Nat) (S0 S : pmS) (lo hi : Nat) : Prop := N ≤ 2000 ∧ ∃ p cap T, SBs (N + 2 + i) S N p cap T ∧ (cap = 16 ∨ cap = 34) ∧ N ≤ p ∧ FR N S0 S ∧ (lo ≤ T.length ∧ T.length ≤ hi) ∧ ∀ x, x ∈ T → CHr x
theorem SBq.q {i N : Nat} {S0 S : pmS} {lo hi : Nat} (h : SBq i N S0 S lo hi) : S.1[N]? = some (.inl 10) := by
  obtain ⟨-, p, cap, T, h1, -⟩ := h
  exact h1.2.1
theorem SBq.fr {i N : Nat} {S0 S : pmS} {lo hi : Nat} (h : SBq i N S0 S lo hi) : FR N S0 S := by
  obtain ⟨-, p, cap, T, h1, h2, h3, h4, -⟩ := h
  exact h4
theorem SBq.le9 {i N : Nat} {S0 S : pmS} {lo hi : Nat} (h : SBq i N S0 S lo hi) (hi9 : i ≤ 50 := by decide) : S.1.length ≤ 60000 := by
  obtain ⟨h9, p, cap, T, h1, -⟩ := h
  have := h1.1
  omega
/-- a store like the one of before, with more behind -/
theorem eS_fr {J : pmG} {F : pmM} {m : pmI} {D : Nat → Nat → UInt64} {S' : pmS} (hF : okF9 J F) (h : FR (113 + J.length) (eS J F m D) S') (hl : S'.1.length ≤ 60000) : ∃ J' F', S' = eS J' F' m D ∧ (∃ Y, J' = J ++ Y) ∧ 113 + J'.length = S'.1.length ∧ okF9 J' F' ∧ ∀ i, i < 113 + J.length → F'.1 i = (eS J F m D).2.1 i ∧ F'.2.1 i = (eS J F m D).2.2.1 i ∧ F'.2.2.1 i = (eS J F m D).2.2.2.1 i ∧ F'.2.2.2 i = (eS J F m D).2.2.2.2 i := by
  obtain ⟨-, ⟨Y, hY⟩, h2, h3⟩ := h
  have hv := h3 (by
    show pmVm (pmG0 ++ J).length _
    rw [pmG0_app]
    exact eS_vm hF m D)
  have hY' : S'.1 = pmG0 ++ (J ++ Y) := by
    rw [hY]
    exact List.append_assoc _ _ _
  have hlen : S'.1.length = 113 + (J ++ Y).length := by
    rw [hY']
    exact pmG0_app _
  refine ⟨J ++ Y, S'.2, ?_, ⟨Y, rfl⟩, hlen.symm, ⟨by omega, fun i k q hq => ?_⟩, h2⟩
  · have e : ∀ {α : Type} (f g : Nat → Nat → α), (∀ i, i < 113 → g i = f i) → g = mixR f g := fun f g hh => by
      funext i k
      unfold mixR
      by_cases hi : i < 113
      · rw [if_pos hi, hh i hi]
      · rw [if_neg hi]
    obtain ⟨S1, S2, S3, S4, S5⟩ := S'
    have q : ∀ {α : Type} {f g : Nat → Nat → α} {i : Nat}, i < 113 → mixR f g i = f i := fun hi => by
      funext k
      exact if_pos hi
    unfold eS
    dsimp only at hY' h2 ⊢
    rw [hY', ← e m.1 S2 (fun i hi => (h2 i (by omega)).1.trans (q hi)), ← e m.2 S3 (fun i hi => (h2 i (by omega)).2.1.trans (q hi)), ← e pmR0 S4 (fun i hi => (h2 i (by omega)).2.2.1.trans (q hi)), ← e D S5 (fun i hi => (h2 i (by omega)).2.2.2.trans (q hi))]
  · have := hv i k q hq
    omega
section TEXT
variable {E : pmEv0} {d n : Nat} {J : pmG} {F : pmM} {m : pmI} {D : Nat → Nat → UInt64} {W : Wd}
theorem ec_appS {i N lo hi s lo2 hi2 : Nat} {S0 S : pmS} (h : SBq i N S0 S lo hi) (hs : s < pmSt0.length) (h1 : lo2 = lo + (pmStB s).length) (h2 : hi2 = hi + (pmStB s).length) (h3 : i ≤ 50 ∧ hi2 ≤ 33) : EC E 12 193 [.ref N, .ref (100000 + s)] S 1 34 (fun v S' => v = some (.ref N) ∧ SBq (i + 1) N S0 S' lo2 hi2) := by
  obtain ⟨h9, p, cap, T, g1, g2, g3, g4, g5, g6⟩ := h
  refine EQ.ec (((e_appendS (d := 6) (N := N) g1 (by omega) g2 hs (by omega) ⟨Nat.le_refl _, g3⟩).im (fun v S' hh => ?_)).le (by decide) (Nat.le_refl _) (Nat.le_refl _))
  obtain ⟨e, p', cap', k1, k2, k3, k4⟩ := hh
  refine ⟨e, h9, p', cap', _, k1, k2, k3, g4.trans k4, by rw [List.length_append]; omega, fun x hx => ?_⟩
  rcases List.mem_append.mp hx with hx | hx
  · exact g6 x hx
  · exact chr_st hs hx
theorem ec_appD {i N lo hi mm k lo2 hi2 : Nat} {S0 S : pmS} (h : SBq i N S0 S lo hi) (hm : mm < 100) (hk : 1 ≤ (dg mm).length ∧ (dg mm).length ≤ k) (h1 : lo2 = lo + 1) (h2 : hi2 = hi + k) (h3 : i ≤ 50 ∧ hi2 ≤ 33) : EC E 12 198 [.ref N, .int (z (mm : Int))] S 1 34 (fun v S' => v = some (.ref N) ∧ SBq (i + 1) N S0 S' lo2 hi2) := by
  obtain ⟨h9, p, cap, T, g1, g2, g3, g4, g5, g6⟩ := h
  refine EQ.ec (((e_appendI (d := 6) (N := N) g1 (by omega) g2 hm (by omega) ⟨Nat.le_refl _, g3⟩).im (fun v S' hh => ?_)).le (by decide) (Nat.le_refl _) (Nat.le_refl _))
  obtain ⟨e, p', cap', k1, k2, k3, k4⟩ := hh
  refine ⟨e, h9, p', cap', _, k1, k2, k3, g4.trans k4, by rw [List.length_append]; omega, fun x hx => ?_⟩
  rcases List.mem_append.mp hx with hx | hx
  · exact g6 x hx
  · exact chr_dg hm hx
theorem ec_app1 {i N lo hi m lo2 hi2 : Nat} {S0 S : pmS} (h : SBq i N S0 S lo hi) (hm : m < 10) (h1 : lo2 = lo + 1) (h2 : hi2 = hi + 1) (h3 : i ≤ 50 ∧ hi2 ≤ 33) : EC E 12 198 [.ref N, .int (z (m : Int))] S 1 34 (fun v S' => v = some (.ref N) ∧ SBq (i + 1) N S0 S' lo2 hi2) :=
  ec_appD h (by omega) (by rw [dg_len, if_pos hm]; omega) h1 h2 h3
theorem ec_app2 {i N lo hi m lo2 hi2 : Nat} {S0 S : pmS} (h : SBq i N S0 S lo hi) (hm : m < 100) (h1 : lo2 = lo + 1) (h2 : hi2 = hi + 2) (h3 : i ≤ 50 ∧ hi2 ≤ 33) : EC E 12 198 [.ref N, .int (z (m : Int))] S 1 34 (fun v S' => v = some (.ref N) ∧ SBq (i + 1) N S0 S' lo2 hi2) :=
  ec_appD h hm (by rw [dg_len]; split <;> omega) h1 h2 h3
theorem ec_toS {i N lo hi : Nat} {S0 S : pmS} (h : SBq i N S0 S lo hi) (h1 : 17 ≤ lo) (h2 : hi ≤ 33) (h3 : i ≤ 50) : EC E 12 207 [.ref N] S 2 44 (fun v S' => ∃ r p T, v = some (.ref r) ∧ STR S' r p T ∧ FR N S0 S' ∧ N ≤ r ∧ N ≤ p ∧ T.length ≤ 33 ∧ (∀ x, x ∈ T → CHr x) ∧ S'.1.length ≤ N + (i + 4)) := by
  obtain ⟨h9, p, cap, T, g1, g2, g3, g4, g5, g6⟩ := h
  have hN : N < S.1.length := (List.getElem?_eq_some_iff.mp g1.2.1).1
  have h7 := g1.2.2.2.2.2.2.1
  refine EQ.ec (((e_toString (d := 6) (N := N) (by omega) g1 (by omega) (by omega) (by omega)).im (fun v S' hh => ?_)).le (by decide) (Nat.le_refl _) (Nat.le_refl _))
  obtain ⟨e, p', k1, k2, k3, k4⟩ := hh
  have := g1.1
  exact ⟨S.1.length, p', T, e, k1, g4.trans k3, by omega, k2, by omega, g6, by omega⟩
theorem ec_dan {a t : Nat} {S : pmS} (e1 : fL_dancer_0 n (z (a : Int)) m = some (z (t : Int), m, 0)) (h : FR (eS J F m D).1.length (eS J F m D) S) (hF : okF9 J F) (hl : S.1.length ≤ 60000) : EC E 12 146 [.ref 0, .int (z (a : Int))] S 0 0 (fun v S' => v = some (.int (z (t : Int))) ∧ S' = S) := by
  rw [show (eS J F m D).1.length = 113 + J.length from pmG0_app J] at h
  obtain ⟨J', F', rfl, -, -, hF', -⟩ := eS_fr hF h hl
  exact ec_v e1 (eL_dancer_0 n _ m D) (by decide) rfl hF' (Nat.le_refl _) (Nat.le_refl _)
theorem q_newSB {j : Nat} {co : Nat → Option (Instr × Nat × Nat × Nat)} {rt : Option FieldType} {hd : List (Nat × Nat × Nat × Nat × Nat)} {mx A B : Nat} {Q : Option Value → pmS → Prop} {pc k k2 : Nat} {x1 : Nat × Nat} {L : List (Option Value)} {S : pmS} (hM : MM j co rt hd mx) (hc0 : co pc = some (.new k, 3, 60, 10)) (hc1 : co (pc + 3) = some (.dup, 1, x1)) (hc2 : co (pc + 4) = some (.invokespecial k2, 3, 4, 181)) (hl : S.1.length ≤ 2000) (h : ∀ S', SBq 0 S.1.length S S' 0 0 → RQ E 12 j (pc + 7, L, [.ref S.1.length, .ref 0], S') (A - 1 - 1) (B - 4 - 16) Q) (hA : 2 ≤ A := by decide) (hB : 20 ≤ B := by decide) : RQ E 12 j (pc, L, [.ref 0], S) A B Q := by
  refine q_al hM 1 4 (pc + 3, L, [.ref S.1.length, .ref 0], S.1 ++ [.inl 10], pmZ S.1.length S.2) hc0 ?_ ?_ (by omega) (by omega)
  · show (if S.1.length < 90000 then _ else none) = _
    rw [if_pos (by omega)]
    rfl
  refine q_st (ps := []) hM 0 (pc + 4, L, [.ref S.1.length, .ref S.1.length, .ref 0], S.1 ++ [.inl 10], pmZ S.1.length S.2) hc1 rfl trivial ?_
  have hlen : (S.1 ++ [Sum.inl 10] : pmG).length = S.1.length + 1 := by
    rw [List.length_append]
    rfl
  refine q_call (a := 1) (b := 16) hM hc2 rfl (rx_o 10 get_new (by decide) rfl) ((e_init4 (S := (S.1 ++ [.inl 10], pmZ S.1.length S.2)) (d := 10) (N := S.1.length) (by show (S.1 ++ [Sum.inl 10] : pmG).length < _; omega) get_new (fun k => if_pos rfl) (Nat.le_refl _)).ec) ?_ (by omega) (by omega)
  rintro v S' ⟨rfl, p, cap, g1, g2, g3, g4⟩
  refine h S' ⟨hl, p, cap, [], ?_, g2, g3, (fr_new 10 (Nat.le_refl _)).trans g4, ⟨Nat.le_refl _, Nat.le_refl _⟩, fun x hx => absurd hx List.not_mem_nil⟩
  have e : (S.1 ++ [Sum.inl 10] : pmG).length + 1 = S.1.length + 2 + 0 := by omega
  rw [← e]
  exact g1
theorem act_end {r p : Nat} {T : List Int32} {S : pmS} {L : List (Option Value)} (h : cInv m W) (hn : 200 ≤ n) (hF : okF9 J F) (hX : aX (wA W) < 90) (hJ : J.length ≤ 1000) (h0 : wT W = 0) (k1 : STR S r p T) (k2 : FR (eS J F m D).1.length (eS J F m D) S) (k3 : (eS J F m D).1.length ≤ r) (k4 : (eS J F m D).1.length ≤ p) (k5 : T.length ≤ 33) (k6 : ∀ x, x ∈ T → CHr x) (k7 : S.1.length ≤ (eS J F m D).1.length + 20) : RQ E 12 232 (607, L, [.ref r, .ref 0], S) 1 6 (AcQ W J F D) := by
  have hM := ML_acts
  rw [show (eS J F m D).1.length = 113 + J.length from pmG0_app J] at k2 k3 k4 k7
  obtain ⟨J', F', rfl, hY, hl, hF', hk⟩ := eS_fr hF k2 (by omega)
  refine q_call (a := 1) (b := 6) hM rfl rfl rx_s (does_ok (n := n) h hn hF' (by omega) (by omega) (by omega) k6 (by omega) k1 h0).ec ?_
  rintro v S' ⟨t, m', W', rfl, rfl, i1, o1⟩
  exact q_ret hM rfl rfl trivial ⟨t, J', F', m', W', rfl, rfl, ⟨hY, by omega, hF', fun i h1 h2 => ⟨(hk i h2).1.trans (mix_hi h1), (hk i h2).2.1.trans (mix_hi h1), (hk i h2).2.2.1.trans (mix_hi h1), (hk i h2).2.2.2.trans (mix_hi h1)⟩⟩, i1, o1⟩
theorem ec_in {i b r : Nat} (hr : fL_in_99998 E (z (i : Int)) (z (b : Int)) m = some (z (r : Int))) (hF : okF9 J F) (hd : 2 ≤ d) : EC E d 10 [.ref 99998, .int (z (i : Int)), .int (z (b : Int))] (eS J F m D) 0 0 (fun v S' => v = some (.int (z (r : Int))) ∧ S' = eS J F m D) :=
  ⟨_, _, 0, 0, Or.inr (calR_id (pmEv_le (eL_in_99998 E _ _ m D _ hr) hd) rfl hF), Nat.le_refl _, Nat.le_refl _, rfl, rfl⟩
set_option maxRecDepth 10000 in
theorem a_346 {i : Int32} {a b c : Nat} (h : cInv m W) (hn : 200 ≤ n) (hF : okF9 J F) (hX : aX (wA W) < 90) (ha : a < 10) (hb : b < 9) (hc : c < 60) (hJ : J.length ≤ 1000) (h0 : wT W = 0) : RQ E 12 232 (346, [some (.ref 0), some (.ref 99998), some (.int i), some (.int (z (a : Int))), some (.int (z (b : Int))), some (.int (z (c : Int)))], [], eS J F m D) 20 500 (AcQ W J F D) := by
  have hM := ML_acts
  obtain ⟨t1, e1, h1⟩ := k_dancer (n := n) h hn (a := a) (by omega)
  refine q_go hM 3 (350, [some (.ref 0), some (.ref 99998), some (.int i), some (.int (z (a : Int))), some (.int (z (b : Int))), some (.int (z (c : Int)))], [.int (z 4), .int (z (c : Int)), .ref 0], eS J F m D) rfl ?_
  refine q_gp hM 1 (351, [some (.ref 0), some (.ref 99998), some (.int i), some (.int (z (a : Int))), some (.int (z (b : Int))), some (.int (z (c : Int)))], [.int ((z (c : Int)) - (z (c : Int)) / z 4 * z 4), .ref 0], eS J F m D) [¬ z 4 = 0] rfl (pm1 (by decide)) ?_
  rw [z_md (b := 4) (b' := 4) rfl (by omega)]
  by_cases hc0 : c % 4 = 0
  · refine q_st hM 0 (354, [some (.ref 0), some (.ref 99998), some (.int i), some (.int (z (a : Int))), some (.int (z (b : Int))), some (.int (z (c : Int)))], [.ref 0], eS J F m D) rfl rfl (pm1 (show ¬ ¬ z ((c % 4 : Nat) : Int) = 0 from fun g => g (by rw [hc0]; rfl))) ?_
    refine q_newSB hM rfl rfl rfl (by rw [show (eS J F m D).1.length = 113 + J.length from pmG0_app J]; omega) (fun S0 g0 => ?_)
    refine q_go hM 1 (363, [some (.ref 0), some (.ref 99998), some (.int i), some (.int (z (a : Int))), some (.int (z (b : Int))), some (.int (z (c : Int)))], [.ref (100000 + 19), .ref (eS J F m D).1.length, .ref 0], S0) rfl ?_
    refine q_call (a := 1) (b := 34) hM rfl rfl (rx_o 10 g0.q (by decide) rfl) (ec_appS (s := 19) (lo2 := 7) (hi2 := 7) g0 (by decide) rfl rfl (by decide)) ?_
    rintro v S1 ⟨rfl, g1⟩
    refine q_go hM 2 (370, [some (.ref 0), some (.ref 99998), some (.int i), some (.int (z (a : Int))), some (.int (z (b : Int))), some (.int (z (c : Int)))], [.int (z 6), .int (z (b : Int)), .ref (eS J F m D).1.length, .ref 0], S1) rfl ?_
    refine q_gp hM 1 (371, [some (.ref 0), some (.ref 99998), some (.int i), some (.int (z (a : Int))), some (.int (z (b : Int))), some (.int (z (c : Int)))], [.int ((z (b : Int)) - (z (b : Int)) / z 6 * z 6), .ref (eS J F m D).1.length, .ref 0], S1) [¬ z 6 = 0] rfl (pm1 (by decide)) ?_
    rw [z_md (b := 6) (b' := 6) rfl (by omega)]
    refine q_call (a := 1) (b := 34) hM rfl rfl (rx_o 10 g1.q (by decide) rfl) (ec_app1 (m := b % 6) (lo2 := 8) (hi2 := 8) g1 (by omega) rfl rfl (by decide)) ?_
    rintro v S2 ⟨rfl, g2⟩
    refine q_go hM 1 (376, [some (.ref 0), some (.ref 99998), some (.int i), some (.int (z (a : Int))), some (.int (z (b : Int))), some (.int (z (c : Int)))], [.ref (100000 + 20), .ref (eS J F m D).1.length, .ref 0], S2) rfl ?_
    refine q_call (a := 1) (b := 34) hM rfl rfl (rx_o 10 g2.q (by decide) rfl) (ec_appS (s := 20) (lo2 := 21) (hi2 := 21) g2 (by decide) rfl rfl (by decide)) ?_
    rintro v S3 ⟨rfl, g3⟩
    refine q_go hM 2 (383, [some (.ref 0), some (.ref 99998), some (.int i), some (.int (z (a : Int))), some (.int (z (b : Int))), some (.int (z (c : Int)))], [.int (z 6), .int (z (b : Int)), .ref (eS J F m D).1.length, .ref 0], S3) rfl ?_
    refine q_gp hM 1 (384, [some (.ref 0), some (.ref 99998), some (.int i), some (.int (z (a : Int))), some (.int (z (b : Int))), some (.int (z (c : Int)))], [.int ((z (b : Int)) - (z (b : Int)) / z 6 * z 6), .ref (eS J F m D).1.length, .ref 0], S3) [¬ z 6 = 0] rfl (pm1 (by decide)) ?_
    rw [z_md (b := 6) (b' := 6) rfl (by omega)]
    refine q_call (a := 1) (b := 34) hM rfl rfl (rx_o 10 g3.q (by decide) rfl) (ec_app1 (m := b % 6) (lo2 := 22) (hi2 := 22) g3 (by omega) rfl rfl (by decide)) ?_
    rintro v S4 ⟨rfl, g4⟩
    refine q_go hM 1 (389, [some (.ref 0), some (.ref 99998), some (.int i), some (.int (z (a : Int))), some (.int (z (b : Int))), some (.int (z (c : Int)))], [.ref (100000 + 21), .ref (eS J F m D).1.length, .ref 0], S4) rfl ?_
    refine q_call (a := 1) (b := 34) hM rfl rfl (rx_o 10 g4.q (by decide) rfl) (ec_appS (s := 21) (lo2 := 23) (hi2 := 23) g4 (by decide) rfl rfl (by decide)) ?_
    rintro v S5 ⟨rfl, g5⟩
    refine q_go hM 2 (394, [some (.ref 0), some (.ref 99998), some (.int i), some (.int (z (a : Int))), some (.int (z (b : Int))), some (.int (z (c : Int)))], [.int (z (a : Int)), .ref 0, .ref (eS J F m D).1.length, .ref 0], S5) rfl ?_
    refine q_call (a := 0) (b := 0) hM rfl rfl rx_s (ec_dan e1 g5.fr hF g5.le9) ?_ (Nat.zero_le _) (Nat.zero_le _)
    rintro v T1 ⟨rfl, rfl⟩
    refine q_call (a := 1) (b := 34) hM rfl rfl (rx_o 10 g5.q (by decide) rfl) (ec_app2 (m := t1) (lo2 := 24) (hi2 := 25) g5 (by omega) rfl rfl (by decide)) ?_
    rintro v S6 ⟨rfl, g6⟩
    refine q_call (a := 2) (b := 44) hM rfl rfl (rx_o 10 g6.q (by decide) rfl) (ec_toS g6 (by decide) (by decide) (by decide)) ?_
    rintro v S9 ⟨r, p, T, rfl, k1, k2, k3, k4, k5, k6, k7⟩
    refine q_go hM 1 (607, [some (.ref 0), some (.ref 99998), some (.int i), some (.int (z (a : Int))), some (.int (z (b : Int))), some (.int (z (c : Int)))], [.ref r, .ref 0], S9) rfl ?_
    exact q_mono (act_end (n := n) h hn hF hX hJ h0 k1 k2 k3 k4 k5 k6 (Nat.le_trans k7 (Nat.add_le_add_left (by decide) _))) (by decide) (by decide)
  · refine q_st hM 1 (406, [some (.ref 0), some (.ref 99998), some (.int i), some (.int (z (a : Int))), some (.int (z (b : Int))), some (.int (z (c : Int)))], [.ref 0], eS J F m D) rfl rfl (pm1 (show ¬ z ((c % 4 : Nat) : Int) = z 0 from zne (by omega))) ?_
    refine q_go hM 2 (409, [some (.ref 0), some (.ref 99998), some (.int i), some (.int (z (a : Int))), some (.int (z (b : Int))), some (.int (z (c : Int)))], [.int (z 4), .int (z (c : Int)), .ref 0], eS J F m D) rfl ?_
    refine q_gp hM 1 (410, [some (.ref 0), some (.ref 99998), some (.int i), some (.int (z (a : Int))), some (.int (z (b : Int))), some (.int (z (c : Int)))], [.int ((z (c : Int)) - (z (c : Int)) / z 4 * z 4), .ref 0], eS J F m D) [¬ z 4 = 0] rfl (pm1 (by decide)) ?_
    rw [z_md (b := 4) (b' := 4) rfl (by omega)]
    refine q_go hM 1 (411, [some (.ref 0), some (.ref 99998), some (.int i), some (.int (z (a : Int))), some (.int (z (b : Int))), some (.int (z (c : Int)))], [.int (z 1), .int (z ((c % 4 : Nat) : Int)), .ref 0], eS J F m D) rfl ?_
    by_cases hc1 : c % 4 = 1
    · refine q_st hM 0 (414, [some (.ref 0), some (.ref 99998), some (.int i), some (.int (z (a : Int))), some (.int (z (b : Int))), some (.int (z (c : Int)))], [.ref 0], eS J F m D) rfl rfl (pm1 (show ¬ ¬ z ((c % 4 : Nat) : Int) = z 1 from fun g => g (by rw [hc1]; rfl))) ?_
      refine q_newSB hM rfl rfl rfl (by rw [show (eS J F m D).1.length = 113 + J.length from pmG0_app J]; omega) (fun S0 g0 => ?_)
      refine q_go hM 1 (423, [some (.ref 0), some (.ref 99998), some (.int i), some (.int (z (a : Int))), some (.int (z (b : Int))), some (.int (z (c : Int)))], [.ref (100000 + 22), .ref (eS J F m D).1.length, .ref 0], S0) rfl ?_
      refine q_call (a := 1) (b := 34) hM rfl rfl (rx_o 10 g0.q (by decide) rfl) (ec_appS (s := 22) (lo2 := 5) (hi2 := 5) g0 (by decide) rfl rfl (by decide)) ?_
      rintro v S1 ⟨rfl, g1⟩
      refine q_go hM 2 (428, [some (.ref 0), some (.ref 99998), some (.int i), some (.int (z (a : Int))), some (.int (z (b : Int))), some (.int (z (c : Int)))], [.int (z (a : Int)), .ref 0, .ref (eS J F m D).1.length, .ref 0], S1) rfl ?_
      refine q_call (a := 0) (b := 0) hM rfl rfl rx_s (ec_dan e1 g1.fr hF g1.le9) ?_ (Nat.zero_le _) (Nat.zero_le _)
      rintro v T1 ⟨rfl, rfl⟩
      refine q_call (a := 1) (b := 34) hM rfl rfl (rx_o 10 g1.q (by decide) rfl) (ec_app2 (m := t1) (lo2 := 6) (hi2 := 7) g1 (by omega) rfl rfl (by decide)) ?_
      rintro v S2 ⟨rfl, g2⟩
      refine q_go hM 1 (436, [some (.ref 0), some (.ref 99998), some (.int i), some (.int (z (a : Int))), some (.int (z (b : Int))), some (.int (z (c : Int)))], [.ref (100000 + 23), .ref (eS J F m D).1.length, .ref 0], S2) rfl ?_
      refine q_call (a := 1) (b := 34) hM rfl rfl (rx_o 10 g2.q (by decide) rfl) (ec_appS (s := 23) (lo2 := 7) (hi2 := 8) g2 (by decide) rfl rfl (by decide)) ?_
      rintro v S3 ⟨rfl, g3⟩
      refine q_go hM 2 (443, [some (.ref 0), some (.ref 99998), some (.int i), some (.int (z (a : Int))), some (.int (z (b : Int))), some (.int (z (c : Int)))], [.int (z 8), .int (z (b : Int)), .ref (eS J F m D).1.length, .ref 0], S3) rfl ?_
      refine q_gp hM 1 (444, [some (.ref 0), some (.ref 99998), some (.int i), some (.int (z (a : Int))), some (.int (z (b : Int))), some (.int (z (c : Int)))], [.int ((z (b : Int)) - (z (b : Int)) / z 8 * z 8), .ref (eS J F m D).1.length, .ref 0], S3) [¬ z 8 = 0] rfl (pm1 (by decide)) ?_
      rw [z_md (b := 8) (b' := 8) rfl (by omega)]
      refine q_call (a := 1) (b := 34) hM rfl rfl (rx_o 10 g3.q (by decide) rfl) (ec_app1 (m := b % 8) (lo2 := 8) (hi2 := 9) g3 (by omega) rfl rfl (by decide)) ?_
      rintro v S4 ⟨rfl, g4⟩
      refine q_go hM 2 (451, [some (.ref 0), some (.ref 99998), some (.int i), some (.int (z (a : Int))), some (.int (z (b : Int))), some (.int (z (c : Int)))], [.int (z 8), .int (z (c : Int)), .ref (eS J F m D).1.length, .ref 0], S4) rfl ?_
      refine q_gp hM 1 (452, [some (.ref 0), some (.ref 99998), some (.int i), some (.int (z (a : Int))), some (.int (z (b : Int))), some (.int (z (c : Int)))], [.int ((z (c : Int)) - (z (c : Int)) / z 8 * z 8), .ref (eS J F m D).1.length, .ref 0], S4) [¬ z 8 = 0] rfl (pm1 (by decide)) ?_
      rw [z_md (b := 8) (b' := 8) rfl (by omega)]
      refine q_call (a := 1) (b := 34) hM rfl rfl (rx_o 10 g4.q (by decide) rfl) (ec_app1 (m := c % 8) (lo2 := 9) (hi2 := 10) g4 (by omega) rfl rfl (by decide)) ?_
      rintro v S5 ⟨rfl, g5⟩
      refine q_go hM 1 (457, [some (.ref 0), some (.ref 99998), some (.int i), some (.int (z (a : Int))), some (.int (z (b : Int))), some (.int (z (c : Int)))], [.ref (100000 + 24), .ref (eS J F m D).1.length, .ref 0], S5) rfl ?_
      refine q_call (a := 1) (b := 34) hM rfl rfl (rx_o 10 g5.q (by decide) rfl) (ec_appS (s := 24) (lo2 := 16) (hi2 := 17) g5 (by decide) rfl rfl (by decide)) ?_
      rintro v S6 ⟨rfl, g6⟩
      refine q_go hM 2 (462, [some (.ref 0), some (.ref 99998), some (.int i), some (.int (z (a : Int))), some (.int (z (b : Int))), some (.int (z (c : Int)))], [.int (z (a : Int)), .ref 0, .ref (eS J F m D).1.length, .ref 0], S6) rfl ?_
      refine q_call (a := 0) (b := 0) hM rfl rfl rx_s (ec_dan e1 g6.fr hF g6.le9) ?_ (Nat.zero_le _) (Nat.zero_le _)
      rintro v T2 ⟨rfl, rfl⟩
      refine q_call (a := 1) (b := 34) hM rfl rfl (rx_o 10 g6.q (by decide) rfl) (ec_app2 (m := t1) (lo2 := 17) (hi2 := 19) g6 (by omega) rfl rfl (by decide)) ?_
      rintro v S7 ⟨rfl, g7⟩
      refine q_call (a := 2) (b := 44) hM rfl rfl (rx_o 10 g7.q (by decide) rfl) (ec_toS g7 (by decide) (by decide) (by decide)) ?_
      rintro v S9 ⟨r, p, T, rfl, k1, k2, k3, k4, k5, k6, k7⟩
      refine q_go hM 1 (607, [some (.ref 0), some (.ref 99998), some (.int i), some (.int (z (a : Int))), some (.int (z (b : Int))), some (.int (z (c : Int)))], [.ref r, .ref 0], S9) rfl ?_
      exact q_mono (act_end (n := n) h hn hF hX hJ h0 k1 k2 k3 k4 k5 k6 (Nat.le_trans k7 (Nat.add_le_add_left (by decide) _))) (by decide) (by decide)
    · refine q_st hM 1 (474, [some (.ref 0), some (.ref 99998), some (.int i), some (.int (z (a : Int))), some (.int (z (b : Int))), some (.int (z (c : Int)))], [.ref 0], eS J F m D) rfl rfl (pm1 (show ¬ z ((c % 4 : Nat) : Int) = z 1 from zne (by omega))) ?_
      refine q_go hM 2 (477, [some (.ref 0), some (.ref 99998), some (.int i), some (.int (z (a : Int))), some (.int (z (b : Int))), some (.int (z (c : Int)))], [.int (z 4), .int (z (c : Int)), .ref 0], eS J F m D) rfl ?_
      refine q_gp hM 1 (478, [some (.ref 0), some (.ref 99998), some (.int i), some (.int (z (a : Int))), some (.int (z (b : Int))), some (.int (z (c : Int)))], [.int ((z (c : Int)) - (z (c : Int)) / z 4 * z 4), .ref 0], eS J F m D) [¬ z 4 = 0] rfl (pm1 (by decide)) ?_
      rw [z_md (b := 4) (b' := 4) rfl (by omega)]
      refine q_go hM 1 (479, [some (.ref 0), some (.ref 99998), some (.int i), some (.int (z (a : Int))), some (.int (z (b : Int))), some (.int (z (c : Int)))], [.int (z 2), .int (z ((c % 4 : Nat) : Int)), .ref 0], eS J F m D) rfl ?_
      by_cases hc2 : c % 4 = 2
      · refine q_st hM 0 (482, [some (.ref 0), some (.ref 99998), some (.int i), some (.int (z (a : Int))), some (.int (z (b : Int))), some (.int (z (c : Int)))], [.ref 0], eS J F m D) rfl rfl (pm1 (show ¬ ¬ z ((c % 4 : Nat) : Int) = z 2 from fun g => g (by rw [hc2]; rfl))) ?_
        refine q_newSB hM rfl rfl rfl (by rw [show (eS J F m D).1.length = 113 + J.length from pmG0_app J]; omega) (fun S0 g0 => ?_)
        refine q_go hM 1 (491, [some (.ref 0), some (.ref 99998), some (.int i), some (.int (z (a : Int))), some (.int (z (b : Int))), some (.int (z (c : Int)))], [.ref (100000 + 25), .ref (eS J F m D).1.length, .ref 0], S0) rfl ?_
        refine q_call (a := 1) (b := 34) hM rfl rfl (rx_o 10 g0.q (by decide) rfl) (ec_appS (s := 25) (lo2 := 5) (hi2 := 5) g0 (by decide) rfl rfl (by decide)) ?_
        rintro v S1 ⟨rfl, g1⟩
        refine q_go hM 2 (498, [some (.ref 0), some (.ref 99998), some (.int i), some (.int (z (a : Int))), some (.int (z (b : Int))), some (.int (z (c : Int)))], [.int (z 8), .int (z (b : Int)), .ref (eS J F m D).1.length, .ref 0], S1) rfl ?_
        refine q_gp hM 1 (499, [some (.ref 0), some (.ref 99998), some (.int i), some (.int (z (a : Int))), some (.int (z (b : Int))), some (.int (z (c : Int)))], [.int ((z (b : Int)) - (z (b : Int)) / z 8 * z 8), .ref (eS J F m D).1.length, .ref 0], S1) [¬ z 8 = 0] rfl (pm1 (by decide)) ?_
        rw [z_md (b := 8) (b' := 8) rfl (by omega)]
        refine q_call (a := 1) (b := 34) hM rfl rfl (rx_o 10 g1.q (by decide) rfl) (ec_app1 (m := b % 8) (lo2 := 6) (hi2 := 6) g1 (by omega) rfl rfl (by decide)) ?_
        rintro v S2 ⟨rfl, g2⟩
        refine q_go hM 2 (506, [some (.ref 0), some (.ref 99998), some (.int i), some (.int (z (a : Int))), some (.int (z (b : Int))), some (.int (z (c : Int)))], [.int (z 8), .int (z (c : Int)), .ref (eS J F m D).1.length, .ref 0], S2) rfl ?_
        refine q_gp hM 1 (507, [some (.ref 0), some (.ref 99998), some (.int i), some (.int (z (a : Int))), some (.int (z (b : Int))), some (.int (z (c : Int)))], [.int ((z (c : Int)) - (z (c : Int)) / z 8 * z 8), .ref (eS J F m D).1.length, .ref 0], S2) [¬ z 8 = 0] rfl (pm1 (by decide)) ?_
        rw [z_md (b := 8) (b' := 8) rfl (by omega)]
        refine q_call (a := 1) (b := 34) hM rfl rfl (rx_o 10 g2.q (by decide) rfl) (ec_app1 (m := c % 8) (lo2 := 7) (hi2 := 7) g2 (by omega) rfl rfl (by decide)) ?_
        rintro v S3 ⟨rfl, g3⟩
        refine q_go hM 1 (512, [some (.ref 0), some (.ref 99998), some (.int i), some (.int (z (a : Int))), some (.int (z (b : Int))), some (.int (z (c : Int)))], [.ref (100000 + 26), .ref (eS J F m D).1.length, .ref 0], S3) rfl ?_
        refine q_call (a := 1) (b := 34) hM rfl rfl (rx_o 10 g3.q (by decide) rfl) (ec_appS (s := 26) (lo2 := 15) (hi2 := 15) g3 (by decide) rfl rfl (by decide)) ?_
        rintro v S4 ⟨rfl, g4⟩
        refine q_go hM 2 (519, [some (.ref 0), some (.ref 99998), some (.int i), some (.int (z (a : Int))), some (.int (z (b : Int))), some (.int (z (c : Int)))], [.int (z 8), .int (z (c : Int)), .ref (eS J F m D).1.length, .ref 0], S4) rfl ?_
        refine q_gp hM 1 (520, [some (.ref 0), some (.ref 99998), some (.int i), some (.int (z (a : Int))), some (.int (z (b : Int))), some (.int (z (c : Int)))], [.int ((z (c : Int)) - (z (c : Int)) / z 8 * z 8), .ref (eS J F m D).1.length, .ref 0], S4) [¬ z 8 = 0] rfl (pm1 (by decide)) ?_
        rw [z_md (b := 8) (b' := 8) rfl (by omega)]
        refine q_call (a := 1) (b := 34) hM rfl rfl (rx_o 10 g4.q (by decide) rfl) (ec_app1 (m := c % 8) (lo2 := 16) (hi2 := 16) g4 (by omega) rfl rfl (by decide)) ?_
        rintro v S5 ⟨rfl, g5⟩
        refine q_go hM 2 (527, [some (.ref 0), some (.ref 99998), some (.int i), some (.int (z (a : Int))), some (.int (z (b : Int))), some (.int (z (c : Int)))], [.int (z 8), .int (z (b : Int)), .ref (eS J F m D).1.length, .ref 0], S5) rfl ?_
        refine q_gp hM 1 (528, [some (.ref 0), some (.ref 99998), some (.int i), some (.int (z (a : Int))), some (.int (z (b : Int))), some (.int (z (c : Int)))], [.int ((z (b : Int)) - (z (b : Int)) / z 8 * z 8), .ref (eS J F m D).1.length, .ref 0], S5) [¬ z 8 = 0] rfl (pm1 (by decide)) ?_
        rw [z_md (b := 8) (b' := 8) rfl (by omega)]
        refine q_call (a := 1) (b := 34) hM rfl rfl (rx_o 10 g5.q (by decide) rfl) (ec_app1 (m := b % 8) (lo2 := 17) (hi2 := 17) g5 (by omega) rfl rfl (by decide)) ?_
        rintro v S6 ⟨rfl, g6⟩
        refine q_go hM 1 (533, [some (.ref 0), some (.ref 99998), some (.int i), some (.int (z (a : Int))), some (.int (z (b : Int))), some (.int (z (c : Int)))], [.ref (100000 + 27), .ref (eS J F m D).1.length, .ref 0], S6) rfl ?_
        refine q_call (a := 1) (b := 34) hM rfl rfl (rx_o 10 g6.q (by decide) rfl) (ec_appS (s := 27) (lo2 := 18) (hi2 := 18) g6 (by decide) rfl rfl (by decide)) ?_
        rintro v S7 ⟨rfl, g7⟩
        refine q_go hM 2 (540, [some (.ref 0), some (.ref 99998), some (.int i), some (.int (z (a : Int))), some (.int (z (b : Int))), some (.int (z (c : Int)))], [.int (z 21), .int (z (c : Int)), .ref (eS J F m D).1.length, .ref 0], S7) rfl ?_
        refine q_gp hM 1 (541, [some (.ref 0), some (.ref 99998), some (.int i), some (.int (z (a : Int))), some (.int (z (b : Int))), some (.int (z (c : Int)))], [.int ((z (c : Int)) - (z (c : Int)) / z 21 * z 21), .ref (eS J F m D).1.length, .ref 0], S7) [¬ z 21 = 0] rfl (pm1 (by decide)) ?_
        rw [z_md (b := 21) (b' := 21) rfl (by omega)]
        refine q_call (a := 1) (b := 34) hM rfl rfl (rx_o 10 g7.q (by decide) rfl) (ec_app2 (m := c % 21) (lo2 := 19) (hi2 := 20) g7 (by omega) rfl rfl (by decide)) ?_
        rintro v S8 ⟨rfl, g8⟩
        refine q_call (a := 2) (b := 44) hM rfl rfl (rx_o 10 g8.q (by decide) rfl) (ec_toS g8 (by decide) (by decide) (by decide)) ?_
        rintro v S9 ⟨r, p, T, rfl, k1, k2, k3, k4, k5, k6, k7⟩
        refine q_go hM 1 (607, [some (.ref 0), some (.ref 99998), some (.int i), some (.int (z (a : Int))), some (.int (z (b : Int))), some (.int (z (c : Int)))], [.ref r, .ref 0], S9) rfl ?_
        exact q_mono (act_end (n := n) h hn hF hX hJ h0 k1 k2 k3 k4 k5 k6 (Nat.le_trans k7 (Nat.add_le_add_left (by decide) _))) (by decide) (by decide)
      · refine q_st hM 1 (550, [some (.ref 0), some (.ref 99998), some (.int i), some (.int (z (a : Int))), some (.int (z (b : Int))), some (.int (z (c : Int)))], [.ref 0], eS J F m D) rfl rfl (pm1 (show ¬ z ((c % 4 : Nat) : Int) = z 2 from zne (by omega))) ?_
        refine q_newSB hM rfl rfl rfl (by rw [show (eS J F m D).1.length = 113 + J.length from pmG0_app J]; omega) (fun S0 g0 => ?_)
        refine q_go hM 1 (559, [some (.ref 0), some (.ref 99998), some (.int i), some (.int (z (a : Int))), some (.int (z (b : Int))), some (.int (z (c : Int)))], [.ref (100000 + 28), .ref (eS J F m D).1.length, .ref 0], S0) rfl ?_
        refine q_call (a := 1) (b := 34) hM rfl rfl (rx_o 10 g0.q (by decide) rfl) (ec_appS (s := 28) (lo2 := 5) (hi2 := 5) g0 (by decide) rfl rfl (by decide)) ?_
        rintro v S1 ⟨rfl, g1⟩
        refine q_go hM 2 (566, [some (.ref 0), some (.ref 99998), some (.int i), some (.int (z (a : Int))), some (.int (z (b : Int))), some (.int (z (c : Int)))], [.int (z 8), .int (z (c : Int)), .ref (eS J F m D).1.length, .ref 0], S1) rfl ?_
        refine q_gp hM 1 (567, [some (.ref 0), some (.ref 99998), some (.int i), some (.int (z (a : Int))), some (.int (z (b : Int))), some (.int (z (c : Int)))], [.int ((z (c : Int)) - (z (c : Int)) / z 8 * z 8), .ref (eS J F m D).1.length, .ref 0], S1) [¬ z 8 = 0] rfl (pm1 (by decide)) ?_
        rw [z_md (b := 8) (b' := 8) rfl (by omega)]
        refine q_call (a := 1) (b := 34) hM rfl rfl (rx_o 10 g1.q (by decide) rfl) (ec_app1 (m := c % 8) (lo2 := 6) (hi2 := 6) g1 (by omega) rfl rfl (by decide)) ?_
        rintro v S2 ⟨rfl, g2⟩
        refine q_go hM 2 (574, [some (.ref 0), some (.ref 99998), some (.int i), some (.int (z (a : Int))), some (.int (z (b : Int))), some (.int (z (c : Int)))], [.int (z 8), .int (z (b : Int)), .ref (eS J F m D).1.length, .ref 0], S2) rfl ?_
        refine q_gp hM 1 (575, [some (.ref 0), some (.ref 99998), some (.int i), some (.int (z (a : Int))), some (.int (z (b : Int))), some (.int (z (c : Int)))], [.int ((z (b : Int)) - (z (b : Int)) / z 8 * z 8), .ref (eS J F m D).1.length, .ref 0], S2) [¬ z 8 = 0] rfl (pm1 (by decide)) ?_
        rw [z_md (b := 8) (b' := 8) rfl (by omega)]
        refine q_call (a := 1) (b := 34) hM rfl rfl (rx_o 10 g2.q (by decide) rfl) (ec_app1 (m := b % 8) (lo2 := 7) (hi2 := 7) g2 (by omega) rfl rfl (by decide)) ?_
        rintro v S3 ⟨rfl, g3⟩
        refine q_go hM 1 (580, [some (.ref 0), some (.ref 99998), some (.int i), some (.int (z (a : Int))), some (.int (z (b : Int))), some (.int (z (c : Int)))], [.ref (100000 + 29), .ref (eS J F m D).1.length, .ref 0], S3) rfl ?_
        refine q_call (a := 1) (b := 34) hM rfl rfl (rx_o 10 g3.q (by decide) rfl) (ec_appS (s := 29) (lo2 := 16) (hi2 := 16) g3 (by decide) rfl rfl (by decide)) ?_
        rintro v S4 ⟨rfl, g4⟩
        refine q_go hM 2 (587, [some (.ref 0), some (.ref 99998), some (.int i), some (.int (z (a : Int))), some (.int (z (b : Int))), some (.int (z (c : Int)))], [.int (z 6), .int (z (b : Int)), .ref (eS J F m D).1.length, .ref 0], S4) rfl ?_
        refine q_gp hM 1 (588, [some (.ref 0), some (.ref 99998), some (.int i), some (.int (z (a : Int))), some (.int (z (b : Int))), some (.int (z (c : Int)))], [.int ((z (b : Int)) - (z (b : Int)) / z 6 * z 6), .ref (eS J F m D).1.length, .ref 0], S4) [¬ z 6 = 0] rfl (pm1 (by decide)) ?_
        rw [z_md (b := 6) (b' := 6) rfl (by omega)]
        refine q_call (a := 1) (b := 34) hM rfl rfl (rx_o 10 g4.q (by decide) rfl) (ec_app1 (m := b % 6) (lo2 := 17) (hi2 := 17) g4 (by omega) rfl rfl (by decide)) ?_
        rintro v S5 ⟨rfl, g5⟩
        refine q_go hM 1 (593, [some (.ref 0), some (.ref 99998), some (.int i), some (.int (z (a : Int))), some (.int (z (b : Int))), some (.int (z (c : Int)))], [.ref (100000 + 21), .ref (eS J F m D).1.length, .ref 0], S5) rfl ?_
        refine q_call (a := 1) (b := 34) hM rfl rfl (rx_o 10 g5.q (by decide) rfl) (ec_appS (s := 21) (lo2 := 18) (hi2 := 18) g5 (by decide) rfl rfl (by decide)) ?_
        rintro v S6 ⟨rfl, g6⟩
        refine q_go hM 2 (598, [some (.ref 0), some (.ref 99998), some (.int i), some (.int (z (a : Int))), some (.int (z (b : Int))), some (.int (z (c : Int)))], [.int (z (a : Int)), .ref 0, .ref (eS J F m D).1.length, .ref 0], S6) rfl ?_
        refine q_call (a := 0) (b := 0) hM rfl rfl rx_s (ec_dan e1 g6.fr hF g6.le9) ?_ (Nat.zero_le _) (Nat.zero_le _)
        rintro v T1 ⟨rfl, rfl⟩
        refine q_call (a := 1) (b := 34) hM rfl rfl (rx_o 10 g6.q (by decide) rfl) (ec_app2 (m := t1) (lo2 := 19) (hi2 := 20) g6 (by omega) rfl rfl (by decide)) ?_
        rintro v S7 ⟨rfl, g7⟩
        refine q_call (a := 2) (b := 44) hM rfl rfl (rx_o 10 g7.q (by decide) rfl) (ec_toS g7 (by decide) (by decide) (by decide)) ?_
        rintro v S9 ⟨r, p, T, rfl, k1, k2, k3, k4, k5, k6, k7⟩
        exact q_mono (act_end (n := n) h hn hF hX hJ h0 k1 k2 k3 k4 k5 k6 (Nat.le_trans k7 (Nat.add_le_add_left (by decide) _))) (by decide) (by decide)
theorem acts_ok {i : Nat} (h : cInv m W) (hn : 200 ≤ n) (hi : i < 1000000) (hF : okF9 J F) (hX : aX (wA W) < 90) (hJ : J.length ≤ 1000) (h0 : wT W = 0) : EQ E 13 232 [.ref 0, .ref 99998, .int (z (i : Int))] (eS J F m D) 20 500 (AcQ W J F D) := by
  have hM := ML_acts
  obtain ⟨a, ha, ea⟩ := k_in (E := E) m (i + 1) (by omega) (b := 10) (by omega)
  obtain ⟨b, hb, eb⟩ := k_in (E := E) m (i + 2) (by omega) (b := 9) (by omega)
  obtain ⟨c, hc, ec⟩ := k_in (E := E) m (i + 3) (by omega) (b := 60) (by omega)
  obtain ⟨o, ho, eo⟩ := k_in (E := E) m i (by omega) (b := 28) (by omega)
  refine q_ev hM (Nat.le_of_ble_eq_true rfl) rfl ?_
  refine q_go hM 5 (6, [some (.ref 0), some (.ref 99998), some (.int (z (i : Int))), none, none, none], [.int (z ((10 : Nat) : Int)), .int (z (i : Int) + z ((1 : Nat) : Int)), .ref 99998], eS J F m D) rfl ?_
  rw [z_add, ← Int.natCast_add]
  refine q_call (a := 0) (b := 0) hM rfl rfl rx_s (ec_in ea hF (by decide)) ?_ (Nat.zero_le _) (Nat.zero_le _)
  rintro v S0 ⟨rfl, rfl⟩
  refine q_go hM 6 (16, [some (.ref 0), some (.ref 99998), some (.int (z (i : Int))), some (.int (z (a : Int))), none, none], [.int (z ((9 : Nat) : Int)), .int (z (i : Int) + z ((2 : Nat) : Int)), .ref 99998], eS J F m D) rfl ?_
  rw [z_add, ← Int.natCast_add]
  refine q_call (a := 0) (b := 0) hM rfl rfl rx_s (ec_in eb hF (by decide)) ?_ (Nat.zero_le _) (Nat.zero_le _)
  rintro v S1 ⟨rfl, rfl⟩
  refine q_go hM 6 (27, [some (.ref 0), some (.ref 99998), some (.int (z (i : Int))), some (.int (z (a : Int))), some (.int (z (b : Int))), none], [.int (z ((60 : Nat) : Int)), .int (z (i : Int) + z ((3 : Nat) : Int)), .ref 99998], eS J F m D) rfl ?_
  rw [z_add, ← Int.natCast_add]
  refine q_call (a := 0) (b := 0) hM rfl rfl rx_s (ec_in ec hF (by decide)) ?_ (Nat.zero_le _) (Nat.zero_le _)
  rintro v S2 ⟨rfl, rfl⟩
  refine q_go hM 4 (36, [some (.ref 0), some (.ref 99998), some (.int (z (i : Int))), some (.int (z (a : Int))), some (.int (z (b : Int))), some (.int (z (c : Int)))], [.int (z ((28 : Nat) : Int)), .int (z (i : Int)), .ref 99998], eS J F m D) rfl ?_
  refine q_call (a := 0) (b := 0) hM rfl rfl rx_s (ec_in eo hF (by decide)) ?_ (Nat.zero_le _) (Nat.zero_le _)
  rintro v S9 ⟨rfl, rfl⟩
  by_cases h25 : 25 ≤ o
  · exact q_st hM 25 (346, [some (.ref 0), some (.ref 99998), some (.int (z (i : Int))), some (.int (z (a : Int))), some (.int (z (b : Int))), some (.int (z (c : Int)))], [], eS J F m D) rfl rfl (pm1 (Or.inr (show 24 < (z (o : Int)).toInt by rw [z_toInt (by omega)]; omega))) (a_346 (n := n) h hn hF hX ha hb hc hJ h0)
  rcases (show o = 0 ∨ o = 1 ∨ o = 2 ∨ o = 3 ∨ o = 4 ∨ o = 5 ∨ o = 6 ∨ o = 7 ∨ o = 8 ∨ o = 9 ∨ o = 10 ∨ o = 11 ∨ o = 12 ∨ o = 13 ∨ o = 14 ∨ o = 15 ∨ o = 16 ∨ o = 17 ∨ o = 18 ∨ o = 19 ∨ o = 20 ∨ o = 21 ∨ o = 22 ∨ o = 23 ∨ o = 24 by omega) with rfl | rfl | rfl | rfl | rfl | rfl | rfl | rfl | rfl | rfl | rfl | rfl | rfl | rfl | rfl | rfl | rfl | rfl | rfl | rfl | rfl | rfl | rfl | rfl | rfl
  · exact q_st hM 0 (152, [some (.ref 0), some (.ref 99998), some (.int (z (i : Int))), some (.int (z (a : Int))), some (.int (z (b : Int))), some (.int (z (c : Int)))], [], eS J F m D) rfl rfl (pm1 (by decide)) (a_152 (n := n) h hn hF hX ha hb hc)
  · exact q_st hM 1 (152, [some (.ref 0), some (.ref 99998), some (.int (z (i : Int))), some (.int (z (a : Int))), some (.int (z (b : Int))), some (.int (z (c : Int)))], [], eS J F m D) rfl rfl (pm1 (by decide)) (a_152 (n := n) h hn hF hX ha hb hc)
  · exact q_st hM 2 (163, [some (.ref 0), some (.ref 99998), some (.int (z (i : Int))), some (.int (z (a : Int))), some (.int (z (b : Int))), some (.int (z (c : Int)))], [], eS J F m D) rfl rfl (pm1 (by decide)) (a_163 (n := n) h hn hF hX ha hb hc)
  · exact q_st hM 3 (175, [some (.ref 0), some (.ref 99998), some (.int (z (i : Int))), some (.int (z (a : Int))), some (.int (z (b : Int))), some (.int (z (c : Int)))], [], eS J F m D) rfl rfl (pm1 (by decide)) (a_175 (n := n) h hn hF hX ha hb hc)
  · exact q_st hM 4 (175, [some (.ref 0), some (.ref 99998), some (.int (z (i : Int))), some (.int (z (a : Int))), some (.int (z (b : Int))), some (.int (z (c : Int)))], [], eS J F m D) rfl rfl (pm1 (by decide)) (a_175 (n := n) h hn hF hX ha hb hc)
  · exact q_st hM 5 (175, [some (.ref 0), some (.ref 99998), some (.int (z (i : Int))), some (.int (z (a : Int))), some (.int (z (b : Int))), some (.int (z (c : Int)))], [], eS J F m D) rfl rfl (pm1 (by decide)) (a_175 (n := n) h hn hF hX ha hb hc)
  · exact q_st hM 6 (191, [some (.ref 0), some (.ref 99998), some (.int (z (i : Int))), some (.int (z (a : Int))), some (.int (z (b : Int))), some (.int (z (c : Int)))], [], eS J F m D) rfl rfl (pm1 (by decide)) (a_191 (n := n) h hn hF hX ha hb hc)
  · exact q_st hM 7 (201, [some (.ref 0), some (.ref 99998), some (.int (z (i : Int))), some (.int (z (a : Int))), some (.int (z (b : Int))), some (.int (z (c : Int)))], [], eS J F m D) rfl rfl (pm1 (by decide)) (a_201 (n := n) h hn hF hX ha hb hc)
  · exact q_st hM 8 (201, [some (.ref 0), some (.ref 99998), some (.int (z (i : Int))), some (.int (z (a : Int))), some (.int (z (b : Int))), some (.int (z (c : Int)))], [], eS J F m D) rfl rfl (pm1 (by decide)) (a_201 (n := n) h hn hF hX ha hb hc)
  · exact q_st hM 9 (217, [some (.ref 0), some (.ref 99998), some (.int (z (i : Int))), some (.int (z (a : Int))), some (.int (z (b : Int))), some (.int (z (c : Int)))], [], eS J F m D) rfl rfl (pm1 (by decide)) (a_217 (n := n) h hn hF hX ha hb hc)
  · exact q_st hM 10 (227, [some (.ref 0), some (.ref 99998), some (.int (z (i : Int))), some (.int (z (a : Int))), some (.int (z (b : Int))), some (.int (z (c : Int)))], [], eS J F m D) rfl rfl (pm1 (by decide)) (a_227 (n := n) h hn hF hX ha hb hc)
  · exact q_st hM 11 (227, [some (.ref 0), some (.ref 99998), some (.int (z (i : Int))), some (.int (z (a : Int))), some (.int (z (b : Int))), some (.int (z (c : Int)))], [], eS J F m D) rfl rfl (pm1 (by decide)) (a_227 (n := n) h hn hF hX ha hb hc)
  · exact q_st hM 12 (247, [some (.ref 0), some (.ref 99998), some (.int (z (i : Int))), some (.int (z (a : Int))), some (.int (z (b : Int))), some (.int (z (c : Int)))], [], eS J F m D) rfl rfl (pm1 (by decide)) (a_247 (n := n) h hn hF hX ha hb hc)
  · exact q_st hM 13 (257, [some (.ref 0), some (.ref 99998), some (.int (z (i : Int))), some (.int (z (a : Int))), some (.int (z (b : Int))), some (.int (z (c : Int)))], [], eS J F m D) rfl rfl (pm1 (by decide)) (a_257 (n := n) h hn hF hX ha hb hc)
  · exact q_st hM 14 (257, [some (.ref 0), some (.ref 99998), some (.int (z (i : Int))), some (.int (z (a : Int))), some (.int (z (b : Int))), some (.int (z (c : Int)))], [], eS J F m D) rfl rfl (pm1 (by decide)) (a_257 (n := n) h hn hF hX ha hb hc)
  · exact q_st hM 15 (257, [some (.ref 0), some (.ref 99998), some (.int (z (i : Int))), some (.int (z (a : Int))), some (.int (z (b : Int))), some (.int (z (c : Int)))], [], eS J F m D) rfl rfl (pm1 (by decide)) (a_257 (n := n) h hn hF hX ha hb hc)
  · exact q_st hM 16 (257, [some (.ref 0), some (.ref 99998), some (.int (z (i : Int))), some (.int (z (a : Int))), some (.int (z (b : Int))), some (.int (z (c : Int)))], [], eS J F m D) rfl rfl (pm1 (by decide)) (a_257 (n := n) h hn hF hX ha hb hc)
  · exact q_st hM 17 (272, [some (.ref 0), some (.ref 99998), some (.int (z (i : Int))), some (.int (z (a : Int))), some (.int (z (b : Int))), some (.int (z (c : Int)))], [], eS J F m D) rfl rfl (pm1 (by decide)) (a_272 (n := n) h hn hF hX ha hb hc)
  · exact q_st hM 18 (272, [some (.ref 0), some (.ref 99998), some (.int (z (i : Int))), some (.int (z (a : Int))), some (.int (z (b : Int))), some (.int (z (c : Int)))], [], eS J F m D) rfl rfl (pm1 (by decide)) (a_272 (n := n) h hn hF hX ha hb hc)
  · exact q_st hM 19 (272, [some (.ref 0), some (.ref 99998), some (.int (z (i : Int))), some (.int (z (a : Int))), some (.int (z (b : Int))), some (.int (z (c : Int)))], [], eS J F m D) rfl rfl (pm1 (by decide)) (a_272 (n := n) h hn hF hX ha hb hc)
  · exact q_st hM 20 (289, [some (.ref 0), some (.ref 99998), some (.int (z (i : Int))), some (.int (z (a : Int))), some (.int (z (b : Int))), some (.int (z (c : Int)))], [], eS J F m D) rfl rfl (pm1 (by decide)) (a_289 (n := n) h hn hF hX ha hb hc)
  · exact q_st hM 21 (299, [some (.ref 0), some (.ref 99998), some (.int (z (i : Int))), some (.int (z (a : Int))), some (.int (z (b : Int))), some (.int (z (c : Int)))], [], eS J F m D) rfl rfl (pm1 (by decide)) (a_299 (n := n) h hn hF hX ha hb hc)
  · exact q_st hM 22 (299, [some (.ref 0), some (.ref 99998), some (.int (z (i : Int))), some (.int (z (a : Int))), some (.int (z (b : Int))), some (.int (z (c : Int)))], [], eS J F m D) rfl rfl (pm1 (by decide)) (a_299 (n := n) h hn hF hX ha hb hc)
  · exact q_st hM 23 (311, [some (.ref 0), some (.ref 99998), some (.int (z (i : Int))), some (.int (z (a : Int))), some (.int (z (b : Int))), some (.int (z (c : Int)))], [], eS J F m D) rfl rfl (pm1 (by decide)) (a_311 (n := n) h hn hF hX ha hb hc)
  · exact q_st hM 24 (321, [some (.ref 0), some (.ref 99998), some (.int (z (i : Int))), some (.int (z (a : Int))), some (.int (z (b : Int))), some (.int (z (c : Int)))], [], eS J F m D) rfl rfl (pm1 (by decide)) (a_321 (n := n) h hn hF hX ha hb hc)
end TEXT
