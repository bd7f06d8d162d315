/-! the law's begun -/
/-- a call at the beginning -/
def Bg (e : Nat) (W : Wd) (o : Option (Int32 × pmI × Nat)) : Prop := ∃ t m' w W', o = some (z t, m', w) ∧ w ≤ 1 ∧ cInv m' W' ∧ (-900004 ≤ t ∧ t ≤ 1000000) ∧ wT W' = wT W ∧ ∀ k, wB W k → wB W' (k + e)
theorem bg_mut {e : Nat} {m : pmI} {W : Wd} {s : Int × Int × Ab} {ex : Int → Nat} {r : Option ((Int32 ⊕ Nat) × pmI)} {kr : Nat → pmI → Option (Int32 × pmI × Nat)} (h : cRes m W r s ex) (hx : aX s.2.2 ≤ aX (wA W) + e) (hv : s.1 = 0 → -1 ≤ s.2.1 ∧ s.2.1 ≤ 1000000)
    (hkr : ∀ m2, ¬ s.1 = 0 → ∃ t, (-900004 ≤ t ∧ t ≤ -900001) ∧ kr (ex s.1) m2 = some (z t, m2, 1)) : Bg e W (r.bind (oT (fun v1 m2 => some (v1, m2, 0)) kr)) := by
  obtain ⟨m', e1, -, i1⟩ := h
  rw [e1, obind]
  by_cases e0 : s.1 = 0
  · rw [if_pos e0, oT_l]
    rw [if_pos e0] at i1
    have := hv e0
    exact ⟨s.2.1, m', 0, _, rfl, by omega, i1, by omega, rfl, fun k hB => wB_put hB (Nat.le_trans hx (by have := hB.1; omega)) (by omega)⟩
  · rw [if_neg e0, oT_r]
    rw [if_neg e0] at i1
    obtain ⟨t, ht, h2⟩ := hkr m' e0
    rw [h2]
    exact ⟨t, m', 1, W, rfl, by omega, i1, by omega, rfl, fun k hB => wB_up hB (by omega)⟩
theorem x_sProp (A : Ab) (x y : Int) : aX (sProp A x y).2.2 ≤ aX A + 0 := by
  unfold sProp
  repeat' split
  all_goals exact Nat.le_refl _
theorem x_sAdd (A : Ab) (x y v : Int) : aX (sAdd A x y v).2.2 ≤ aX A + 1 := by
  unfold sAdd
  repeat' split
  all_goals first | exact Nat.le_refl _ | exact Nat.le_succ _
theorem x_sPair (A : Ab) (x y : Int) : aX (sPair A x y).2.2 ≤ aX A + 0 := by
  unfold sPair
  repeat' split
  all_goals exact Nat.le_refl _
theorem x_sAppend (A : Ab) (x y : Int) : aX (sAppend A x y).2.2 ≤ aX A + 0 := by
  unfold sAppend
  repeat' split
  all_goals exact Nat.le_refl _
theorem x_sOpen (A : Ab) (x y : Int) : aX (sOpen A x y).2.2 ≤ aX A + 0 := by
  unfold sOpen
  repeat' split
  all_goals exact Nat.le_refl _
section BGS
variable {n : Nat} {m : pmI} {W : Wd}
theorem b_addProp (h : cInv m W) (hn : 200 ≤ n) {x y : Int} (hx : -2147483648 ≤ x ∧ x < 2147483648) (hy : -2147483648 ≤ y ∧ y < 2147483648) : Bg 0 W (fL_addProp_0 n (z x) (z y) m) := by
  unfold fL_addProp_0
  have ok := ok_sProp (wA W) x y
  refine bg_mut (c_addProp (n := n) h (by omega) hx hy) (x_sProp _ _ _) (fun e => ?_) (fun m2 h0 => by rcases cd2 ok h0 with e | e <;> (rw [e]; exact ⟨_, (by decide), rfl⟩))
  have := h.2.1.2.2.2.2.2.2.2.2.2.1
  unfold sProp at e ⊢
  repeat' (split at e)
  all_goals first | (dsimp only at e; omega) | skip
  rename_i h1 h2
  rw [if_pos h1, if_neg h2]
  dsimp only
  omega
theorem b_addDancer (h : cInv m W) (hn : 200 ≤ n) {x y v : Int} (hx : -2147483648 ≤ x ∧ x < 2147483648) (hy : -2147483648 ≤ y ∧ y < 2147483648) (hv : -2147483648 ≤ v ∧ v < 2147483648) (hX : aX (wA W) < 1000000) : Bg 1 W (fL_addDancer_0 n (z x) (z y) (z v) m) := by
  unfold fL_addDancer_0
  have ok := ok_sAdd (wA W) x y v
  refine bg_mut (c_addDancer (n := n) h (by omega) hx hy hv hX) (x_sAdd _ _ _ _) (fun e => ?_) (fun m2 h0 => by rcases cd3 ok h0 with e | e | e <;> (rw [e]; exact ⟨_, (by decide), rfl⟩))
  unfold sAdd at e ⊢
  repeat' (split at e)
  all_goals first | (dsimp only at e; omega) | skip
  rename_i h1 h2 h3
  rw [if_pos h1, if_pos h2, if_neg h3]
  dsimp only
  omega
theorem b_pair (h : cInv m W) (hn : 200 ≤ n) {a b : Int} (ha : -2147483648 ≤ a ∧ a < 2147483648) (hb : -2147483648 ≤ b ∧ b < 2147483648) : Bg 0 W (fL_pair_0 n (z a) (z b) m) := by
  unfold fL_pair_0
  have ok := ok_sPair (wA W) a b
  refine bg_mut (c_pair (n := n) h (by omega) ha hb) (x_sPair _ _ _) (fun e => ?_) (fun m2 h0 => by rcases cd3 ok h0 with e | e | e <;> (rw [e]; exact ⟨_, (by decide), rfl⟩))
  have h8 := h.2.1.1
  unfold sPair at e ⊢
  repeat' (split at e)
  all_goals first | (dsimp only at e; omega) | skip
  rename_i i j h1 h2 h3 h4
  have := cnt_le (fun k => decide (¬ pPair (wA W) i j a b k = -1)) (aC (wA W))
  rw [if_neg h3, if_neg h4]
  dsimp only
  omega
theorem b_addMove (h : cInv m W) (hn : 200 ≤ n) {f c : Int} (hf : -2147483648 ≤ f ∧ f < 2147483648) (hc : -2147483648 ≤ c ∧ c < 2147483648) : Bg 0 W (fL_addMove_0 n (z f) (z c) m) := by
  unfold fL_addMove_0
  have ok := ok_sAppend (wA W) f c
  refine bg_mut (c_addMove (n := n) h (by omega) hf hc) (x_sAppend _ _ _) (fun e => ?_) (fun m2 h0 => by rcases cd3 ok h0 with e | e | e <;> (rw [e]; exact ⟨_, (by decide), rfl⟩))
  unfold sAppend at e ⊢
  repeat' (split at e)
  all_goals first | (dsimp only at e; omega) | skip
  rename_i h1 _ v hv h2
  rw [if_pos h1]
  rw [if_neg h2]
  have := (h.2.1.2.2.2.2.2.1 f.toNat (by
    have := figB_i h1
    omega)).1
  dsimp only
  omega
theorem b_addExit (h : cInv m W) (hn : 200 ≤ n) {x y : Int} (hx : -2147483648 ≤ x ∧ x < 2147483648) (hy : -2147483648 ≤ y ∧ y < 2147483648) : Bg 0 W (fL_addExit_0 n (z x) (z y) m) := by
  unfold fL_addExit_0
  have ok := ok_sOpen (wA W) x y
  refine bg_mut (c_addExit (n := n) h (by omega) hx hy) (x_sOpen _ _ _) (fun e => ?_) (fun m2 h0 => by rcases cd2 ok h0 with e | e <;> (rw [e]; exact ⟨_, (by decide), rfl⟩))
  have := h.2.1.2.2.2.2.2.2.1
  unfold sOpen at e ⊢
  repeat' (split at e)
  all_goals first | (dsimp only at e; omega) | skip
  rename_i h1 h2
  rw [if_pos h1, if_neg h2]
  dsimp only
  omega
end BGS
section BEG
variable {E : pmEv0} {n : Nat} {J : pmG} {F : pmM} {D : Nat → Nat → UInt64} {A B : Nat} {Q : Option Value → pmS → Prop}
theorem ec_bg {d d' t e : Nat} {m : pmI} {W : Wd} {as : List Value} {o : Option (Int32 × pmI × Nat)} (h : Bg e W o) (he : ∀ b, o = some b → pmEv Pg E d' t as (sst m D) (gL D b)) (hd : d' ≤ d) (has : okA as = true) (hF : okF9 J F) :
    EC E d t as (eS J F m D) 1 6 (fun v S' => ∃ x m' W', v = some (.int (z x)) ∧ S' = eS J F m' D ∧ cInv m' W' ∧ (-900004 ≤ x ∧ x ≤ 1000000) ∧ wT W' = wT W ∧ ∀ k, wB W k → wB W' (k + e)) := by
  obtain ⟨x, m', w, W', e, hw, i1, o1⟩ := h
  exact ⟨some (.int (z x)), eS J F m' D, w, 6 * w, Or.inr (calR_id (pmEv_le (he _ e) hd) has hF), by omega, by omega, x, m', W', rfl, rfl, i1, o1⟩
theorem k_inA (i : Nat) (hi : i < 2000000) {b : Nat} (hb : 0 < b ∧ b < 1000) : ∃ r : Nat, r < b ∧ ∀ m, fL_in_99998 E (z (i : Int)) (z (b : Int)) m = some (z (r : Int)) := by
  obtain ⟨r, h1, h2⟩ := k_in (E := E) (fun _ _ => 0, fun _ _ => 0) i hi hb
  exact ⟨r, h1, fun m => h2⟩
theorem ML_begun : MM 58 kL_begun (some (.object "StageBallet")) [] 4 := ⟨rfl, rfl, rfl, rfl⟩
/-- what holds while it is begun: c calls made -/
def BGi (c K : Nat) (nn : Int) (m : pmI) (W : Wd) : Prop := cInv m W ∧ wT W = 0 ∧ wB W K ∧ -900004 * (c : Int) ≤ nn ∧ nn ≤ 1000000 * (c : Int)
theorem BGi.next {c K e : Nat} {nn x : Int} {m m' : pmI} {W W' : Wd} (h : BGi c K nn m W) (i : cInv m' W') (hx : -900004 ≤ x ∧ x ≤ 1000000) (ht : wT W' = wT W) (hB : ∀ k, wB W k → wB W' (k + e)) : BGi (c + 1) (K + e) (nn + x) m' W' := by
  obtain ⟨h1, h2, h3, h4, h5⟩ := h
  refine ⟨i, ht.trans h2, hB K h3, ?_, ?_⟩
  · rw [Int.natCast_add]
    omega
  · rw [Int.natCast_add]
    omega
/-- props -/
theorem beg_1 (hn : 200 ≤ n) (hF : okF9 J F) {r0 : Nat} (hr0 : r0 < 15) (e0 : ∀ m, fL_in_99998 E (z ((0 : Nat) : Int)) (z ((15 : Nat) : Int)) m = some (z (r0 : Int)))
    (next : ∀ m W nn, BGi r0 0 nn m W → RQ E 12 58 (55, [some (.ref 99998), some (.ref 0), some (.int (z nn)), none], [], eS J F m D) A B Q) : ∀ (e k : Nat) (m : pmI) (W : Wd) (nn : Int), k + e = r0 → BGi k 0 nn m W →
    RQ E 12 58 (12, [some (.ref 99998), some (.ref 0), some (.int (z nn)), some (.int (z (k : Int)))], [], eS J F m D) (A + e) (B + 6 * e) Q
  | 0, k, m, W, nn, hk, hI => by
    have hM := ML_begun
    refine q_go hM 4 (17, [some (.ref 99998), some (.ref 0), some (.int (z nn)), some (.int (z (k : Int)))], [.int (z ((15 : Nat) : Int)), .int (z ((0 : Nat) : Int)), .ref 99998, .int (z (k : Int))], eS J F m D) rfl ?_
    refine q_call (a := 0) (b := 0) hM rfl rfl rx_s (ec_in (e0 m) hF (by decide)) ?_ (Nat.zero_le _) (Nat.zero_le _)
    rintro v S1 ⟨rfl, rfl⟩
    refine q_st hM 1 (55, [some (.ref 99998), some (.ref 0), some (.int (z nn)), some (.int (z (k : Int)))], [], eS J F m D) rfl rfl (pm1 (show z (r0 : Int) ≤ z (k : Int) from zle' (by omega))) ?_
    refine q_le hM (L' := [some (.ref 99998), some (.ref 0), some (.int (z nn)), none]) rfl ⟨rfl, rfl, rfl, trivial⟩ ?_
    have : k = r0 := by omega
    rw [this] at hI
    exact q_mono (next m W nn hI) (by omega) (by omega)
  | e + 1, k, m, W, nn, hk, hI => by
    have hM := ML_begun
    refine q_go hM 4 (17, [some (.ref 99998), some (.ref 0), some (.int (z nn)), some (.int (z (k : Int)))], [.int (z ((15 : Nat) : Int)), .int (z ((0 : Nat) : Int)), .ref 99998, .int (z (k : Int))], eS J F m D) rfl ?_
    refine q_call (a := 0) (b := 0) hM rfl rfl rx_s (ec_in (e0 m) hF (by decide)) ?_ (Nat.zero_le _) (Nat.zero_le _)
    rintro v S1 ⟨rfl, rfl⟩
    refine q_st hM 0 (23, [some (.ref 99998), some (.ref 0), some (.int (z nn)), some (.int (z (k : Int)))], [], eS J F m D) rfl rfl (pm1 (show ¬ z (r0 : Int) ≤ z (k : Int) from zgt' (by omega))) ?_
    obtain ⟨r1, h1, e1⟩ := k_in (E := E) m (1 + k) (by omega) (b := 8) (by omega)
    obtain ⟨r2, h2, e2⟩ := k_in (E := E) m (16 + k) (by omega) (b := 8) (by omega)
    refine q_go hM 7 (31, [some (.ref 99998), some (.ref 0), some (.int (z nn)), some (.int (z (k : Int)))], [.int (z ((8 : Nat) : Int)), .int (z ((1 : Nat) : Int) + z (k : Int)), .ref 99998, .ref 0, .int (z nn)], eS J F m D) rfl ?_
    rw [z_add, ← Int.natCast_add]
    refine q_call (a := 0) (b := 0) hM rfl rfl rx_s (ec_in e1 hF (by decide)) ?_ (Nat.zero_le _) (Nat.zero_le _)
    rintro v S2 ⟨rfl, rfl⟩
    refine q_go hM 5 (41, [some (.ref 99998), some (.ref 0), some (.int (z nn)), some (.int (z (k : Int)))], [.int (z ((8 : Nat) : Int)), .int (z ((16 : Nat) : Int) + z (k : Int)), .ref 99998, .int (z (r1 : Int)), .ref 0, .int (z nn)], eS J F m D) rfl ?_
    rw [z_add, ← Int.natCast_add]
    refine q_call (a := 0) (b := 0) hM rfl rfl rx_s (ec_in e2 hF (by decide)) ?_ (Nat.zero_le _) (Nat.zero_le _)
    rintro v S3 ⟨rfl, rfl⟩
    refine q_call (a := 1) (b := 6) hM rfl rfl rx_s6 (ec_bg (b_addProp hI.1 hn (by omega) (by omega)) (eL_addProp_0 n _ _ m D) (by decide) rfl hF) ?_ (by omega) (by omega)
    rintro v S4 ⟨x, m', W', rfl, rfl, i1, hx, ht, hB⟩
    refine q_go hM 4 (12, [some (.ref 99998), some (.ref 0), some (.int (z nn + z x)), some (.int (z (k : Int) + z 1))], [], eS J F m' D) rfl ?_
    rw [z_add, z_add, show (k : Int) + 1 = ((k + 1 : Nat) : Int) from rfl]
    exact q_mono (beg_1 hn hF hr0 e0 next e (k + 1) m' W' (nn + x) (by omega) (hI.next i1 hx ht hB)) (by omega) (by omega)
/-- dancers -/
theorem beg_2 (hn : 200 ≤ n) (hF : okF9 J F) {r0 c0 : Nat} (hr0 : r0 < 5) (e0 : ∀ m, fL_in_99998 E (z ((31 : Nat) : Int)) (z ((5 : Nat) : Int)) m = some (z (r0 : Int)))
    (next : ∀ m W nn, BGi (c0 + (2 + r0)) (2 + r0) nn m W → RQ E 12 58 (113, [some (.ref 99998), some (.ref 0), some (.int (z nn)), none], [], eS J F m D) A B Q) : ∀ (e k : Nat) (m : pmI) (W : Wd) (nn : Int), k + e = 2 + r0 → BGi (c0 + k) k nn m W →
    RQ E 12 58 (57, [some (.ref 99998), some (.ref 0), some (.int (z nn)), some (.int (z (k : Int)))], [], eS J F m D) (A + e) (B + 6 * e) Q
  | 0, k, m, W, nn, hk, hI => by
    have hM := ML_begun
    refine q_go hM 5 (63, [some (.ref 99998), some (.ref 0), some (.int (z nn)), some (.int (z (k : Int)))], [.int (z ((5 : Nat) : Int)), .int (z ((31 : Nat) : Int)), .ref 99998, .int (z ((2 : Nat) : Int)), .int (z (k : Int))], eS J F m D) rfl ?_
    refine q_call (a := 0) (b := 0) hM rfl rfl rx_s (ec_in (e0 m) hF (by decide)) ?_ (Nat.zero_le _) (Nat.zero_le _)
    rintro v S1 ⟨rfl, rfl⟩
    refine q_go hM 1 (67, [some (.ref 99998), some (.ref 0), some (.int (z nn)), some (.int (z (k : Int)))], [.int (z ((2 : Nat) : Int) + z (r0 : Int)), .int (z (k : Int))], eS J F m D) rfl ?_
    rw [z_add, ← Int.natCast_add]
    refine q_st hM 1 (113, [some (.ref 99998), some (.ref 0), some (.int (z nn)), some (.int (z (k : Int)))], [], eS J F m D) rfl rfl (pm1 (show z ((2 + r0 : Nat) : Int) ≤ z (k : Int) from zle' (by omega))) ?_
    refine q_le hM (L' := [some (.ref 99998), some (.ref 0), some (.int (z nn)), none]) rfl ⟨rfl, rfl, rfl, trivial⟩ ?_
    have : k = 2 + r0 := by omega
    rw [this] at hI
    exact q_mono (next m W nn hI) (by omega) (by omega)
  | e + 1, k, m, W, nn, hk, hI => by
    have hM := ML_begun
    refine q_go hM 5 (63, [some (.ref 99998), some (.ref 0), some (.int (z nn)), some (.int (z (k : Int)))], [.int (z ((5 : Nat) : Int)), .int (z ((31 : Nat) : Int)), .ref 99998, .int (z ((2 : Nat) : Int)), .int (z (k : Int))], eS J F m D) rfl ?_
    refine q_call (a := 0) (b := 0) hM rfl rfl rx_s (ec_in (e0 m) hF (by decide)) ?_ (Nat.zero_le _) (Nat.zero_le _)
    rintro v S1 ⟨rfl, rfl⟩
    refine q_go hM 1 (67, [some (.ref 99998), some (.ref 0), some (.int (z nn)), some (.int (z (k : Int)))], [.int (z ((2 : Nat) : Int) + z (r0 : Int)), .int (z (k : Int))], eS J F m D) rfl ?_
    rw [z_add, ← Int.natCast_add]
    refine q_st hM 0 (70, [some (.ref 99998), some (.ref 0), some (.int (z nn)), some (.int (z (k : Int)))], [], eS J F m D) rfl rfl (pm1 (show ¬ z ((2 + r0 : Nat) : Int) ≤ z (k : Int) from zgt' (by omega))) ?_
    obtain ⟨r1, h1, e1⟩ := k_in (E := E) m (32 + k) (by omega) (b := 8) (by omega)
    obtain ⟨r2, h2, e2⟩ := k_in (E := E) m (39 + k) (by omega) (b := 8) (by omega)
    obtain ⟨r3, h3, e3⟩ := k_in (E := E) m (46 + k) (by omega) (b := 21) (by omega)
    refine q_go hM 7 (79, [some (.ref 99998), some (.ref 0), some (.int (z nn)), some (.int (z (k : Int)))], [.int (z ((8 : Nat) : Int)), .int (z ((32 : Nat) : Int) + z (k : Int)), .ref 99998, .ref 0, .int (z nn)], eS J F m D) rfl ?_
    rw [z_add, ← Int.natCast_add]
    refine q_call (a := 0) (b := 0) hM rfl rfl rx_s (ec_in e1 hF (by decide)) ?_ (Nat.zero_le _) (Nat.zero_le _)
    rintro v S2 ⟨rfl, rfl⟩
    refine q_go hM 5 (89, [some (.ref 99998), some (.ref 0), some (.int (z nn)), some (.int (z (k : Int)))], [.int (z ((8 : Nat) : Int)), .int (z ((39 : Nat) : Int) + z (k : Int)), .ref 99998, .int (z (r1 : Int)), .ref 0, .int (z nn)], eS J F m D) rfl ?_
    rw [z_add, ← Int.natCast_add]
    refine q_call (a := 0) (b := 0) hM rfl rfl rx_s (ec_in e2 hF (by decide)) ?_ (Nat.zero_le _) (Nat.zero_le _)
    rintro v S3 ⟨rfl, rfl⟩
    refine q_go hM 5 (99, [some (.ref 99998), some (.ref 0), some (.int (z nn)), some (.int (z (k : Int)))], [.int (z ((21 : Nat) : Int)), .int (z ((46 : Nat) : Int) + z (k : Int)), .ref 99998, .int (z (r2 : Int)), .int (z (r1 : Int)), .ref 0, .int (z nn)], eS J F m D) rfl ?_
    rw [z_add, ← Int.natCast_add]
    refine q_call (a := 0) (b := 0) hM rfl rfl rx_s (ec_in e3 hF (by decide)) ?_ (Nat.zero_le _) (Nat.zero_le _)
    rintro v S4 ⟨rfl, rfl⟩
    have hX := hI.2.2.1.1
    refine q_call (a := 1) (b := 6) hM rfl rfl rx_s6 (ec_bg (b_addDancer hI.1 hn (by omega) (by omega) (by omega) (by omega)) (eL_addDancer_0 n _ _ _ m D) (by decide) rfl hF) ?_ (by omega) (by omega)
    rintro v S5 ⟨x, m', W', rfl, rfl, i1, hx, ht, hB⟩
    refine q_go hM 4 (57, [some (.ref 99998), some (.ref 0), some (.int (z nn + z x)), some (.int (z (k : Int) + z 1))], [], eS J F m' D) rfl ?_
    rw [z_add, z_add, show (k : Int) + 1 = ((k + 1 : Nat) : Int) from rfl]
    exact q_mono (beg_2 hn hF hr0 e0 next e (k + 1) m' W' (nn + x) (by omega) (hI.next i1 hx ht hB)) (by omega) (by omega)
/-- moves -/
theorem beg_3 (hn : 200 ≤ n) (hF : okF9 J F) {c0 K : Nat}
    (next : ∀ m W nn, BGi (c0 + 18) K nn m W → RQ E 12 58 (168, [some (.ref 99998), some (.ref 0), some (.int (z nn)), none], [], eS J F m D) A B Q) : ∀ (e k : Nat) (m : pmI) (W : Wd) (nn : Int), k + e = 18 → BGi (c0 + k) K nn m W →
    RQ E 12 58 (131, [some (.ref 99998), some (.ref 0), some (.int (z nn)), some (.int (z (k : Int)))], [], eS J F m D) (A + e) (B + 6 * e) Q
  | 0, k, m, W, nn, hk, hI => by
    have hM := ML_begun
    refine q_go hM 2 (134, [some (.ref 99998), some (.ref 0), some (.int (z nn)), some (.int (z (k : Int)))], [.int (z 18), .int (z (k : Int))], eS J F m D) rfl ?_
    refine q_st hM 1 (168, [some (.ref 99998), some (.ref 0), some (.int (z nn)), some (.int (z (k : Int)))], [], eS J F m D) rfl rfl (pm1 (show z 18 ≤ z (k : Int) from zle' (by omega))) ?_
    refine q_le hM (L' := [some (.ref 99998), some (.ref 0), some (.int (z nn)), none]) rfl ⟨rfl, rfl, rfl, trivial⟩ ?_
    have : k = 18 := by omega
    rw [this] at hI
    exact q_mono (next m W nn hI) (by omega) (by omega)
  | e + 1, k, m, W, nn, hk, hI => by
    have hM := ML_begun
    refine q_go hM 2 (134, [some (.ref 99998), some (.ref 0), some (.int (z nn)), some (.int (z (k : Int)))], [.int (z 18), .int (z (k : Int))], eS J F m D) rfl ?_
    refine q_st hM 0 (137, [some (.ref 99998), some (.ref 0), some (.int (z nn)), some (.int (z (k : Int)))], [], eS J F m D) rfl rfl (pm1 (show ¬ z 18 ≤ z (k : Int) from zgt' (by omega))) ?_
    obtain ⟨r1, h1, e1⟩ := k_in (E := E) m (53 + k) (by omega) (b := 5) (by omega)
    refine q_gp hM 5 (143, [some (.ref 99998), some (.ref 0), some (.int (z nn)), some (.int (z (k : Int)))], [.int (z (k : Int) - z (k : Int) / z 6 * z 6), .ref 0, .int (z nn)], eS J F m D) [¬ z 6 = 0] rfl (pm1 (by decide)) ?_
    rw [z_md (b := 6) (b' := 6) rfl (by omega)]
    refine q_go hM 6 (151, [some (.ref 99998), some (.ref 0), some (.int (z nn)), some (.int (z (k : Int)))], [.int (z ((5 : Nat) : Int)), .int (z ((53 : Nat) : Int) + z (k : Int)), .ref 99998, .ref (100000 + 17), .int (z ((k % 6 : Nat) : Int)), .ref 0, .int (z nn)], eS J F m D) rfl ?_
    rw [z_add, ← Int.natCast_add]
    refine q_call (a := 0) (b := 0) hM rfl rfl rx_s (ec_in e1 hF (by decide)) ?_ (Nat.zero_le _) (Nat.zero_le _)
    rintro v S2 ⟨rfl, rfl⟩
    obtain ⟨x, hx⟩ : ∃ x, (pmStB 17)[r1]? = some x := ⟨_, List.getElem?_eq_getElem (show r1 < (pmStB 17).length from h1)⟩
    obtain ⟨-, -, ch, hch, rfl⟩ := chr_st (s := 17) (by decide) (List.mem_of_getElem? hx)
    refine q_call (a := 0) (b := 0) hM rfl rfl (rx_l (s := 17) (by decide) rfl) ((e_charAtL (d := 8) (s := 17) (hF.le m D) (by decide) hx).ec) ?_ (Nat.zero_le _) (Nat.zero_le _)
    rintro v S3 ⟨rfl, rfl⟩
    refine q_call (a := 1) (b := 6) hM rfl rfl rx_s6 (ec_bg (b_addMove hI.1 hn (by omega) (by omega)) (eL_addMove_0 n _ _ m D) (by decide) rfl hF) ?_ (by omega) (by omega)
    rintro v S4 ⟨x, m', W', rfl, rfl, i1, hx, ht, hB⟩
    refine q_go hM 4 (131, [some (.ref 99998), some (.ref 0), some (.int (z nn + z x)), some (.int (z (k : Int) + z 1))], [], eS J F m' D) rfl ?_
    rw [z_add, z_add, show (k : Int) + 1 = ((k + 1 : Nat) : Int) from rfl]
    exact q_mono (beg_3 hn hF next e (k + 1) m' W' (nn + x) (by omega) (hI.next i1 hx ht hB)) (by omega) (by omega)
/-- exits -/
theorem beg_4 (hn : 200 ≤ n) (hF : okF9 J F) {r0 c0 K : Nat} (hr0 : r0 < 5) (e0 : ∀ m, fL_in_99998 E (z ((71 : Nat) : Int)) (z ((5 : Nat) : Int)) m = some (z (r0 : Int)))
    (next : ∀ m W nn, BGi (c0 + (2 + r0)) K nn m W → RQ E 12 58 (232, [some (.ref 99998), some (.ref 0), some (.int (z nn)), none], [], eS J F m D) A B Q) : ∀ (e k : Nat) (m : pmI) (W : Wd) (nn : Int), k + e = 2 + r0 → BGi (c0 + k) K nn m W →
    RQ E 12 58 (170, [some (.ref 99998), some (.ref 0), some (.int (z nn)), some (.int (z (k : Int)))], [], eS J F m D) (A + e) (B + 6 * e) Q
  | 0, k, m, W, nn, hk, hI => by
    have hM := ML_begun
    refine q_go hM 5 (176, [some (.ref 99998), some (.ref 0), some (.int (z nn)), some (.int (z (k : Int)))], [.int (z ((5 : Nat) : Int)), .int (z ((71 : Nat) : Int)), .ref 99998, .int (z ((2 : Nat) : Int)), .int (z (k : Int))], eS J F m D) rfl ?_
    refine q_call (a := 0) (b := 0) hM rfl rfl rx_s (ec_in (e0 m) hF (by decide)) ?_ (Nat.zero_le _) (Nat.zero_le _)
    rintro v S1 ⟨rfl, rfl⟩
    refine q_go hM 1 (180, [some (.ref 99998), some (.ref 0), some (.int (z nn)), some (.int (z (k : Int)))], [.int (z ((2 : Nat) : Int) + z (r0 : Int)), .int (z (k : Int))], eS J F m D) rfl ?_
    rw [z_add, ← Int.natCast_add]
    refine q_st hM 1 (232, [some (.ref 99998), some (.ref 0), some (.int (z nn)), some (.int (z (k : Int)))], [], eS J F m D) rfl rfl (pm1 (show z ((2 + r0 : Nat) : Int) ≤ z (k : Int) from zle' (by omega))) ?_
    refine q_le hM (L' := [some (.ref 99998), some (.ref 0), some (.int (z nn)), none]) rfl ⟨rfl, rfl, rfl, trivial⟩ ?_
    have : k = 2 + r0 := by omega
    rw [this] at hI
    exact q_mono (next m W nn hI) (by omega) (by omega)
  | e + 1, k, m, W, nn, hk, hI => by
    have hM := ML_begun
    refine q_go hM 5 (176, [some (.ref 99998), some (.ref 0), some (.int (z nn)), some (.int (z (k : Int)))], [.int (z ((5 : Nat) : Int)), .int (z ((71 : Nat) : Int)), .ref 99998, .int (z ((2 : Nat) : Int)), .int (z (k : Int))], eS J F m D) rfl ?_
    refine q_call (a := 0) (b := 0) hM rfl rfl rx_s (ec_in (e0 m) hF (by decide)) ?_ (Nat.zero_le _) (Nat.zero_le _)
    rintro v S1 ⟨rfl, rfl⟩
    refine q_go hM 1 (180, [some (.ref 99998), some (.ref 0), some (.int (z nn)), some (.int (z (k : Int)))], [.int (z ((2 : Nat) : Int) + z (r0 : Int)), .int (z (k : Int))], eS J F m D) rfl ?_
    rw [z_add, ← Int.natCast_add]
    refine q_st hM 0 (183, [some (.ref 99998), some (.ref 0), some (.int (z nn)), some (.int (z (k : Int)))], [], eS J F m D) rfl rfl (pm1 (show ¬ z ((2 + r0 : Nat) : Int) ≤ z (k : Int) from zgt' (by omega))) ?_
    obtain ⟨r1, h1, e1⟩ := k_in (E := E) m (72 + k) (by omega) (b := 8) (by omega)
    obtain ⟨r2, h2, e2⟩ := k_in (E := E) m (78 + k) (by omega) (b := 2) (by omega)
    obtain ⟨r3, h3, e3⟩ := k_in (E := E) m (84 + k) (by omega) (b := 8) (by omega)
    -- the call and the rest of the round
    have rest : ∀ y : Nat, y < 8 → RQ E 12 58 (221, [some (.ref 99998), some (.ref 0), some (.int (z nn)), some (.int (z (k : Int)))], [.int (z (y : Int)), .int (z (r1 : Int)), .ref 0, .int (z nn)], eS J F m D) (A + (e + 1)) (B + 6 * (e + 1)) Q := by
      intro y hy
      refine q_call (a := 1) (b := 6) hM rfl rfl rx_s6 (ec_bg (b_addExit hI.1 hn (by omega) (by omega)) (eL_addExit_0 n _ _ m D) (by decide) rfl hF) ?_ (by omega) (by omega)
      rintro v S5 ⟨x, m', W', rfl, rfl, i1, hx, ht, hB⟩
      refine q_go hM 4 (170, [some (.ref 99998), some (.ref 0), some (.int (z nn + z x)), some (.int (z (k : Int) + z 1))], [], eS J F m' D) rfl ?_
      rw [z_add, z_add, show (k : Int) + 1 = ((k + 1 : Nat) : Int) from rfl]
      exact q_mono (beg_4 hn hF hr0 e0 next e (k + 1) m' W' (nn + x) (by omega) (hI.next i1 hx ht hB)) (by omega) (by omega)
    refine q_go hM 7 (192, [some (.ref 99998), some (.ref 0), some (.int (z nn)), some (.int (z (k : Int)))], [.int (z ((8 : Nat) : Int)), .int (z ((72 : Nat) : Int) + z (k : Int)), .ref 99998, .ref 0, .int (z nn)], eS J F m D) rfl ?_
    rw [z_add, ← Int.natCast_add]
    refine q_call (a := 0) (b := 0) hM rfl rfl rx_s (ec_in e1 hF (by decide)) ?_ (Nat.zero_le _) (Nat.zero_le _)
    rintro v S2 ⟨rfl, rfl⟩
    refine q_go hM 5 (201, [some (.ref 99998), some (.ref 0), some (.int (z nn)), some (.int (z (k : Int)))], [.int (z ((2 : Nat) : Int)), .int (z ((78 : Nat) : Int) + z (k : Int)), .ref 99998, .int (z (r1 : Int)), .ref 0, .int (z nn)], eS J F m D) rfl ?_
    rw [z_add, ← Int.natCast_add]
    refine q_call (a := 0) (b := 0) hM rfl rfl rx_s (ec_in e2 hF (by decide)) ?_ (Nat.zero_le _) (Nat.zero_le _)
    rintro v S3 ⟨rfl, rfl⟩
    by_cases hz : r2 = 0
    · refine q_st hM 0 (207, [some (.ref 99998), some (.ref 0), some (.int (z nn)), some (.int (z (k : Int)))], [.int (z (r1 : Int)), .ref 0, .int (z nn)], eS J F m D) rfl rfl (pm1 (show ¬ ¬ z (r2 : Int) = 0 from fun g => g (by rw [hz]; rfl))) ?_
      refine q_go hM 2 (221, [some (.ref 99998), some (.ref 0), some (.int (z nn)), some (.int (z (k : Int)))], [.int (z ((0 : Nat) : Int)), .int (z (r1 : Int)), .ref 0, .int (z nn)], eS J F m D) rfl ?_
      exact q_mono (rest 0 (by omega)) (by omega) (by omega)
    · refine q_st hM 1 (211, [some (.ref 99998), some (.ref 0), some (.int (z nn)), some (.int (z (k : Int)))], [.int (z (r1 : Int)), .ref 0, .int (z nn)], eS J F m D) rfl rfl (pm1 (show ¬ z (r2 : Int) = z 0 from zne (by omega))) ?_
      refine q_go hM 5 (218, [some (.ref 99998), some (.ref 0), some (.int (z nn)), some (.int (z (k : Int)))], [.int (z ((8 : Nat) : Int)), .int (z ((84 : Nat) : Int) + z (k : Int)), .ref 99998, .int (z (r1 : Int)), .ref 0, .int (z nn)], eS J F m D) rfl ?_
      rw [z_add, ← Int.natCast_add]
      refine q_call (a := 0) (b := 0) hM rfl rfl rx_s (ec_in e3 hF (by decide)) ?_ (Nat.zero_le _) (Nat.zero_le _)
      rintro v S4 ⟨rfl, rfl⟩
      exact q_mono (rest r3 h3) (by omega) (by omega)
end BEG
