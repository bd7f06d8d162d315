/-! the law's does: a text typed and run -/
theorem OcW.of {W W1 W' : Wd} {t : Int} (h : OcW W1 t W') (hA : wA W1 = wA W) (hH : wH W1 = wH W) (hS : wS W1 = wS W) (hT : wT W' = 0) : OcW W t W' := by
  obtain ⟨-, h2, h3⟩ := h
  refine ⟨fun _ => hT, h2.trans hS, ?_⟩
  rw [hA, hH] at h3
  exact h3
section DOES
variable {E : pmEv0} {n : Nat} {J : pmG} {F : pmM} {m : pmI} {D : Nat → Nat → UInt64} {W : Wd}
theorem o_run (h : cInv m W) (hn : 200 ≤ n) (hX : aX (wA W) < 999000) : ∃ t m' w W', fL_run_0 n m = some (z t, m', w) ∧ w ≤ 1 ∧ cInv m' W' ∧ OcW W t W' ∧ wT W' = 0 := by
  have ht : tOk (wT W) (wTf W) := ⟨h.2.2.2.2.1.1, fun k hk => (h.2.2.2.2.1.2.2 k hk).2⟩
  obtain ⟨hc, hW⟩ := c_run (n := n) h (by omega) hX
  obtain ⟨m', e1, -, i1⟩ := hc
  unfold fL_run_0
  rw [e1, obind]
  have h0 : wT (rRun W).2 = 0 := by
    unfold rRun
    split
    · split <;> rfl
    · rfl
  have hs : wS (rRun W).2 = wS W := by
    unfold rRun
    split
    · split <;> rfl
    · rfl
  unfold rRun at i1 h0 hs ⊢
  by_cases ok : (prog (wT W) (wTf W)).1 = true
  · rw [if_pos ok] at i1 h0 hs ⊢
    obtain ⟨k1, k2⟩ := prog_ok ht.1 ok
    cases hr : runL (wTf W) (prog (wT W) (wTf W)).2.2 0 (wA W) with
    | inl B =>
      rw [hr] at i1 h0 hs
      have hx := runL_x _ _ _ _ _ h.2.1 (hW ok) hr
      dsimp only at i1 h0 hs ⊢
      rw [if_pos rfl, oT_l]
      exact ⟨_, m', 0, _, rfl, by omega, i1, ⟨fun _ => h0, hs, Or.inl ⟨⟨by omega, rfl⟩, show aX B ≤ aX (wA W) + 10 by omega⟩⟩, h0⟩
    | inr k =>
      rw [hr] at i1 h0 hs
      dsimp only at i1 h0 hs ⊢
      rw [if_neg (by decide), oT_r]
      exact ⟨-900002, m', 1, _, rfl, by omega, i1, ⟨fun _ => h0, hs, Or.inr ⟨by omega, rfl, rfl⟩⟩, h0⟩
  · rw [if_neg ok] at i1 h0 hs ⊢
    dsimp only at i1 h0 hs ⊢
    rw [if_neg (by decide), oT_r]
    exact ⟨-900001, m', 1, _, rfl, by omega, i1, ⟨fun _ => h0, hs, Or.inr ⟨by omega, rfl, rfl⟩⟩, h0⟩
theorem mix_hi {α : Type} {f g : Nat → Nat → α} {i : Nat} (h : 113 ≤ i) : mixR f g i = g i := by
  funext k
  exact if_neg (by omega)
theorem str_m {r p : Nat} {T : List Int32} {m2 : pmI} (h : STR (eS J F m D) r p T) (hr : 113 ≤ r) (hp : 113 ≤ p) : STR (eS J F m2 D) r p T := by
  obtain ⟨h1, h2, h3, h4, h5⟩ := h
  have e1 : ∀ i, 113 ≤ i → (eS J F m2 D).2.1 i = (eS J F m D).2.1 i := fun i hi => (mix_hi hi).trans (mix_hi hi).symm
  refine ⟨h1, h2, h3, ?_, fun i x hx => ?_⟩
  · rw [e1 r hr]
    exact h4
  · rw [e1 p hp]
    exact h5 i x hx
theorem ML_does : MM 231 kL_does (some .int) [] 4 := ⟨rfl, rfl, rfl, rfl⟩
/-- what does comes to -/
def DoQ (W : Wd) (J : pmG) (F : pmM) (D : Nat → Nat → UInt64) (v : Option Value) (S' : pmS) : Prop := ∃ t m' W', v = some (.int (z t)) ∧ S' = eS J F m' D ∧ cInv m' W' ∧ OcW W t W'
theorem does_from {r p : Nat} {T : List Int32} (hn : 200 ≤ n) (hF : okF9 J F) (hr : 113 ≤ r) (hp : 113 ≤ p) (hT : T.length ≤ 40) (hC : ∀ x, x ∈ T → CHr x) (hX : aX (wA W) < 900) : ∀ (e k s : Nat) (m : pmI) (W1 : Wd), k + e = T.length → s ≤ 60 * k → STR (eS J F m D) r p T → cInv m W1 → wT W1 = k → wA W1 = wA W → wH W1 = wH W → wS W1 = wS W →
    RQ E 11 231 (4, [some (.ref 0), some (.ref r), some (.int (z (s : Int))), some (.int (z (k : Int)))], [], eS J F m D) 1 6 (DoQ W J F D)
  | 0, k, s, m, W1, hk, hs, hS, h, wt, wa, wh, ws => by
    have hM := ML_does
    refine q_go hM 2 (6, [some (.ref 0), some (.ref r), some (.int (z (s : Int))), some (.int (z (k : Int)))], [.ref r, .int (z (k : Int))], eS J F m D) rfl ?_
    refine q_call (a := 0) (b := 0) hM rfl rfl (rx_o 9 hS.1 (by decide) rfl) (e_lengthM (d := 9) (hF.le m D) hS).ec ?_ (Nat.zero_le _) (Nat.zero_le _)
    rintro v S' ⟨rfl, rfl⟩
    refine q_st hM 1 (30, [some (.ref 0), some (.ref r), some (.int (z (s : Int))), some (.int (z (k : Int)))], [], eS J F m D) rfl rfl (pm1 (show z (T.length : Int) ≤ z (k : Int) from zle' (by omega))) ?_
    refine q_go hM 1 (31, [some (.ref 0), some (.ref r), some (.int (z (s : Int))), some (.int (z (k : Int)))], [.int (z (s : Int))], eS J F m D) rfl ?_
    refine q_st hM 1 (39, [some (.ref 0), some (.ref r), some (.int (z (s : Int))), some (.int (z (k : Int)))], [], eS J F m D) rfl rfl (pm1 (show z 0 ≤ z (s : Int) from zle' (by omega))) ?_
    refine q_go hM 1 (40, [some (.ref 0), some (.ref r), some (.int (z (s : Int))), some (.int (z (k : Int)))], [.ref 0], eS J F m D) rfl ?_
    obtain ⟨t, m', w, W', e1, hw, i1, o1, t0⟩ := o_run (n := n) h hn (by rw [wa]; omega)
    refine q_call (a := 1) (b := 6) hM rfl rfl rx_s6 (ec_v (A := 1) (B := 6) e1 (eL_run_0 n m D) (by decide) rfl hF hw (by omega)) ?_
    rintro v S' ⟨rfl, rfl⟩
    exact q_ret hM rfl rfl trivial ⟨t, m', W', rfl, rfl, i1, o1.of wa wh ws t0⟩
  | e + 1, k, s, m, W1, hk, hs, hS, h, wt, wa, wh, ws => by
    have hM := ML_does
    have hkT : k < T.length := by omega
    obtain ⟨x, hx⟩ : ∃ x, T[k]? = some x := ⟨_, List.getElem?_eq_getElem hkT⟩
    have hcx := hC x (List.mem_of_getElem? hx)
    obtain ⟨c, hc, ex⟩ := hcx.2.2
    refine q_go hM 2 (6, [some (.ref 0), some (.ref r), some (.int (z (s : Int))), some (.int (z (k : Int)))], [.ref r, .int (z (k : Int))], eS J F m D) rfl ?_
    refine q_call (a := 0) (b := 0) hM rfl rfl (rx_o 9 hS.1 (by decide) rfl) (e_lengthM (d := 9) (hF.le m D) hS).ec ?_ (Nat.zero_le _) (Nat.zero_le _)
    rintro v S' ⟨rfl, rfl⟩
    refine q_st hM 0 (12, [some (.ref 0), some (.ref r), some (.int (z (s : Int))), some (.int (z (k : Int)))], [], eS J F m D) rfl rfl (pm1 (show ¬ z (T.length : Int) ≤ z (k : Int) from zgt' (by omega))) ?_
    refine q_go hM 4 (16, [some (.ref 0), some (.ref r), some (.int (z (s : Int))), some (.int (z (k : Int)))], [.int (z (k : Int)), .ref r, .ref 0, .int (z (s : Int))], eS J F m D) rfl ?_
    refine q_call (a := 0) (b := 0) hM rfl rfl (rx_o 9 hS.1 (by decide) rfl) (e_charAtM (d := 7) (hF.le m D) hS (by omega) hx hcx).ec ?_ (Nat.zero_le _) (Nat.zero_le _)
    rintro v S' ⟨rfl, rfl⟩
    rw [ex]
    obtain ⟨m', e1, i1⟩ := k_type h (by omega) (c := c) (by omega)
    refine q_call (a := 0) (b := 0) (P := fun v S' => v = some (.int (z ((wT W1 + 1 : Nat) : Int))) ∧ S' = eS J F m' D) hM rfl rfl (rx_o 8 rfl (by decide) rfl) ⟨_, eS J F m' D, 0, 0, Or.inr (calR_id (pmEv_le (eX8_type _ m D _ e1) (by decide)) rfl hF), Nat.le_refl _, Nat.le_refl _, rfl, rfl⟩ ?_ (Nat.zero_le _) (Nat.zero_le _)
    rintro v S' ⟨rfl, rfl⟩
    refine q_go hM 4 (4, [some (.ref 0), some (.ref r), some (.int (z (s : Int) + z ((wT W1 + 1 : Nat) : Int))), some (.int (z (k : Int) + z 1))], [], eS J F m' D) rfl ?_
    rw [z_add, z_add, show (k : Int) + 1 = ((k + 1 : Nat) : Int) from rfl, show (s : Int) + ((wT W1 + 1 : Nat) : Int) = ((s + (wT W1 + 1) : Nat) : Int) from rfl]
    exact does_from hn hF hr hp hT hC hX e (k + 1) (s + (wT W1 + 1)) m' (wTy W1 c) (by omega) (by omega) (str_m hS hr hp) i1 (show wT W1 + 1 = k + 1 by omega) wa wh ws
theorem does_ok {r p : Nat} {T : List Int32} (h : cInv m W) (hn : 200 ≤ n) (hF : okF9 J F) (hr : 113 ≤ r) (hp : 113 ≤ p) (hT : T.length ≤ 40) (hC : ∀ x, x ∈ T → CHr x) (hX : aX (wA W) < 900) (hS : STR (eS J F m D) r p T) (h0 : wT W = 0) : EQ E 12 231 [.ref 0, .ref r] (eS J F m D) 1 6 (DoQ W J F D) := by
  have hM := ML_does
  exact q_ev hM (Nat.le_of_ble_eq_true rfl) rfl (q_go hM 4 (4, [some (.ref 0), some (.ref r), some (.int (z ((0 : Nat) : Int))), some (.int (z ((0 : Nat) : Int)))], [], eS J F m D) rfl (does_from (n := n) hn hF hr hp hT hC hX T.length 0 0 m W (Nat.zero_add _) (Nat.le_refl _) hS h h0 rfl rfl rfl))
end DOES
