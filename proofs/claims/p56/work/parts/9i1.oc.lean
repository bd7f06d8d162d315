/-! what the law's calls come to -/
/-- what a call leaves: an answer and another world, the one of before kept; or thrown, and nothing has changed -/
def OcW (W : Wd) (t : Int) (W' : Wd) : Prop := (wT W = 0 → wT W' = 0) ∧ wS W' = wS W ∧ ((((-1 ≤ t ∧ t ≤ 1000000) ∧ wH W' = (wA W :: wH W).take 8) ∧ aX (wA W') ≤ aX (wA W) + 10) ∨ ((-900004 ≤ t ∧ t ≤ -900001) ∧ wA W' = wA W ∧ wH W' = wH W))
def Oc (W : Wd) (o : Option (Int32 × pmI × Nat)) : Prop := ∃ t m' w W', o = some (z t, m', w) ∧ w ≤ 1 ∧ cInv m' W' ∧ OcW W t W'
theorem figB_i {f : Int} (h : figB f = true) : 0 ≤ f ∧ f < 6 := Classical.byContradiction fun g => by
  rw [figB_f g] at h
  cases h
theorem oc_mut {m : pmI} {W : Wd} {s : Int × Int × Ab} {N : Int} {ex : Int → Nat} {r : Option ((Int32 ⊕ Nat) × pmI)} {kr : Nat → pmI → Option (Int32 × pmI × Nat)} (h : cRes m W r s ex) (ok : sOk (wA W) s N) (hv : s.1 = 0 → -1 ≤ s.2.1 ∧ s.2.1 ≤ 1000000)
    (hkr : ∀ m2, ¬ s.1 = 0 → ∃ t, (-900004 ≤ t ∧ t ≤ -900001) ∧ kr (ex s.1) m2 = some (z t, m2, 1)) : Oc W (r.bind (oT (fun v1 m2 => some (v1, m2, 0)) kr)) := by
  obtain ⟨m', e1, -, i1⟩ := h
  rw [e1, obind]
  by_cases e : s.1 = 0
  · rw [if_pos e, oT_l]
    rw [if_pos e] at i1
    refine ⟨s.2.1, m', 0, _, rfl, by omega, i1, id, rfl, Or.inl ⟨⟨hv e, rfl⟩, ?_⟩⟩
    rcases ok with ⟨-, h⟩ | ⟨h, -⟩
    · show aX s.2.2 ≤ _
      omega
    · omega
  · rw [if_neg e, oT_r]
    rw [if_neg e] at i1
    obtain ⟨t, ht, h2⟩ := hkr m' e
    rw [h2]
    exact ⟨t, m', 1, W, rfl, by omega, i1, id, rfl, Or.inr ⟨ht, rfl, rfl⟩⟩
section OC
variable {n : Nat} {m : pmI} {W : Wd}
theorem o_addProp (h : cInv m W) (hn : 200 ≤ n) {x y : Int} (hx : -2147483648 ≤ x ∧ x < 2147483648) (hy : -2147483648 ≤ y ∧ y < 2147483648) : Oc W (fL_addProp_0 n (z x) (z y) m) := by
  unfold fL_addProp_0
  have ok := ok_sProp (wA W) x y
  refine oc_mut (c_addProp (n := n) h (by omega) hx hy) ok (fun e => ?_) (fun m2 h0 => by rcases cd2 ok h0 with e | e <;> (rw [e]; exact ⟨_, (by decide), rfl⟩))
  have := h.2.1.2.2.2.2.2.2.2.2.2.1
  unfold sProp at e ⊢
  repeat' (split at e)
  all_goals first | (dsimp only at e; omega) | skip
  rename_i h1 h2
  rw [if_pos h1, if_neg h2]
  dsimp only
  omega
theorem o_removeProp (h : cInv m W) {x y : Int} (hx : -2147483648 ≤ x ∧ x < 2147483648) (hy : -2147483648 ≤ y ∧ y < 2147483648) : Oc W (fL_removeProp_0 (z x) (z y) m) := by
  unfold fL_removeProp_0
  have ok := ok_sTake (wA W) x y
  refine oc_mut (c_removeProp h hx hy) ok (fun e => ?_) (fun m2 h0 => by rcases cd2 ok h0 with e | e <;> (rw [e]; exact ⟨_, (by decide), rfl⟩))
  have := h.2.1.2.2.2.2.2.2.2.2.2.1
  unfold sTake at e ⊢
  repeat' (split at e)
  all_goals first | (dsimp only at e; omega) | skip
  rename_i h1 h2
  rw [if_pos h1, if_pos h2]
  dsimp only
  omega
theorem o_addDancer (h : cInv m W) (hn : 200 ≤ n) {x y v : Int} (hx : -2147483648 ≤ x ∧ x < 2147483648) (hy : -2147483648 ≤ y ∧ y < 2147483648) (hv : -2147483648 ≤ v ∧ v < 2147483648) (hX : aX (wA W) < 1000000) : Oc W (fL_addDancer_0 n (z x) (z y) (z v) m) := by
  unfold fL_addDancer_0
  have ok := ok_sAdd (wA W) x y v
  refine oc_mut (c_addDancer (n := n) h (by omega) hx hy hv hX) ok (fun e => ?_) (fun m2 h0 => by rcases cd3 ok h0 with e | e | e <;> (rw [e]; exact ⟨_, (by decide), rfl⟩))
  unfold sAdd at e ⊢
  repeat' (split at e)
  all_goals first | (dsimp only at e; omega) | skip
  rename_i h1 h2 h3
  rw [if_pos h1, if_pos h2, if_neg h3]
  dsimp only
  omega
theorem o_removeDancer (h : cInv m W) (hn : 200 ≤ n) {d : Int} (hd : -2147483648 ≤ d ∧ d < 2147483648) : Oc W (fL_removeDancer_0 n (z d) m) := by
  unfold fL_removeDancer_0
  have ok := ok_sRemove (wA W) d
  refine oc_mut (c_removeDancer (n := n) h (by omega) hd) ok (fun e => ?_) (fun m2 h0 => ⟨_, (by decide), rfl⟩)
  have := h.2.1.1
  unfold sRemove at e ⊢
  cases hs : slot (wA W) d with
  | none => rw [hs] at e; exact absurd (show (1 : Int) = 0 from e) (by decide)
  | some k => dsimp only; omega
theorem o_renewNails (h : cInv m W) (hn : 200 ≤ n) {d : Int} (hd : -2147483648 ≤ d ∧ d < 2147483648) : Oc W (fL_renewNails_0 n (z d) m) := by
  unfold fL_renewNails_0
  have ok := ok_sRenew (wA W) d
  refine oc_mut (c_renewNails (n := n) h (by omega) hd) ok (fun e => ?_) (fun m2 h0 => ⟨_, (by decide), rfl⟩)
  unfold sRenew at e ⊢
  cases hs : slot (wA W) d with
  | none => rw [hs] at e; exact absurd (show (1 : Int) = 0 from e) (by decide)
  | some k =>
    have := (h.2.1.2.2.1 k (slot_lt hs).1).2.2.1
    dsimp only
    omega
theorem o_pair (h : cInv m W) (hn : 200 ≤ n) {a b : Int} (ha : -2147483648 ≤ a ∧ a < 2147483648) (hb : -2147483648 ≤ b ∧ b < 2147483648) : Oc W (fL_pair_0 n (z a) (z b) m) := by
  unfold fL_pair_0
  have ok := ok_sPair (wA W) a b
  refine oc_mut (c_pair (n := n) h (by omega) ha hb) ok (fun e => ?_) (fun m2 h0 => by rcases cd3 ok h0 with e | e | e <;> (rw [e]; exact ⟨_, (by decide), rfl⟩))
  have h8 := h.2.1.1
  unfold sPair at e ⊢
  repeat' (split at e)
  all_goals first | (dsimp only at e; omega) | skip
  rename_i i j h1 h2 h3 h4
  have := cnt_le (fun k => decide (¬ pPair (wA W) i j a b k = -1)) (aC (wA W))
  rw [if_neg h3, if_neg h4]
  dsimp only
  omega
theorem o_unpair (h : cInv m W) (hn : 200 ≤ n) {d : Int} (hd : -2147483648 ≤ d ∧ d < 2147483648) : Oc W (fL_unpair_0 n (z d) m) := by
  unfold fL_unpair_0
  have ok : sOk (wA W) (sUnpair (wA W) d) 2 := by
    unfold sUnpair
    split
    · exact sOk1 (by omega)
    · split
      · exact sOk1 (by omega)
      · exact sOk0 (Nat.le_succ _)
  refine oc_mut (c_unpair (n := n) h (by omega) hd) ok (fun e => ?_) (fun m2 h0 => by rcases cd2 ok h0 with e | e <;> (rw [e]; exact ⟨_, (by decide), rfl⟩))
  unfold sUnpair at e ⊢
  cases hs : slot (wA W) d with
  | none => rw [hs] at e; exact absurd (show (1 : Int) = 0 from e) (by decide)
  | some k =>
    rw [hs] at e
    dsimp only at e ⊢
    split at e
    · exact absurd (show (2 : Int) = 0 from e) (by decide)
    · rename_i h1
      rw [if_neg h1]
      have hX := h.2.1.2.1
      rcases h.2.1.2.2.2.2.1 k (slot_lt hs).1 with g | ⟨j, j1, -, j3, -⟩
      · exact absurd g h1
      · have := (h.2.1.2.2.1 j j1).1
        dsimp only
        omega
theorem o_addMove (h : cInv m W) (hn : 200 ≤ n) {f c : Int} (hf : -2147483648 ≤ f ∧ f < 2147483648) (hc : -2147483648 ≤ c ∧ c < 2147483648) : Oc W (fL_addMove_0 n (z f) (z c) m) := by
  unfold fL_addMove_0
  have ok := ok_sAppend (wA W) f c
  refine oc_mut (c_addMove (n := n) h (by omega) hf hc) ok (fun e => ?_) (fun m2 h0 => by rcases cd3 ok h0 with e | e | e <;> (rw [e]; exact ⟨_, (by decide), rfl⟩))
  unfold sAppend at e ⊢
  repeat' (split at e)
  all_goals first | (dsimp only at e; omega) | skip
  rename_i h1 _ v hv h2
  rw [if_pos h1]
  rw [if_neg h2]
  have := (h.2.1.2.2.2.2.2.1 f.toNat (by
    have := figB_i h1
    omega)).1
  dsimp only
  omega
theorem o_clearFigure (h : cInv m W) {f : Int} (hf : -2147483648 ≤ f ∧ f < 2147483648) : Oc W (fL_clearFigure_0 (z f) m) := by
  unfold fL_clearFigure_0
  have ok := ok_sClear (wA W) f
  refine oc_mut (c_clearFigure h hf) ok (fun e => ?_) (fun m2 h0 => ⟨_, (by decide), rfl⟩)
  unfold sClear at e ⊢
  split at e
  · rename_i h1
    rw [if_pos h1]
    have := (h.2.1.2.2.2.2.2.1 f.toNat (by
      have := figB_i h1
      omega)).1
    dsimp only
    omega
  · exact absurd (show (1 : Int) = 0 from e) (by decide)
theorem o_perform (h : cInv m W) (hn : 200 ≤ n) {f d : Int} (hf : -2147483648 ≤ f ∧ f < 2147483648) (hd : -2147483648 ≤ d ∧ d < 2147483648) : Oc W (fL_perform_0 n (z f) (z d) m) := by
  unfold fL_perform_0
  have ok := sPerf_ok h.2.1 f d
  refine oc_mut (c_perform (n := n) h (by omega) hf hd) ok (fun e => ?_) (fun m2 h0 => by rcases cd3 ok h0 with e | e | e <;> (rw [e]; exact ⟨_, (by decide), rfl⟩))
  unfold sPerf at e ⊢
  split at e
  · rename_i h1
    rw [if_pos h1]
    cases hs : slot (wA W) d with
    | none => rw [hs] at e; exact absurd (show (2 : Int) = 0 from e) (by decide)
    | some k =>
      rw [hs] at e
      dsimp only at e ⊢
      split at e
      · exact absurd (show (3 : Int) = 0 from e) (by decide)
      · rename_i h2
        rw [if_neg h2]
        have hk := (slot_lt hs).1
        have := (run_ok h.2.1 (f := f.toNat) (k := k) (by omega) (by
          have := figB_i h1
          omega)).2.2.2
        dsimp only
        omega
  · exact absurd (show (1 : Int) = 0 from e) (by decide)
theorem o_walk (h : cInv m W) (hn : 200 ≤ n) {d x y : Int} (hd : -2147483648 ≤ d ∧ d < 2147483648) (hx : -2147483648 ≤ x ∧ x < 2147483648) (hy : -2147483648 ≤ y ∧ y < 2147483648) : Oc W (fL_walk_0 n (z d) (z x) (z y) m) := by
  unfold fL_walk_0
  have ok := sWalk_ok (wA W) d x y
  refine oc_mut (c_walk (n := n) h (by omega) hd hx hy) ok (fun e => ?_) (fun m2 h0 => by
    rcases ok with ⟨e, -⟩ | ⟨e, -⟩
    · exact absurd e h0
    · rcases (show (sWalk (wA W) d x y).1 = 1 ∨ (sWalk (wA W) d x y).1 = 2 ∨ (sWalk (wA W) d x y).1 = 3 ∨ (sWalk (wA W) d x y).1 = 4 by omega) with e | e | e | e <;> (rw [e]; exact ⟨_, (by decide), rfl⟩))
  unfold sWalk at e ⊢
  cases hs : slot (wA W) d with
  | none => rw [hs] at e; exact absurd (show (1 : Int) = 0 from e) (by decide)
  | some k =>
    have hk := (h.2.1.2.2.1 k (slot_lt hs).1).2.2.1
    rw [hs] at e
    dsimp only at e ⊢
    repeat' (split at e)
    all_goals first | (dsimp only at e; omega) | skip
    rename_i h1 _ l h2 h3
    rw [if_pos h1]
    rw [if_neg h3]
    dsimp only
    omega
theorem o_addExit (h : cInv m W) (hn : 200 ≤ n) {x y : Int} (hx : -2147483648 ≤ x ∧ x < 2147483648) (hy : -2147483648 ≤ y ∧ y < 2147483648) : Oc W (fL_addExit_0 n (z x) (z y) m) := by
  unfold fL_addExit_0
  have ok := ok_sOpen (wA W) x y
  refine oc_mut (c_addExit (n := n) h (by omega) hx hy) ok (fun e => ?_) (fun m2 h0 => by rcases cd2 ok h0 with e | e <;> (rw [e]; exact ⟨_, (by decide), rfl⟩))
  have := h.2.1.2.2.2.2.2.2.1
  unfold sOpen at e ⊢
  repeat' (split at e)
  all_goals first | (dsimp only at e; omega) | skip
  rename_i h1 h2
  rw [if_pos h1, if_neg h2]
  dsimp only
  omega
theorem o_removeExit (h : cInv m W) (hn : 200 ≤ n) {x : Int} (hx : -2147483648 ≤ x ∧ x < 2147483648) : Oc W (fL_removeExit_0 n (z x) m) := by
  unfold fL_removeExit_0
  have ok : sOk (wA W) (sShut (wA W) x) 1 := by
    unfold sShut
    split
    · exact sOk0 (Nat.le_succ _)
    · exact sOk1 (by omega)
  refine oc_mut (c_removeExit (n := n) h (by omega) hx) ok (fun e => ?_) (fun m2 h0 => ⟨_, (by decide), rfl⟩)
  have := h.2.1.2.2.2.2.2.2.1
  unfold sShut at e ⊢
  split at e
  · rename_i h1
    rw [if_pos h1]
    dsimp only
    omega
  · exact absurd (show (1 : Int) = 0 from e) (by decide)
theorem o_leaveAll (h : cInv m W) (hn : 200 ≤ n) : Oc W (fL_leaveAll_0 n m) := by
  unfold fL_leaveAll_0
  have ok := sLeave_ok (wA W)
  refine oc_mut (c_leaveAll (n := n) h (by omega)) ok (fun e => ?_) (fun m2 h0 => by rcases cd2 ok h0 with e | e <;> (rw [e]; exact ⟨_, (by decide), rfl⟩))
  unfold sLeave at e ⊢
  split at e
  · exact absurd (show (1 : Int) = 0 from e) (by decide)
  · rename_i h1
    rw [if_neg h1]
    cases hs : bestP (wA W) with
    | none => rw [hs] at e; exact absurd (show (2 : Int) = 0 from e) (by decide)
    | some x =>
      have := best_bd h.2.1 hs
      dsimp only
      omega
end OC
