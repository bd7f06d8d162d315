/-! the class: its calls that change (first group) -/
/-- what a call of the class leaves of the other side -/
def cOut (m m' : pmI) : Prop := ∀ i, 113 ≤ i → m'.1 i = m.1 i ∧ m'.2 i = m.2 i
theorem cOut_rf {m : pmI} : cOut m m := fun _ _ => ⟨rfl, rfl⟩
theorem cOut_tr {m m1 m2 : pmI} (h1 : cOut m m1) (h2 : cOut m1 m2) : cOut m m2 := fun i hi => ⟨(h2 i hi).1.trans (h1 i hi).1, (h2 i hi).2.trans (h1 i hi).2⟩
theorem cOut_fr {m m' : pmI} (h : fr cS m m') : cOut m m' := fun i hi => h i (decide_eq_false (by omega))
theorem cOut_hi {m m' : pmI} (h : ∀ i, ¬ (25 ≤ i ∧ i ≤ 90) → m'.1 i = m.1 i ∧ m'.2 i = m.2 i) : cOut m m' := fun i hi => h i (by omega)
theorem tf0 {m : pmI} : fX8_throwFor (z 0) m = some (.inl (), m) := f_throwFor 0 (by omega) m
theorem tf1 {m : pmI} : fX8_throwFor (z 1) m = some (.inr 0, m) := f_throwFor 1 (by omega) m
theorem tf2 {m : pmI} : fX8_throwFor (z 2) m = some (.inr 1, m) := f_throwFor 2 (by omega) m
theorem tf3 {m : pmI} : fX8_throwFor (z 3) m = some (.inr 2, m) := f_throwFor 3 (by omega) m
theorem tf4 {m : pmI} : fX8_throwFor (z 4) m = some (.inr 3, m) := f_throwFor 4 (by omega) m
theorem tf5 {m : pmI} : fX8_throwFor (z 5) m = some (.inr 4, m) := f_throwFor 5 (by omega) m
/-- what a changing call comes to: an answer and another state, or an exception -/
def cRes (m : pmI) (W : Wd) (r : Option ((Int32 ⊕ Nat) × pmI)) (s : Int × Int × Ab) (ex : Int → Nat) : Prop :=
  ∃ m', r = some ((if s.1 = 0 then .inl (z s.2.1) else .inr (ex s.1)), m') ∧ cOut m m' ∧ cInv m' (if s.1 = 0 then wPut W s.2.2 else W)
theorem cRes_ok {m m' : pmI} {W : Wd} {r : Option ((Int32 ⊕ Nat) × pmI)} {t : Int} {A : Ab} {ex : Int → Nat} (h1 : r = some (.inl (z t), m')) (h2 : cOut m m') (h3 : cInv m' (wPut W A)) : cRes m W r (0, t, A) ex := ⟨m', h1, h2, h3⟩
theorem cRes_ex {m m' : pmI} {W : Wd} {r : Option ((Int32 ⊕ Nat) × pmI)} {c t : Int} {A : Ab} {ex : Int → Nat} (hc : ¬ c = 0) (h1 : r = some (.inr (ex c), m')) (h2 : cOut m m') (h3 : cInv m' W) : cRes m W r (c, t, A) ex := by
  refine ⟨m', ?_, h2, ?_⟩
  · show r = some ((if c = 0 then _ else _), m')
    rw [if_neg hc]
    exact h1
  · show cInv m' (if c = 0 then _ else _)
    rw [if_neg hc]
    exact h3
section CPUB
variable {m : pmI} {W : Wd} {n : Nat}
def exAdd (c : Int) : Nat := if c = 1 then 0 else if c = 2 then 1 else 2
def exSt (c : Int) : Nat := if c = 1 then 0 else 2
def exEl (c : Int) : Nat := if c = 1 then 3 else 2
def exPr (c : Int) : Nat := if c = 1 then 3 else if c = 2 then 1 else 2
theorem c_addPropF (h : repC 1 m (wA W)) (w : wfA (wA W)) (hn : 20 ≤ n) {x y : Int} (hx : -2147483648 ≤ x ∧ x < 2147483648) (hy : -2147483648 ≤ y ∧ y < 2147483648) : fX8_addPropFault n (z x) (z y) m = some (z (if (sProp (wA W) x y).1 = 0 then 0 else if (sProp (wA W) x y).1 = 1 then 1 else 3)) := by
  unfold fX8_addPropFault sProp
  by_cases hc : isC x y
  · obtain ⟨c, hc1, hc2, hc3⟩ := isC_nat hc
    rw [(c_cell hx hy m).1 hc, obind, if_pos rfl, f_cellAt, obind, if_pos (isCb_t hc), hc2, Int.toNat_natCast, c_isOpen h w hn hc1, obind]
    by_cases hf : aP (wA W) c = true ∨ ¬ spot (wA W) c = none
    · rw [if_pos hf, if_pos rfl, if_pos (hf.elim Or.inl (fun h => Or.inr (Or.inl h)))]
      rfl
    · rw [if_neg hf, if_neg z10, c_countProps h, obind]
      have hle := cnt_le (aP (wA W)) 64
      have w20 := w.2.2.2.2.2.2.2.2.2.1
      by_cases e : cnt (aP (wA W)) 64 = 20
      · rw [if_neg (zge (by omega)), if_pos (Or.inr (Or.inr e))]
        rfl
      · rw [if_pos (zlt (by omega)), if_neg (show ¬ (aP (wA W) c = true ∨ ¬ spot (wA W) c = none ∨ cnt (aP (wA W)) 64 = 20) from fun h => h.elim (fun h => hf (Or.inl h)) (fun h => h.elim (fun h => hf (Or.inr h)) e))]
        rfl
  · rw [(c_cell hx hy m).2 hc, obind, if_neg z10, if_neg (show ¬ isCb x y = true by rw [isCb_f hc]; decide)]
    rfl
theorem c_addProp (h : cInv m W) (hn : 20 ≤ n) {x y : Int} (hx : -2147483648 ≤ x ∧ x < 2147483648) (hy : -2147483648 ≤ y ∧ y < 2147483648) : cRes m W (fX8_addProp n (z x) (z y) m) (sProp (wA W) x y) exSt := by
  have w := h.2.1
  unfold fX8_addProp
  rw [c_addPropF (W := W) h.1 w hn hx hy, obind]
  unfold sProp
  by_cases hc : isC x y
  · obtain ⟨c, hc1, hc2, hc3⟩ := isC_nat hc
    rw [if_pos (isCb_t hc), hc2, Int.toNat_natCast]
    by_cases hq : aP (wA W) c = true ∨ ¬ spot (wA W) c = none ∨ cnt (aP (wA W)) 64 = 20
    · rw [if_pos hq]
      refine cRes_ex (by decide) ?_ cOut_rf h
      show (fX8_throwFor (z 3) m).bind _ = _
      rw [tf3]
      rfl
    · rw [if_neg hq]
      have hp : aP (wA W) c = false := Bool.eq_false_iff.mpr (fun e => hq (Or.inl e))
      have hs : spot (wA W) c = none := Decidable.byContradiction (fun e => hq (Or.inr (Or.inl e)))
      have h20 : ¬ cnt (aP (wA W)) 64 = 20 := fun e => hq (Or.inr (Or.inr e))
      obtain ⟨m1, e1, i1, o1⟩ := c_remember h
      obtain ⟨m2, e2, f2, r2⟩ := c_placeProp i1.1 hc1
      refine cRes_ok (m' := m2) ?_ (cOut_tr (cOut_hi o1) (cOut_fr f2)) (cInv_st i1 f2 r2 (wf_prop w hc1 hp hs h20))
      show (fX8_throwFor (z 0) m).bind _ = _
      rw [tf0, obind, oT_l, e1, obind, f_cellAt, obind, hc2, e2, obind, c_countProps r2, obind]
      show some (Sum.inl (z ((cnt (fun k => if k = c then true else aP (wA W) k) 64 : Nat) : Int)), m2) = _
      rw [cnt_set hp hc1]
  · rw [if_neg (show ¬ isCb x y = true by rw [isCb_f hc]; decide)]
    refine cRes_ex (by decide) ?_ cOut_rf h
    show (fX8_throwFor (z 1) m).bind _ = _
    rw [tf1]
    rfl
theorem c_removeProp (h : cInv m W) {x y : Int} (hx : -2147483648 ≤ x ∧ x < 2147483648) (hy : -2147483648 ≤ y ∧ y < 2147483648) : cRes m W (fX8_removeProp (z x) (z y) m) (sTake (wA W) x y) exSt := by
  have w := h.2.1
  unfold fX8_removeProp fX8_removePropFault sTake
  by_cases hc : isC x y
  · obtain ⟨c, hc1, hc2, hc3⟩ := isC_nat hc
    rw [(c_cell hx hy m).1 hc, obind, if_pos rfl, f_cellAt, obind, if_pos (isCb_t hc), hc2, Int.toNat_natCast, f_holds _ hc1, obind, h.1.1 c hc1]
    by_cases hp : aP (wA W) c = true
    · rw [if_pos hp, if_pos hp, if_neg z10, obind]
      obtain ⟨m1, e1, i1, o1⟩ := c_remember h
      obtain ⟨m2, e2, f2, r2⟩ := c_takeProp i1.1 hc1
      refine cRes_ok (m' := m2) ?_ (cOut_tr (cOut_hi o1) (cOut_fr f2)) (cInv_st i1 f2 r2 (wf_take w hc1 hp))
      rw [tf0, obind, oT_l, e1, obind, f_cellAt, obind, hc2, e2, obind, c_countProps r2, obind]
      show some (Sum.inl (z ((cnt (fun k => if k = c then false else aP (wA W) k) 64 : Nat) : Int)), m2) = _
      have := cnt_clr hp hc1
      rw [show ((cnt (fun k => if k = c then false else aP (wA W) k) 64 : Nat) : Int) = (cnt (aP (wA W)) 64 : Int) - 1 by omega]
    · rw [if_neg hp, if_neg hp, if_pos rfl, obind]
      refine cRes_ex (by decide) ?_ cOut_rf h
      rw [tf3]
      rfl
  · rw [(c_cell hx hy m).2 hc, obind, if_neg z10, obind, if_neg (show ¬ isCb x y = true by rw [isCb_f hc]; decide)]
    refine cRes_ex (by decide) ?_ cOut_rf h
    rw [tf1]
    rfl
theorem c_addDancerF (h : repC 1 m (wA W)) (w : wfA (wA W)) (hn : 20 ≤ n) {x y v : Int} (hx : -2147483648 ≤ x ∧ x < 2147483648) (hy : -2147483648 ≤ y ∧ y < 2147483648) (hv : -2147483648 ≤ v ∧ v < 2147483648) : fX8_addDancerFault n (z x) (z y) (z v) m = some (z (if (sAdd (wA W) x y v).1 = 0 then 0 else if (sAdd (wA W) x y v).1 = 1 then 1 else if (sAdd (wA W) x y v).1 = 2 then 2 else 3)) := by
  unfold fX8_addDancerFault sAdd
  by_cases hc : isC x y
  · obtain ⟨c, hc1, hc2, hc3⟩ := isC_nat hc
    rw [(c_cell hx hy m).1 hc, obind, if_pos rfl, if_pos (isCb_t hc), hc2, Int.toNat_natCast]
    by_cases hv2 : 0 ≤ v ∧ v ≤ 20
    · rw [if_neg (zge (by omega)), if_neg (zge (by omega)), f_cellAt, obind, hc2, c_isOpen h w hn hc1, obind, if_pos hv2]
      by_cases hf : aP (wA W) c = true ∨ ¬ spot (wA W) c = none
      · rw [if_pos hf, if_pos rfl, if_pos (hf.elim Or.inl (fun h => Or.inr (Or.inl h)))]
        rfl
      · rw [if_neg hf, if_neg z10, h.2.1]
        have w1 := w.1
        by_cases e : aC (wA W) = 8
        · rw [if_neg (zge (by omega)), if_pos (Or.inr (Or.inr e))]
          rfl
        · rw [if_pos (zlt (by omega)), if_neg (show ¬ (aP (wA W) c = true ∨ ¬ spot (wA W) c = none ∨ aC (wA W) = 8) from fun h => h.elim (fun h => hf (Or.inl h)) (fun h => h.elim (fun h => hf (Or.inr h)) e))]
          rfl
    · rw [if_neg hv2]
      by_cases h0 : v < 0
      · rw [if_pos (zlt (by omega))]
        rfl
      · rw [if_neg (zge (by omega)), if_pos (zlt (by omega))]
        rfl
  · rw [(c_cell hx hy m).2 hc, obind, if_neg z10, if_neg (show ¬ isCb x y = true by rw [isCb_f hc]; decide)]
    rfl
theorem c_addDancer (h : cInv m W) (hn : 20 ≤ n) {x y v : Int} (hx : -2147483648 ≤ x ∧ x < 2147483648) (hy : -2147483648 ≤ y ∧ y < 2147483648) (hv : -2147483648 ≤ v ∧ v < 2147483648) (hX : aX (wA W) < 1000000) : cRes m W (fX8_addDancer n (z x) (z y) (z v) m) (sAdd (wA W) x y v) exAdd := by
  have w := h.2.1
  unfold fX8_addDancer
  rw [c_addDancerF (W := W) h.1 w hn hx hy hv, obind]
  unfold sAdd
  by_cases hc : isC x y
  · obtain ⟨c, hc1, hc2, hc3⟩ := isC_nat hc
    rw [if_pos (isCb_t hc), hc2, Int.toNat_natCast]
    by_cases hv2 : 0 ≤ v ∧ v ≤ 20
    · rw [if_pos hv2]
      by_cases hq : aP (wA W) c = true ∨ ¬ spot (wA W) c = none ∨ aC (wA W) = 8
      · rw [if_pos hq]
        refine cRes_ex (by decide) ?_ cOut_rf h
        show (fX8_throwFor (z 3) m).bind _ = _
        rw [tf3]
        rfl
      · rw [if_neg hq]
        have hp : aP (wA W) c = false := Bool.eq_false_iff.mpr (fun e => hq (Or.inl e))
        have hs : spot (wA W) c = none := Decidable.byContradiction (fun e => hq (Or.inr (Or.inl e)))
        have h8 : ¬ aC (wA W) = 8 := fun e => hq (Or.inr (Or.inr e))
        have w1 := w.1
        obtain ⟨m1, e1, i1, o1⟩ := c_remember h
        obtain ⟨m2, e2, f2, r2⟩ := c_bring (c := c) (v := v.toNat) i1.1 w (show aC (wA W) < 8 by omega)
        rw [show ((v.toNat : Nat) : Int) = v by omega] at e2 r2
        have w' := wf_add (v := v.toNat) w hc1 hp hs h8 (by omega) hX
        rw [show ((v.toNat : Nat) : Int) = v by omega] at w'
        refine cRes_ok (m' := m2) ?_ (cOut_tr (cOut_hi o1) (cOut_fr f2)) (cInv_st i1 f2 r2 w')
        show (fX8_throwFor (z 0) m).bind _ = _
        rw [tf0, obind, oT_l, e1, obind, f_cellAt, obind, hc2, e2, obind]
        rfl
    · rw [if_neg hv2]
      refine cRes_ex (by decide) ?_ cOut_rf h
      show (fX8_throwFor (z 2) m).bind _ = _
      rw [tf2]
      rfl
  · rw [if_neg (show ¬ isCb x y = true by rw [isCb_f hc]; decide)]
    refine cRes_ex (by decide) ?_ cOut_rf h
    show (fX8_throwFor (z 1) m).bind _ = _
    rw [tf1]
    rfl
theorem c_removeDancer (h : cInv m W) (hn : 60 ≤ n) {d : Int} (hd : -2147483648 ≤ d ∧ d < 2147483648) : cRes m W (fX8_removeDancer n (z d) m) (sRemove (wA W) d) (fun _ => 3) := by
  have w := h.2.1
  unfold fX8_removeDancer sRemove
  rw [c_presence h.1 w (by omega) hd, obind]
  cases hs : slot (wA W) d with
  | none =>
    refine cRes_ex (by decide) ?_ cOut_rf h
    rw [if_pos rfl, tf4]
    rfl
  | some k =>
    have hk := (slot_lt hs).1
    obtain ⟨m1, e1, i1, o1⟩ := c_remember h
    obtain ⟨m2, e2, f2, r2⟩ := c_dismiss (n := n) i1.1 w hn hk
    refine cRes_ok (m' := m2) ?_ (cOut_tr (cOut_hi o1) (cOut_fr f2)) (cInv_st i1 f2 r2 (wf_remove w hk))
    rw [if_neg (fun h => nomatch h), tf0, obind, oT_l, e1, obind, c_slotOf (n := n) i1.1 w (by omega) hd, obind, show slot (wA (wPut W (wA W))) d = some k from hs, oz_s, e2, obind, r2.2.1]
    show some (Sum.inl (z ((aC (wA W) - 1 : Nat) : Int)), m2) = _
    rw [show ((aC (wA W) - 1 : Nat) : Int) = (aC (wA W) : Int) - 1 by omega]
theorem c_renewNails (h : cInv m W) (hn : 20 ≤ n) {d : Int} (hd : -2147483648 ≤ d ∧ d < 2147483648) : cRes m W (fX8_renewNails n (z d) m) (sRenew (wA W) d) (fun _ => 3) := by
  have w := h.2.1
  unfold fX8_renewNails sRenew
  rw [c_presence h.1 w (by omega) hd, obind]
  cases hs : slot (wA W) d with
  | none =>
    refine cRes_ex (by decide) ?_ cOut_rf h
    rw [if_pos rfl, tf4]
    rfl
  | some k =>
    have hk := (slot_lt hs).1
    obtain ⟨m1, e1, i1, o1⟩ := c_remember h
    obtain ⟨m2, e2, f2, r2⟩ := c_fillNails i1.1 w hk
    refine cRes_ok (m' := m2) ?_ (cOut_tr (cOut_hi o1) (cOut_fr f2)) (cInv_st i1 f2 r2 (wf_renew w hk))
    rw [if_neg (fun h => nomatch h), tf0, obind, oT_l, e1, obind, c_slotOf (n := n) i1.1 w (by omega) hd, obind, show slot (wA (wPut W (wA W))) d = some k from hs, oz_s, e2, obind]
    rfl
theorem c_clearFigure (h : cInv m W) {f : Int} (hf : -2147483648 ≤ f ∧ f < 2147483648) : cRes m W (fX8_clearFigure (z f) m) (sClear (wA W) f) (fun _ => 0) := by
  have w := h.2.1
  unfold fX8_clearFigure sClear
  rw [c_figF hf, obind]
  by_cases hg : 0 ≤ f ∧ f < 6
  · obtain ⟨g, rfl⟩ : ∃ g : Nat, f = (g : Int) := ⟨f.toNat, by omega⟩
    have hg6 : g < 6 := by omega
    rw [if_pos (figB_t hg), if_pos (figB_t hg), Int.toNat_natCast]
    obtain ⟨m1, e1, i1, o1⟩ := c_remember h
    obtain ⟨m2, e2, f2, r2⟩ := c_empty i1.1 hg6
    refine cRes_ok (m' := m2) ?_ (cOut_tr (cOut_hi o1) (cOut_fr f2)) (cInv_st i1 f2 r2 (wf_clear w hg6))
    rw [tf0, obind, oT_l, e1, obind, c_movesIn i1.1 hg6, obind, e2, obind]
    rfl
  · rw [if_neg (show ¬ figB f = true by rw [figB_f hg]; decide), if_neg (show ¬ figB f = true by rw [figB_f hg]; decide)]
    refine cRes_ex (by decide) ?_ cOut_rf h
    rw [tf1]
    rfl
theorem c_addMove (h : cInv m W) (hn : 20 ≤ n) {f c : Int} (hf : -2147483648 ≤ f ∧ f < 2147483648) (hc : -2147483648 ≤ c ∧ c < 2147483648) : cRes m W (fX8_addMove n (z f) (z c) m) (sAppend (wA W) f c) exAdd := by
  have w := h.2.1
  unfold fX8_addMove fX8_addMoveFault sAppend
  rw [c_moveIndex hn hc, obind, c_figF hf, obind]
  by_cases hg : 0 ≤ f ∧ f < 6
  · obtain ⟨g, rfl⟩ : ∃ g : Nat, f = (g : Int) := ⟨f.toNat, by omega⟩
    have hg6 : g < 6 := by omega
    rw [if_pos (figB_t hg), if_pos rfl, if_pos (figB_t hg), Int.toNat_natCast]
    cases hv : mvIx c with
    | none =>
      refine cRes_ex (by decide) ?_ cOut_rf h
      rw [oz_n, if_pos rfl, obind, tf2]
      rfl
    | some v =>
      have hv2 := mvIx_some hv
      have h12 := (w.2.2.2.2.2.1 g hg6).1
      rw [oz_s, if_neg (zne (by omega)), c_movesIn h.1 hg6, obind]
      dsimp only
      by_cases e12 : aFl (wA W) g = 12
      · rw [if_neg (zge (by omega)), if_pos e12, obind]
        refine cRes_ex (by decide) ?_ cOut_rf h
        rw [tf3]
        rfl
      · rw [if_pos (zlt (by omega)), if_neg e12, obind]
        obtain ⟨m1, e1, i1, o1⟩ := c_remember h
        obtain ⟨m2, e2, f2, r2⟩ := c_append (v := v) i1.1 w hg6 (show aFl (wA W) g < 12 by omega)
        refine cRes_ok (m' := m2) ?_ (cOut_tr (cOut_hi o1) (cOut_fr f2)) (cInv_st i1 f2 r2 (wf_append w hg6 e12 hv2.1))
        have mm := c_movesIn r2 hg6
        have e9 : aFl (uFg (wA (wPut W (wA W))) (fun q => if q = g then aFl (wA (wPut W (wA W))) g + 1 else aFl (wA (wPut W (wA W))) q) (fun q b => if q = g ∧ b = aFl (wA (wPut W (wA W))) g then v else aFm (wA (wPut W (wA W))) q b)) g = aFl (wA W) g + 1 := if_pos rfl
        rw [e9] at mm
        rw [tf0, obind, oT_l, e1, obind, e2, obind, mm, obind]
  · rw [if_neg (show ¬ figB f = true by rw [figB_f hg]; decide), if_neg z10, obind, if_neg (show ¬ figB f = true by rw [figB_f hg]; decide)]
    refine cRes_ex (by decide) ?_ cOut_rf h
    rw [tf1]
    rfl
theorem c_addExit (h : cInv m W) (hn : 20 ≤ n) {x y : Int} (hx : -2147483648 ≤ x ∧ x < 2147483648) (hy : -2147483648 ≤ y ∧ y < 2147483648) : cRes m W (fX8_addExit n (z x) (z y) m) (sOpen (wA W) x y) exSt := by
  have w := h.2.1
  have w6 := w.2.2.2.2.2.2.1
  unfold fX8_addExit fX8_addExitFault sOpen
  by_cases hc : isC x y
  · obtain ⟨c, hc1, hc2, hc3⟩ := isC_nat hc
    rw [(c_cell hx hy m).1 hc, obind, if_pos rfl, f_cellAt, obind, if_pos (isCb_t hc), hc2, Int.toNat_natCast, c_hasExit h.1 w hn (by omega), obind]
    have bad : cRes m W ((jX8_addExitFault_41 n m).bind fun v1 => (fX8_throwFor v1 m).bind (oT (fun v2 m3 => (fX8_remember m3).bind fun v4 => (fX8_cellAt (z x) (z y) v4).bind fun v5 => (fX6_openExit_1 v5 v4).bind fun v6 => some (.inl ((v6.1 1 9) - (z 1)), v6)) (fun e m3 => some (.inr e, m3)))) (2, 0, wA W) exSt := by
      refine cRes_ex (by decide) ?_ cOut_rf h
      unfold jX8_addExitFault_41 jX8_addExitFault_42
      rw [if_pos rfl, obind, tf3]
      rfl
    by_cases hs : xspot (wA W) c = none
    · rw [if_pos hs, if_pos rfl, h.1.2.2.2.2.2.1]
      by_cases e6 : aEn (wA W) = 6
      · rw [if_neg (zge (by omega)), if_pos (Or.inr e6)]
        exact bad
      · rw [if_pos (zlt (by omega)), if_neg (fun q => Or.elim q (fun q => q hs) e6)]
        obtain ⟨m1, e1, i1, o1⟩ := c_remember h
        obtain ⟨m2, e2, f2, r2⟩ := c_open (c := c) i1.1 (show aEn (wA W) < 6 by omega)
        refine cRes_ok (m' := m2) ?_ (cOut_tr (cOut_hi o1) (cOut_fr f2)) (cInv_st i1 f2 r2 (wf_open w hc1 hs e6))
        unfold jX8_addExitFault_42
        rw [if_neg z10, obind, tf0, obind, oT_l, e1, obind, f_cellAt, obind, hc2, e2, obind, r2.2.2.2.2.2.1, z_sub]
        show some (Sum.inl (z (((aEn (wA W) + 1 : Nat) : Int) - 1)), m2) = _
        rw [show ((aEn (wA W) + 1 : Nat) : Int) - 1 = (aEn (wA W) : Int) by omega]
    · rw [if_neg hs, if_neg z10, if_pos (Or.inl hs)]
      exact bad
  · rw [(c_cell hx hy m).2 hc, obind, if_neg z10, obind, if_neg (show ¬ isCb x y = true by rw [isCb_f hc]; decide)]
    refine cRes_ex (by decide) ?_ cOut_rf h
    rw [tf1]
    rfl
theorem c_pair (h : cInv m W) (hn : 20 ≤ n) {a b : Int} (ha : -2147483648 ≤ a ∧ a < 2147483648) (hb : -2147483648 ≤ b ∧ b < 2147483648) : cRes m W (fX8_pair n (z a) (z b) m) (sPair (wA W) a b) exPr := by
  have w := h.2.1
  have w1 := w.1
  unfold fX8_pair fX8_pairFault sPair
  rw [c_presence h.1 w hn ha, obind]
  cases hs : slot (wA W) a with
  | none =>
    refine cRes_ex (by decide) ?_ cOut_rf h
    rw [if_pos rfl, if_neg (by decide), obind, tf4]
    rfl
  | some i =>
    have hi := slot_lt hs
    rw [if_neg (Option.some_ne_none i), if_pos rfl, c_presence h.1 w hn hb, obind]
    cases hs2 : slot (wA W) b with
    | none =>
      refine cRes_ex (by decide) ?_ cOut_rf h
      rw [if_pos rfl, if_neg (by decide), obind, tf4]
      rfl
    | some j =>
      have hj := slot_lt hs2
      rw [if_neg (Option.some_ne_none j), if_pos rfl]
      dsimp only
      by_cases hij : i = j
      · have hab : a = b := by rw [← hi.2, ← hj.2, hij]
        rw [if_pos (by rw [hab]), if_pos hij, obind]
        refine cRes_ex (by decide) ?_ cOut_rf h
        rw [tf2]
        rfl
      · have hab : ¬ a = b := fun e => hij (by rw [e, hs2] at hs; exact (Option.some.inj hs).symm)
        rw [if_neg (zne (by omega)), if_neg hij, c_partnerOf h.1 w hn ha, obind, hs]
        have bad : cRes m W ((jX8_pairFault_53 n m).bind fun v1 => (fX8_throwFor v1 m).bind (oT (fun v2 m3 => (fX8_remember m3).bind fun v4 => (fX6_bind_1 n (z a) (z b) v4).bind fun v5 => (fX6_countPaired_1 n v5).bind fun v6 => some (.inl (v6 / (z 2)), v5)) (fun e m3 => some (.inr e, m3)))) (3, 0, wA W) exPr := by
          refine cRes_ex (by decide) ?_ cOut_rf h
          unfold jX8_pairFault_53 jX8_pairFault_54
          rw [if_pos rfl, obind, tf3]
          rfl
        have ri := pa_rg w hi.1
        have rj := pa_rg w hj.1
        dsimp only
        by_cases e3 : aPa (wA W) i = -1
        · rw [if_pos (show z (aPa (wA W) i) = z (-1) by rw [e3]), c_partnerOf h.1 w hn hb, obind, hs2]
          dsimp only
          by_cases e4 : aPa (wA W) j = -1
          · rw [if_pos (show z (aPa (wA W) j) = z (-1) by rw [e4]), if_neg (show ¬ (¬ aPa (wA W) i = -1 ∨ ¬ aPa (wA W) j = -1) by omega)]
            obtain ⟨m1, e1, i1, o1⟩ := c_remember h
            obtain ⟨m2, e2, f2, r2⟩ := c_bind (n := n) i1.1 w hn hs hs2
            have w2 := wf_pairS w hs hs2 hij e3 e4
            refine cRes_ok (m' := m2) ?_ (cOut_tr (cOut_hi o1) (cOut_fr f2)) (cInv_st i1 f2 r2 w2)
            unfold jX8_pairFault_54
            rw [if_neg z10, obind, tf0, obind, oT_l, e1, obind, e2, obind, c_countPaired r2 w2 hn, obind]
            exact congrArg (fun q => some (Sum.inl q, m2)) (z_half (cnt (fun k => decide (¬ pPair (wA W) i j a b k = -1)) (aC (wA W))) (Nat.le_trans (cnt_le _ _) w1))
          · rw [if_neg (zne (by omega)), if_pos (Or.inr e4)]
            exact bad
        · rw [if_neg (zne (by omega)), if_pos (Or.inl e3)]
          exact bad
def sUnpair (A : Ab) (d : Int) : Int × Int × Ab := match slot A d with
  | none => (1, 0, A)
  | some k => if aPa A k = -1 then (2, 0, A) else (0, aPa A k, uPa A (pSep A k))
theorem c_unpair (h : cInv m W) (hn : 20 ≤ n) {d : Int} (hd : -2147483648 ≤ d ∧ d < 2147483648) : cRes m W (fX8_unpair n (z d) m) (sUnpair (wA W) d) exEl := by
  have w := h.2.1
  have w1 := w.1
  unfold fX8_unpair fX8_unpairFault sUnpair
  rw [c_presence h.1 w (by omega) hd, obind]
  cases hs : slot (wA W) d with
  | none =>
    refine cRes_ex (by decide) ?_ cOut_rf h
    rw [if_pos rfl, if_neg (by decide), obind, tf4]
    rfl
  | some k =>
    have hk := (slot_lt hs).1
    have rk := pa_rg w hk
    rw [if_neg (Option.some_ne_none k), if_pos rfl, c_partnerOf h.1 w hn hd, obind, hs]
    dsimp only
    by_cases e : aPa (wA W) k = -1
    · rw [if_pos (show z (aPa (wA W) k) = z (-1) by rw [e]), if_pos e, obind]
      refine cRes_ex (by decide) ?_ cOut_rf h
      rw [tf3]
      rfl
    · rw [if_neg (zne (by omega)), if_neg e, obind]
      obtain ⟨m1, e1, i1, o1⟩ := c_remember h
      obtain ⟨m2, e2, f2, r2⟩ := c_separate (n := n) i1.1 w hn hk
      refine cRes_ok (m' := m2) ?_ (cOut_tr (cOut_hi o1) (cOut_fr f2)) (cInv_st i1 f2 r2 (wf_sep w hk))
      have hs' : slot (wA (wPut W (wA W))) d = some k := hs
      rw [tf0, obind, oT_l, e1, obind, c_partnerOf (n := n) i1.1 w hn hd, obind, c_slotOf (n := n) i1.1 w hn hd, obind, hs', oz_s, e2, obind]
      rfl
def sShut (A : Ab) (e : Int) : Int × Int × Ab := if decide (0 ≤ e) && decide (e < aEn A) then (0, (aEn A : Int) - 1, uEx A (aEn A - 1) (sh e.toNat (aEx A))) else (1, 0, A)
theorem exB {A : Ab} {e : Int} : (decide (0 ≤ e) && decide (e < (aEn A : Int))) = true ↔ 0 ≤ e ∧ e < aEn A := by
  rw [Bool.and_eq_true, decide_eq_true_eq, decide_eq_true_eq]
theorem c_exitF (h : repC 1 m (wA W)) (w : wfA (wA W)) {e : Int} (he : -2147483648 ≤ e ∧ e < 2147483648) : fX8_exitFault (z e) m = some (if 0 ≤ e ∧ e < aEn (wA W) then z 0 else z 1) := by
  have w6 := w.2.2.2.2.2.2.1
  unfold fX8_exitFault
  rw [h.2.2.2.2.2.1]
  simp (disch := omega) only [z_lt]
  by_cases h0 : e < 0
  · rw [if_pos h0, if_neg (by omega)]
  · rw [if_neg h0]
    by_cases h1 : e < (aEn (wA W) : Int)
    · rw [if_pos h1, if_pos (by omega)]
    · rw [if_neg h1, if_neg (by omega)]
theorem c_removeExit (h : cInv m W) (hn : 20 ≤ n) {e : Int} (he : -2147483648 ≤ e ∧ e < 2147483648) : cRes m W (fX8_removeExit n (z e) m) (sShut (wA W) e) (fun _ => 0) := by
  have w := h.2.1
  unfold fX8_removeExit sShut
  rw [c_exitF (W := W) h.1 w he, obind]
  by_cases hg : 0 ≤ e ∧ e < aEn (wA W)
  · obtain ⟨g, rfl⟩ : ∃ g : Nat, e = (g : Int) := ⟨e.toNat, by omega⟩
    have hge : g < aEn (wA W) := by omega
    rw [if_pos hg, if_pos (exB.mpr hg), Int.toNat_natCast]
    obtain ⟨m1, e1, i1, o1⟩ := c_remember h
    obtain ⟨m2, e2, f2, r2⟩ := c_close (n := n) i1.1 w hn hge
    refine cRes_ok (m' := m2) ?_ (cOut_tr (cOut_hi o1) (cOut_fr f2)) (cInv_st i1 f2 r2 (wf_close w hge))
    rw [tf0, obind, oT_l, e1, obind, e2, obind, r2.2.2.2.2.2.1]
    show some (Sum.inl (z ((aEn (wA W) - 1 : Nat) : Int)), m2) = _
    rw [show ((aEn (wA W) - 1 : Nat) : Int) = (aEn (wA W) : Int) - 1 by omega]
  · rw [if_neg hg, if_neg (fun q => hg (exB.mp q))]
    refine cRes_ex (by decide) ?_ cOut_rf h
    rw [tf1]
    rfl
end CPUB

