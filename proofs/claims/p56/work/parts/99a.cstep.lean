/-! programs: the class executes a command -/
section CSTEP
variable {n T : Nat} {t : Nat → Nat} {A : Ab} {m : pmI}
/-- a fault found, or the change made -/
def CStp (m : pmI) (A : Ab) (s : Int × Int × Ab) (F : Option (Int32 × pmI)) (X : pmI → Option pmI) : Prop := ∃ (c : Int) (m1 : pmI), F = some (z c, m1) ∧ (0 ≤ c ∧ c < 100) ∧ fr cS m m1 ∧ repC 1 m1 A ∧ ((¬ c = 0 ∧ ¬ s.1 = 0) ∨ (c = 0 ∧ s.1 = 0 ∧ ∃ m3, X m1 = some m3 ∧ fr cS m1 m3 ∧ repC 1 m3 s.2.2 ∧ wfA s.2.2))
theorem CStp_bad {s : Int × Int × Ab} {F : Option (Int32 × pmI)} {X : pmI → Option pmI} {m1 : pmI} {c : Int} (hF : F = some (z c, m1)) (hc : 0 < c ∧ c < 100) (hf : fr cS m m1) (h1 : repC 1 m1 A) (hs : ¬ s.1 = 0) : CStp m A s F X := ⟨c, m1, hF, by omega, hf, h1, Or.inl ⟨by omega, hs⟩⟩
theorem CStp_ok {s : Int × Int × Ab} {F : Option (Int32 × pmI)} {X : pmI → Option pmI} {m1 m3 : pmI} (hF : F = some (z 0, m1)) (hf : fr cS m m1) (h1 : repC 1 m1 A) (hs : s.1 = 0) (hX : X m1 = some m3) (hf2 : fr cS m1 m3) (h3 : repC 1 m3 s.2.2) (hw : wfA s.2.2) : CStp m A s F X := ⟨0, m1, hF, by omega, hf, h1, Or.inr ⟨rfl, hs, m3, hX, hf2, h3, hw⟩⟩
def cX (m : pmI) (T : Nat) (t : Nat → Nat) : Prop := ∀ k, k < T → m.1 108 k = z (t k : Int)
def W0 (A : Ab) : Wd := (A, [], none, (0, fun _ => 0), (0, fun _ => 0), 0, 0)
theorem k_prop (h : repC 1 m A) (w : wfA A) (hn : 20 ≤ n) {x y : Int} (hx : -2147483648 ≤ x ∧ x < 2147483648) (hy : -2147483648 ≤ y ∧ y < 2147483648) : CStp m A (sProp A x y) ((fX8_addPropFault n (z x) (z y) m).bind fun v21 => some (v21, m)) (fun m => (fX8_cellAt (z x) (z y) m).bind fun v24 => (fX6_placeProp_1 v24 m).bind fun v25 => some v25) := by
  have e := c_addPropF (W := W0 A) (n := n) h w hn hx hy
  have e : fX8_addPropFault n (z x) (z y) m = some (z (if (sProp A x y).1 = 0 then 0 else if (sProp A x y).1 = 1 then 1 else 3)) := e
  rw [e, obind]
  unfold sProp
  by_cases hc : isC x y
  · obtain ⟨c, hc1, hc2, hc3⟩ := isC_nat hc
    rw [if_pos (isCb_t hc), hc2, Int.toNat_natCast]
    by_cases hq : aP A c = true ∨ ¬ spot A c = none ∨ cnt (aP A) 64 = 20
    · rw [if_pos hq]
      exact CStp_bad (c := 3) rfl (by omega) fr_rf h (show ¬ (2 : Int) = 0 by decide)
    · rw [if_neg hq]
      have hp : aP A c = false := Bool.eq_false_iff.mpr (fun e => hq (Or.inl e))
      have hs : spot A c = none := Decidable.byContradiction (fun e => hq (Or.inr (Or.inl e)))
      have h20 : ¬ cnt (aP A) 64 = 20 := fun e => hq (Or.inr (Or.inr e))
      obtain ⟨m2, e2, f2, r2⟩ := c_placeProp h hc1
      refine CStp_ok (m1 := m) (m3 := m2) rfl fr_rf h rfl ?_ f2 r2 (wf_prop w hc1 hp hs h20)
      show (fX8_cellAt (z x) (z y) m).bind _ = _
      rw [f_cellAt, obind, hc2, e2, obind]
  · rw [if_neg (show ¬ isCb x y = true by rw [isCb_f hc]; decide)]
    exact CStp_bad (c := 1) rfl (by omega) fr_rf h (show ¬ (1 : Int) = 0 by decide)
theorem k_add (h : repC 1 m A) (w : wfA A) (hn : 20 ≤ n) {x y v : Int} (hx : -2147483648 ≤ x ∧ x < 2147483648) (hy : -2147483648 ≤ y ∧ y < 2147483648) (hv : -2147483648 ≤ v ∧ v < 2147483648) (hX : aX A < 1000000) : CStp m A (sAdd A x y v) ((fX8_addDancerFault n (z x) (z y) (z v) m).bind fun v20 => some (v20, m)) (fun m => (fX8_cellAt (z x) (z y) m).bind fun v22 => (fX6_bringDancer_1 v22 (z v) m).bind fun v23 => some v23.2) := by
  have e := c_addDancerF (W := W0 A) (n := n) h w hn hx hy hv
  have e : fX8_addDancerFault n (z x) (z y) (z v) m = some (z (if (sAdd A x y v).1 = 0 then 0 else if (sAdd A x y v).1 = 1 then 1 else if (sAdd A x y v).1 = 2 then 2 else 3)) := e
  rw [e, obind]
  unfold sAdd
  by_cases hc : isC x y
  · obtain ⟨c, hc1, hc2, hc3⟩ := isC_nat hc
    rw [if_pos (isCb_t hc), hc2, Int.toNat_natCast]
    by_cases hv2 : 0 ≤ v ∧ v ≤ 20
    · rw [if_pos hv2]
      by_cases hq : aP A c = true ∨ ¬ spot A c = none ∨ aC A = 8
      · rw [if_pos hq]
        exact CStp_bad (c := 3) rfl (by omega) fr_rf h (show ¬ (3 : Int) = 0 by decide)
      · rw [if_neg hq]
        have hp : aP A c = false := Bool.eq_false_iff.mpr (fun e => hq (Or.inl e))
        have hs : spot A c = none := Decidable.byContradiction (fun e => hq (Or.inr (Or.inl e)))
        have h8 : ¬ aC A = 8 := fun e => hq (Or.inr (Or.inr e))
        have w1 := w.1
        obtain ⟨m2, e2, f2, r2⟩ := c_bring (c := c) (v := v.toNat) h w (show aC A < 8 by omega)
        rw [show ((v.toNat : Nat) : Int) = v by omega] at e2 r2
        have w' := wf_add (v := v.toNat) w hc1 hp hs h8 (by omega) hX
        rw [show ((v.toNat : Nat) : Int) = v by omega] at w'
        refine CStp_ok (m1 := m) (m3 := m2) rfl fr_rf h rfl ?_ f2 r2 w'
        show (fX8_cellAt (z x) (z y) m).bind _ = _
        rw [f_cellAt, obind, hc2, e2, obind]
    · rw [if_neg hv2]
      exact CStp_bad (c := 2) rfl (by omega) fr_rf h (show ¬ (2 : Int) = 0 by decide)
  · rw [if_neg (show ¬ isCb x y = true by rw [isCb_f hc]; decide)]
    exact CStp_bad (c := 1) rfl (by omega) fr_rf h (show ¬ (1 : Int) = 0 by decide)
theorem k_pair (h : repC 1 m A) (w : wfA A) (hn : 20 ≤ n) {a b : Int} (ha : -2147483648 ≤ a ∧ a < 2147483648) (hb : -2147483648 ≤ b ∧ b < 2147483648) : CStp m A (sPair A a b) ((fX8_pairFault n (z a) (z b) m).bind fun v19 => some (v19, m)) (fun m => (fX6_bind_1 n (z a) (z b) m).bind fun v21 => some v21) := by
  have w1 := w.1
  unfold fX8_pairFault sPair
  rw [c_presence h w hn ha, obind]
  cases hs : slot A a with
  | none =>
    rw [if_pos rfl, if_neg (by decide)]
    exact CStp_bad (c := 4) rfl (by omega) fr_rf h (show ¬ (1 : Int) = 0 by decide)
  | some i =>
    have hi := slot_lt hs
    rw [if_neg (Option.some_ne_none i), if_pos rfl, c_presence h w hn hb, obind]
    cases hs2 : slot A b with
    | none =>
      rw [if_pos rfl, if_neg (by decide)]
      exact CStp_bad (c := 4) rfl (by omega) fr_rf h (show ¬ (1 : Int) = 0 by decide)
    | some j =>
      have hj := slot_lt hs2
      rw [if_neg (Option.some_ne_none j), if_pos rfl]
      dsimp only
      by_cases hij : i = j
      · have hab : a = b := by rw [← hi.2, ← hj.2, hij]
        rw [if_pos hij, if_pos (show z a = z b by rw [hab])]
        exact CStp_bad (c := 2) rfl (by omega) fr_rf h (show ¬ (2 : Int) = 0 by decide)
      · have hab : ¬ a = b := fun e => hij (by rw [e, hs2] at hs; exact (Option.some.inj hs).symm)
        rw [if_neg (show ¬ z a = z b from zne (by omega)), if_neg hij, c_partnerOf h w hn ha, obind, hs]
        have bad : CStp m A (3, 0, A) ((jX8_pairFault_53 n m).bind fun v19 => some (v19, m)) (fun m => (fX6_bind_1 n (z a) (z b) m).bind fun v21 => some v21) := by
          unfold jX8_pairFault_53 jX8_pairFault_54
          rw [if_pos rfl]
          exact CStp_bad (c := 3) rfl (by omega) fr_rf h (show ¬ (3 : Int) = 0 by decide)
        have ri := pa_rg w hi.1
        have rj := pa_rg w hj.1
        dsimp only
        by_cases e3 : aPa A i = -1
        · rw [if_pos (show z (aPa A i) = z (-1) by rw [e3]), c_partnerOf h w hn hb, obind, hs2]
          dsimp only
          by_cases e4 : aPa A j = -1
          · rw [if_pos (show z (aPa A j) = z (-1) by rw [e4]), if_neg (show ¬ (¬ aPa A i = -1 ∨ ¬ aPa A j = -1) by omega)]
            obtain ⟨m2, e2, f2, r2⟩ := c_bind (n := n) h w hn hs hs2
            have w2 := wf_pairS w hs hs2 hij e3 e4
            unfold jX8_pairFault_54
            rw [if_neg z10]
            refine CStp_ok (m1 := m) (m3 := m2) rfl fr_rf h rfl ?_ f2 r2 w2
            show (fX6_bind_1 n (z a) (z b) m).bind _ = _
            rw [e2, obind]
          · rw [if_neg (zne (by omega)), if_pos (Or.inr e4)]
            exact bad
        · rw [if_neg (zne (by omega)), if_pos (Or.inl e3)]
          exact bad
theorem k_perf (h : repC 1 m A) (w : wfA A) (hn : 100 ≤ n) {f d : Int} (hf : -2147483648 ≤ f ∧ f < 2147483648) (hd : -2147483648 ≤ d ∧ d < 2147483648) : CStp m A (sPerf A f d) ((fX8_performFault n (z f) (z d) m).bind fun v17 => some (v17.1, v17.2)) (fun m => (fX8_performNow n (z f) (z d) m).bind fun v19 => some v19.2) := by
  obtain ⟨m0, e0, f0⟩ := c_performF (n := n) h w hn hf hd
  have h0 := repC_p h f0
  rw [e0, obind]
  unfold sPerf
  by_cases hg : 0 ≤ f ∧ f < 6
  · obtain ⟨g, rfl⟩ : ∃ g : Nat, f = (g : Int) := ⟨f.toNat, by omega⟩
    have hg6 : g < 6 := by omega
    rw [if_pos (figB_t hg), Int.toNat_natCast]
    cases hs : slot A d with
    | none => exact CStp_bad (c := 4) rfl (by omega) (fr_p f0) h0 (show ¬ (2 : Int) = 0 by decide)
    | some k =>
      dsimp only
      by_cases hl : (dRun A g k).1 < aFl A g
      · rw [if_pos hl]
        exact CStp_bad (c := 5) rfl (by omega) (fr_p f0) h0 (show ¬ (3 : Int) = 0 by decide)
      · rw [if_neg hl]
        obtain ⟨m2, e2, f2, r2⟩ := c_performNow (n := n) h0 w hn hg6 hd hs hl
        refine CStp_ok (m1 := m0) (m3 := m2) rfl (fr_p f0) h0 rfl ?_ f2 r2 (run_ok w (slot_lt hs).1 hg6).2.1
        show (fX8_performNow n (z (g : Int)) (z d) m0).bind _ = _
        rw [e2, obind]
  · rw [if_neg (show ¬ figB f = true by rw [figB_f hg]; decide)]
    exact CStp_bad (c := 1) rfl (by omega) (fr_p f0) h0 (show ¬ (1 : Int) = 0 by decide)
theorem k_walk (h : repC 1 m A) (w : wfA A) (hn : 100 ≤ n) {d x y : Int} (hd : -2147483648 ≤ d ∧ d < 2147483648) (hx : -2147483648 ≤ x ∧ x < 2147483648) (hy : -2147483648 ≤ y ∧ y < 2147483648) : CStp m A (sWalk A d x y) ((fX8_walkFault n (z d) (z x) (z y) m).bind fun v16 => some (v16.1, v16.2)) (fun m => (fX8_walkNow n (z d) (z x) (z y) m).bind fun v18 => some v18) := by
  obtain ⟨m0, e0, f0⟩ := c_walkF (n := n) h w hn hd hx hy
  have h0 := repC_w h f0
  rw [e0, obind]
  unfold sWalk
  cases hs : slot A d with
  | none => exact CStp_bad (c := 4) rfl (by omega) (fr_w f0) h0 (show ¬ (1 : Int) = 0 by decide)
  | some k =>
    have hk := (slot_lt hs).1
    have w1 := w.1
    try dsimp only
    by_cases hc : isC x y
    · obtain ⟨c, hc1, hc2, hc3⟩ := isC_nat hc
      rw [if_pos (isCb_t hc), hc2, Int.toNat_natCast]
      cases hq : dst (clo A true) (aCe A k) c with
      | none => exact CStp_bad (c := 5) rfl (by omega) (fr_w f0) h0 (show ¬ (3 : Int) = 0 by decide)
      | some l =>
        try dsimp only
        by_cases hl : aNa A k < l
        · rw [if_pos hl]
          exact CStp_bad (c := 3) rfl (by omega) (fr_w f0) h0 (show ¬ (4 : Int) = 0 by decide)
        · rw [if_neg hl]
          obtain ⟨m2, e2, f2, r2⟩ := c_walkNow (n := n) h0 w hn hd hs hc1 hc2 hq hl
          refine CStp_ok (m1 := m0) (m3 := m2) rfl (fr_w f0) h0 rfl ?_ f2 r2 (wf_walk w hk hc1 hq hl)
          show (fX8_walkNow n (z d) (z x) (z y) m0).bind _ = _
          rw [e2, obind]
    · rw [if_neg (by rw [isCb_f hc]; decide)]
      exact CStp_bad (c := 1) rfl (by omega) (fr_w f0) h0 (show ¬ (2 : Int) = 0 by decide)
theorem k_exit (h : repC 1 m A) (w : wfA A) (hn : 20 ≤ n) {x y : Int} (hx : -2147483648 ≤ x ∧ x < 2147483648) (hy : -2147483648 ≤ y ∧ y < 2147483648) : CStp m A (sOpen A x y) ((fX8_addExitFault n (z x) (z y) m).bind fun v15 => some (v15, m)) (fun m => (fX8_cellAt (z x) (z y) m).bind fun v16 => (fX6_openExit_1 v16 m).bind fun v17 => some v17) := by
  have w6 := w.2.2.2.2.2.2.1
  unfold fX8_addExitFault sOpen
  by_cases hc : isC x y
  · obtain ⟨c, hc1, hc2, hc3⟩ := isC_nat hc
    rw [(c_cell hx hy m).1 hc, obind, if_pos rfl, f_cellAt, obind, if_pos (isCb_t hc), hc2, Int.toNat_natCast, c_hasExit h w hn (by omega), obind]
    have bad : CStp m A (2, 0, A) ((jX8_addExitFault_41 n m).bind fun v15 => some (v15, m)) (fun m => (fX8_cellAt (z x) (z y) m).bind fun v16 => (fX6_openExit_1 v16 m).bind fun v17 => some v17) := by
      unfold jX8_addExitFault_41 jX8_addExitFault_42
      rw [if_pos rfl]
      exact CStp_bad (c := 3) rfl (by omega) fr_rf h (show ¬ (2 : Int) = 0 by decide)
    by_cases hs : xspot A c = none
    · rw [if_pos hs, if_pos rfl, h.2.2.2.2.2.1]
      by_cases e6 : aEn A = 6
      · rw [if_neg (zge (by omega)), if_pos (Or.inr e6)]
        exact bad
      · rw [if_pos (zlt (by omega)), if_neg (fun q => Or.elim q (fun q => q hs) e6)]
        obtain ⟨m2, e2, f2, r2⟩ := c_open (c := c) h (show aEn A < 6 by omega)
        unfold jX8_addExitFault_42
        rw [if_neg z10]
        refine CStp_ok (m1 := m) (m3 := m2) rfl fr_rf h rfl ?_ f2 r2 (wf_open w hc1 hs e6)
        show (fX8_cellAt (z x) (z y) m).bind _ = _
        rw [f_cellAt, obind, hc2, e2, obind]
    · rw [if_neg hs, if_neg z10, if_pos (Or.inl hs)]
      exact bad
  · rw [(c_cell hx hy m).2 hc, obind, if_neg z10, if_neg (show ¬ isCb x y = true by rw [isCb_f hc]; decide)]
    exact CStp_bad (c := 1) rfl (by omega) fr_rf h (show ¬ (1 : Int) = 0 by decide)
theorem k_nails (h : repC 1 m A) (w : wfA A) (hn : 20 ≤ n) {d : Int} (hd : -2147483648 ≤ d ∧ d < 2147483648) : CStp m A (sRenew A d) ((fX8_presenceFault n (z d) m).bind fun v14 => some (v14, m)) (fun m => (fX6_slotOf_1 n (z d) m).bind fun v14 => (fX6_fillNails_1 v14 m).bind fun v15 => some v15.2) := by
  unfold sRenew
  rw [c_presence h w (by omega) hd, obind]
  cases hs : slot A d with
  | none =>
    rw [if_pos rfl]
    exact CStp_bad (c := 4) rfl (by omega) fr_rf h (show ¬ (1 : Int) = 0 by decide)
  | some k =>
    have hk := (slot_lt hs).1
    obtain ⟨m2, e2, f2, r2⟩ := c_fillNails h w hk
    rw [if_neg (fun h => nomatch h)]
    refine CStp_ok (m1 := m) (m3 := m2) rfl fr_rf h rfl ?_ f2 r2 (wf_renew w hk)
    show (fX6_slotOf_1 n (z d) m).bind _ = _
    rw [c_slotOf (n := n) h w (by omega) hd, obind, hs, oz_s, e2, obind]
theorem k_leave (h : repC 1 m A) (w : wfA A) (hn : 100 ≤ n) : CStp m A (sLeave A) ((fX8_leaveFault n m).bind fun v5 => some (v5.1, v5.2)) (fun m => (fX6_dismissAll_1 n m).bind fun v5 => some v5) := by
  obtain ⟨m0, e0, f0⟩ := c_leaveF (n := n) h w hn
  have h0 := repC_l h f0
  rw [e0, obind]
  unfold sLeave
  split
  · exact CStp_bad (c := 3) rfl (by omega) (fr_l f0) h0 (show ¬ (1 : Int) = 0 by decide)
  · cases hb : bestP A with
    | none => exact CStp_bad (c := 5) rfl (by omega) (fr_l f0) h0 (show ¬ (2 : Int) = 0 by decide)
    | some x =>
      obtain ⟨m2, e2, f2, r2⟩ := c_dismissAll (n := n) h0 w (by omega)
      refine CStp_ok (m1 := m0) (m3 := m2) rfl (fr_l f0) h0 rfl ?_ f2 r2 (wf_none w)
      show (fX6_dismissAll_1 n m0).bind _ = _
      rw [e2, obind]
/-- a figure told anew -/
theorem tellW {f : Nat} (hf : f < 6) : ∀ (d p : Nat) (B : Ab), wfA B → aFl B f + d ≤ 12 → (∀ i, p ≤ i → i < p + d → ¬ mvIx (t i : Int) = none) → wfA (tellL t f d p B) := by
  intro d
  induction d with
  | zero => intro p B w _ _; exact w
  | succ d ih =>
    intro p B w h hm
    obtain ⟨v, hv⟩ := Option.ne_none_iff_exists'.mp (hm p (Nat.le_refl _) (by omega))
    refine ih (p + 1) _ ?_ ?_ (fun i h1 h2 => hm i (by omega) (by omega))
    · rw [hv]
      exact wf_append w hf (by omega) (mvIx_some hv).1
    · show (if f = f then aFl B f + 1 else aFl B f) + d ≤ 12
      rw [if_pos rfl]
      omega
theorem c_tellL (hn : 100 ≤ n) (h : tOk T t) {f : Nat} (hf : f < 6) : ∀ (d p q : Nat) (m : pmI) (B : Ab), d < q → p + d ≤ T → cX m T t → repC 1 m B → wfA B → aFl B f + d ≤ 12 → (∀ i, p ≤ i → i < p + d → ¬ mvIx (t i : Int) = none) → ∃ m', lX8_rewriteFigure_l11 n (z (f : Int)) (z ((p + d : Nat) : Int)) q (z (p : Int)) m = some m' ∧ fr cS m m' ∧ repC 1 m' (tellL t f d p B) := by
  have hT := h.1
  intro d
  induction d with
  | zero =>
    intro p q m B hq hp hm hB w h12 hmv
    obtain ⟨q, rfl⟩ : ∃ j, q = j + 1 := ⟨q - 1, by omega⟩
    show ∃ m', bX8_rewriteFigure_l11 n (z (f : Int)) (z ((p + 0 : Nat) : Int)) (lX8_rewriteFigure_l11 n (z (f : Int)) (z ((p + 0 : Nat) : Int)) q) (z (p : Int)) m = _ ∧ _
    unfold bX8_rewriteFigure_l11
    rw [if_neg (zge (by omega))]
    exact ⟨m, rfl, fr_rf, hB⟩
  | succ d ih =>
    intro p q m B hq hp hm hB w h12 hmv
    obtain ⟨q, rfl⟩ : ∃ j, q = j + 1 := ⟨q - 1, by omega⟩
    obtain ⟨v, hv⟩ := Option.ne_none_iff_exists'.mp (hmv p (Nat.le_refl _) (by omega))
    have hb := h.2 p (by omega)
    obtain ⟨m1, e1, f1, r1⟩ := c_append (v := v) hB w hf (show aFl B f < 12 by omega)
    have hm1 : cX m1 T t := fun k hk => by rw [(f1 108 (by decide)).1]; exact hm k hk
    have w1 := wf_append w hf (show ¬ aFl B f = 12 by omega) (mvIx_some hv).1
    obtain ⟨m2, e2, f2, r2⟩ := ih (p + 1) q m1 _ (by omega) (by omega) hm1 r1 w1 (by
      show (if f = f then aFl B f + 1 else aFl B f) + d ≤ 12
      rw [if_pos rfl]
      omega) (fun i h1 h2 => hmv i (by omega) (by omega))
    show ∃ m', bX8_rewriteFigure_l11 n (z (f : Int)) (z ((p + (d + 1) : Nat) : Int)) (lX8_rewriteFigure_l11 n (z (f : Int)) (z ((p + (d + 1) : Nat) : Int)) q) (z (p : Int)) m = _ ∧ _
    unfold bX8_rewriteFigure_l11 fX4_moveAt_107
    rw [if_pos (zlt (by omega)), if_neg (zge (by omega)), if_pos (zlt (by omega)), if_pos (okI_z (by omega)), z_nat (by omega), hm p (by omega), c_moveIndex (by omega) (by omega), obind, obind, hv, oz_s, e1, obind, show z 1 = z (1 : Int) from rfl, z_add]
    rw [show p + 1 + d = p + (d + 1) by omega] at e2
    refine ⟨m2, e2, fr_tr f1 f2, ?_⟩
    show repC 1 m2 (tellL t f d (p + 1) (uFg B (fun g => if g = f then aFl B f + 1 else aFl B g) (fun g b => if g = f ∧ b = aFl B f then (mvIx (t p : Int)).getD 0 else aFm B g b)))
    rw [hv]
    exact r2
theorem k_tell (h : repC 1 m A) (w : wfA A) (hn : 100 ≤ n) (ht : tOk T t) (hm : cX m T t) {f p q : Nat} (hf : f ≤ 99) (hpq : p ≤ q) (hq : q ≤ T) (hmv : ∀ i, p ≤ i → i < q → ¬ mvIx (t i : Int) = none) : CStp m A (sTell t A f p q) ((fX8_rewriteFault (z (f : Int)) (z (q : Int) - z (p : Int)) m).bind fun v18 => some (v18, m)) (fun m => (fX8_rewriteFigure n (z (f : Int)) (z (p : Int)) (z (q : Int)) m).bind fun v20 => some v20) := by
  have hT := ht.1
  unfold fX8_rewriteFault sTell
  rw [z_sub, c_figF (by omega), obind]
  by_cases hg : 0 ≤ (f : Int) ∧ (f : Int) < 6
  · have hf6 : f < 6 := by omega
    rw [figB_t hg, if_pos rfl, if_pos rfl, if_pos rfl]
    by_cases h12 : q - p ≤ 12
    · rw [if_neg (zge (by omega)), if_pos h12]
      obtain ⟨m1, e1, f1, r1⟩ := c_empty h hf6
      have hm1 : cX m1 T t := fun k hk => by rw [(f1 108 (by decide)).1]; exact hm k hk
      have w1 := wf_clear w hf6
      have h0 : aFl (uFg A (fun g => if g = f then 0 else aFl A g) (aFm A)) f + (q - p) ≤ 12 := by
        show (if f = f then 0 else aFl A f) + (q - p) ≤ 12
        rw [if_pos rfl]
        omega
      have hmv2 : ∀ i, p ≤ i → i < p + (q - p) → ¬ mvIx (t i : Int) = none := fun i h1 h2 => hmv i h1 (by omega)
      obtain ⟨m2, e2, f2, r2⟩ := c_tellL (n := n) hn ht hf6 (q - p) p n m1 _ (by omega) (by omega) hm1 r1 w1 h0 hmv2
      rw [show p + (q - p) = q by omega] at e2
      refine CStp_ok (m1 := m) (m3 := m2) rfl fr_rf h rfl ?_ (fr_tr f1 f2) r2 (tellW hf6 _ _ _ w1 h0 hmv2)
      show (fX8_rewriteFigure n (z (f : Int)) (z (p : Int)) (z (q : Int)) m).bind _ = _
      unfold fX8_rewriteFigure
      rw [e1, obind, e2, obind, obind]
    · rw [if_pos (zlt (by omega)), if_neg h12]
      exact CStp_bad (c := 3) rfl (by omega) fr_rf h (show ¬ (3 : Int) = 0 by decide)
  · have hb : ¬ figB (f : Int) = true := by rw [figB_f hg]; decide
    rw [if_neg hb, if_neg hb, if_neg z10]
    exact CStp_bad (c := 1) rfl (by omega) fr_rf h (show ¬ (1 : Int) = 0 by decide)
end CSTEP

