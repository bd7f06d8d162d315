/-! both sides: props taken, dancers brought, separated, sent away (the model) -/
def uD (A : Ab) (c x : Nat) (nu ce na : Nat → Nat) (pa : Nat → Int) : Ab := (A.1, (c, x), (nu, ce, na, pa), A.2.2.2)
def uFg (A : Ab) (fl : Nat → Nat) (fm : Nat → Nat → Nat) : Ab := (A.1, A.2.1, A.2.2.1, (fl, fm), A.2.2.2.2)
def uEx (A : Ab) (e : Nat) (ex : Nat → Nat) : Ab := (A.1, A.2.1, A.2.2.1, A.2.2.2.1, (e, ex), A.2.2.2.2.2)
def uMo (A : Ab) (lo br gi go : Int32) : Ab := (A.1, A.2.1, A.2.2.1, A.2.2.2.1, A.2.2.2.2.1, (lo, br, gi, go))
def sTake (A : Ab) (x y : Int) : Int × Int × Ab :=
  if isCb x y = true then (if aP A (8 * y + x).toNat = true then (0, (cnt (aP A) 64 : Int) - 1, uP A (fun k => if k = (8 * y + x).toNat then false else aP A k)) else (2, 0, A)) else (1, 0, A)
def sAdd (A : Ab) (x y v : Int) : Int × Int × Ab :=
  if isCb x y = true then (if 0 ≤ v ∧ v ≤ 20 then (if aP A (8 * y + x).toNat = true ∨ ¬ spot A (8 * y + x) = none ∨ aC A = 8 then (3, 0, A) else
    (0, (aX A : Int), uMo (uD A (aC A + 1) (aX A + 1) (fun k => if k = aC A then aX A else aNu A k) (fun k => if k = aC A then (8 * y + x).toNat else aCe A k) (fun k => if k = aC A then v.toNat else aNa A k) (fun k => if k = aC A then -1 else aPa A k)) (aLo A) (aBr A + z v) (aGi A) (aGo A))) else (2, 0, A)) else (1, 0, A)
/-- two who part -/
def pSep (A : Ab) (k : Nat) : Nat → Int := if aPa A k = -1 then aPa A else fun i => if i = k then -1 else if some i = slot A (aPa A k) then -1 else aPa A i
def uPa (A : Ab) (pa : Nat → Int) : Ab := uD A (aC A) (aX A) (aNu A) (aCe A) (aNa A) pa
def sh {α : Type} (k : Nat) (f : Nat → α) : Nat → α := fun i => if i < k then f i else f (i + 1)
/-- one who goes away -/
def uGone (A : Ab) (k : Nat) : Ab := uMo (uD A (aC A - 1) (aX A) (sh k (aNu A)) (sh k (aCe A)) (sh k (aNa A)) (sh k (aPa A))) (aLo A) (aBr A) (aGi A) (aGo A + z (aNa A k))
def sRemove (A : Ab) (d : Int) : Int × Int × Ab := match slot A d with
  | none => (1, 0, A)
  | some k => (0, (aC A : Int) - 1, uGone (uPa A (pSep A k)) k)
def pPair (A : Ab) (i j : Nat) (a b : Int) : Nat → Int := fun k => if k = j then a else if k = i then b else aPa A k
def sPair (A : Ab) (a b : Int) : Int × Int × Ab := match slot A a, slot A b with
  | some i, some j => if i = j then (2, 0, A) else if ¬ aPa A i = -1 ∨ ¬ aPa A j = -1 then (3, 0, A) else
      (0, (((cnt (fun k => decide (¬ pPair A i j a b k = -1)) (aC A) / 2 : Nat)) : Int), uPa A (pPair A i j a b))
  | some _, none => (1, 0, A)
  | none, _ => (1, 0, A)
def sRenew (A : Ab) (d : Int) : Int × Int × Ab := match slot A d with
  | none => (1, 0, A)
  | some k => (0, (aNa A k : Int), uMo (uD A (aC A) (aX A) (aNu A) (aCe A) (fun i => if i = k then 20 else aNa A i) (aPa A)) (aLo A) (aBr A) (aGi A + (z 20 - z (aNa A k))) (aGo A))
theorem slot_lt {A : Ab} {d : Int} {k : Nat} (h : slot A d = some k) : k < aC A ∧ (aNu A k : Int) = d := by
  obtain ⟨h1, h2, h3, -⟩ := ff_some h
  exact ⟨by omega, of_decide_eq_true h3⟩
theorem slot_at {A : Ab} (w : wfA A) {k : Nat} (hk : k < aC A) : slot A (aNu A k : Int) = some k := by
  refine ff_at (Nat.zero_le _) (by omega) (decide_eq_true rfl) (fun t _ ht => decide_eq_false ?_)
  have := (w.2.2.2.1 t k ht hk).1
  omega
theorem slot_no {A : Ab} {d : Int} (h : slot A d = none) {k : Nat} (hk : k < aC A) : ¬ (aNu A k : Int) = d := of_decide_eq_false (ff_none h k (Nat.zero_le _) (by omega))
theorem slot_pa {A : Ab} (w : wfA A) {k : Nat} (hk : k < aC A) (hp : ¬ aPa A k = -1) : ∃ j, j < aC A ∧ ¬ j = k ∧ slot A (aPa A k) = some j ∧ aPa A j = (aNu A k : Int) := by
  rcases w.2.2.2.2.1 k hk with h | ⟨j, h1, h2, h3, h4⟩
  · exact absurd h hp
  · refine ⟨j, h1, h2, ?_, h4⟩
    rw [h3]
    exact slot_at w h1
section OPS2
variable {m : pmI} {A : Ab} {n : Nat}
theorem m_takes (h : repR (m.1 114) A) (w : wfA A) {x y : Int} (hx : -2147483648 ≤ x ∧ x < 2147483648) (hy : -2147483648 ≤ y ∧ y < 2147483648) : mRes m (fX9_takes (z x) (z y) m) (sTake A x y) := by
  unfold fX9_takes sTake
  by_cases hc : isC x y
  · obtain ⟨m1, e1, t1, f1, r1⟩ := m_t0 (m := m) (z 1)
    have h1 : repR (m1.1 114) A := (r1 ▸ h)
    rw [(m_isCell hx hy m).1 hc, obind, if_neg z10, if_pos (isCb_t hc)]
    unfold jX9_takes_14
    rw [e1, obind]
    dsimp only
    rw [if_pos rfl]
    obtain ⟨c, hc1, hc2, hc3⟩ := isC_nat hc
    rw [z_mul, z_add, hc3, hc2, Int.toNat_natCast, m_isProp h1 hc1, obind]
    by_cases hq : aP A c = true
    · rw [if_pos hq, if_pos hq, if_neg z10]
      obtain ⟨m2, e2, t2, f2, r2⟩ := m_t0 (m := m1) (z 2)
      unfold jX9_takes_40
      rw [e2, obind]
      dsimp only
      have hi : (z 8 + z x) + z 8 * z y = z (8 + c) := by
        rw [z_mul, z_add, z_add]
        congr 1
        omega
      rw [if_pos rfl, hi, if_pos (okI_z (by omega)), z_natI (by omega), show (8 + (c : Int)).toNat = 8 + c by omega, pmLet_eq, pmLet_eq]
      have h2 : repR (m2.1 114) A := (r2 ▸ h1)
      have c2 : m2.1 114 0 = z (cnt (aP A) 64) := h2.1.2
      obtain ⟨m3, e3, f3, t3, r3⟩ := m_w m2 (8 + c) (z 0)
      rw [e3]
      obtain ⟨m4, e4, f4, t4, r4⟩ := m_w m3 0 (m3.1 114 0 - z 1)
      rw [e4]
      have c4 : m4.1 114 0 = z ((cnt (aP A) 64 : Int) - 1) := by
        rw [r4, if_pos rfl, r3, if_neg (by omega), c2, z_sub]
      have k4 : ∀ b, ¬ b = 0 → ¬ b = 8 + c → m4.1 114 b = m2.1 114 b := fun b h1 h2 => by rw [r4, if_neg h1, r3, if_neg h2]
      refine ⟨m4, by rw [c4], by rw [t4, t3]; exact t2, mfr_tr (mfr_tr f1 f2) (mfr_tr f3 f4), ⟨fun k hk => ?_, ?_⟩, rD_fr h2.2.1 w.1 (fun b hb => k4 b (by omega) (by omega)), rF_fr h2.2.2.1 (fun f hf => (w.2.2.2.2.2.1 f hf).1) (fun b h1 h2 => k4 b (by omega) (by omega)), rE_fr h2.2.2.2.1 w.2.2.2.2.2.2.1 (fun b hb => k4 b (by omega) (by omega)), rM_fr h2.2.2.2.2 (fun b h1 h2 => k4 b (by omega) (by omega))⟩
      · show _ = if (if k = c then false else aP A k) = true then z 1 else z 0
        by_cases e : k = c
        · rw [if_pos e, if_neg (by decide), r4, if_neg (by omega), r3, if_pos (by omega)]
        · rw [if_neg e, k4 _ (by omega) (by omega)]
          exact h2.1.1 k hk
      · rw [c4]
        show _ = z ((cnt (fun k => if k = c then false else aP A k) 64 : Nat) : Int)
        rw [← cnt_clr hq hc1]
        congr 1
        omega
    · rw [if_neg hq, if_neg hq, if_pos rfl]
      obtain ⟨m2, e2, t2, f2, r2⟩ := m_t1 (m := m1) (z 2)
      unfold jX9_takes_40
      rw [e2, obind]
      dsimp only
      rw [if_neg z10]
      exact ⟨m2, rfl, t2, mfr_tr f1 f2, (r2 ▸ h1)⟩
  · obtain ⟨m1, e1, t1, f1, r1⟩ := m_t1 (m := m) (z 1)
    rw [(m_isCell hx hy m).2 hc, obind, if_pos rfl, if_neg (by rw [isCb_f hc]; decide)]
    unfold jX9_takes_14
    rw [e1, obind]
    dsimp only
    rw [if_neg z10]
    exact ⟨m1, rfl, t1, f1, (r1 ▸ h)⟩
theorem m_sets {k j : Nat} (hk : k < 8) (hj : j < 4) (x : Int32) (m : pmI) : ∃ m', fX9_sets (z (k : Int)) (z (j : Int)) x m = some m' ∧ mfr m m' ∧ m'.1 113 = m.1 113 ∧ ∀ b, m'.1 114 b = if b = 72 + 4 * k + j then x else m.1 114 b := by
  obtain ⟨m', e, h1, h2, h3⟩ := m_w m (72 + 4 * k + j) x
  refine ⟨m', ?_, h1, h2, h3⟩
  unfold fX9_sets
  rw [z_mul, z_add, z_add, if_pos (okI_z (by omega)), z_natI (by omega), show (72 + 4 * (k : Int) + (j : Int)).toNat = 72 + 4 * k + j by omega, e]
theorem m_adds (h : repR (m.1 114) A) (w : wfA A) (hn : 20 ≤ n) {x y v : Int} (hx : -2147483648 ≤ x ∧ x < 2147483648) (hy : -2147483648 ≤ y ∧ y < 2147483648) (hv : -2147483648 ≤ v ∧ v < 2147483648) : mRes m (fX9_adds n (z x) (z y) (z v) m) (sAdd A x y v) := by
  unfold fX9_adds sAdd
  by_cases hc : isC x y
  · obtain ⟨m1, e1, t1, f1, r1⟩ := m_t0 (m := m) (z 1)
    have h1 : repR (m1.1 114) A := (r1 ▸ h)
    rw [(m_isCell hx hy m).1 hc, obind, if_neg z10, if_pos (isCb_t hc)]
    unfold jX9_adds_14
    rw [e1, obind]
    dsimp only
    rw [if_pos rfl]
    by_cases hv2 : 0 ≤ v ∧ v ≤ 20
    · rw [m_in (by omega), obind, if_neg z10, if_pos hv2]
      obtain ⟨m2, e2, t2, f2, r2⟩ := m_t0 (m := m1) (z 2)
      have h2 : repR (m2.1 114) A := (r2 ▸ h1)
      unfold jX9_adds_37
      rw [e2, obind]
      dsimp only
      rw [if_pos rfl]
      obtain ⟨c, hc1, hc2, hc3⟩ := isC_nat hc
      rw [z_mul, z_add, hc3, hc2, Int.toNat_natCast, m_free h2 w hn hc1, obind]
      have w1 := w.1
      by_cases hq : aP A c = true ∨ ¬ spot A c = none ∨ aC A = 8
      · rw [if_pos hq]
        have key : mRes m (jX9_adds_69 n (z x) (z y) (z v) m2) (3, 0, A) := by
          obtain ⟨m3, e3, t3, f3, r3⟩ := m_t1 (m := m2) (z 3)
          unfold jX9_adds_69 jX9_adds_74
          rw [e3, obind]
          dsimp only
          rw [if_neg z10]
          exact ⟨m3, rfl, t3, mfr_tr (mfr_tr f1 f2) f3, (r3 ▸ h2)⟩
        by_cases hf : aP A c = true ∨ ¬ spot A c = none
        · rw [if_pos hf, if_pos rfl]
          exact key
        · have e20 : aC A = 8 := by
            rcases hq with hq | hq | hq
            · exact absurd (Or.inl hq) hf
            · exact absurd (Or.inr hq) hf
            · exact hq
          rw [if_neg hf, if_neg z10, if_pos (show m2.1 114 1 = z 8 by rw [h2.2.1.1, e20]; rfl)]
          exact key
      · have n8 : ¬ aC A = 8 := fun e => hq (Or.inr (Or.inr e))
        have nf : ¬ (aP A c = true ∨ ¬ spot A c = none) := fun hf => hq (Or.elim hf Or.inl (fun hf => Or.inr (Or.inl hf)))
        rw [if_neg hq, if_neg nf, if_neg z10, if_neg (show ¬ m2.1 114 1 = z 8 by rw [h2.2.1.1]; exact zne (by omega))]
        obtain ⟨m3, e3, t3, f3, r3⟩ := m_t0 (m := m2) (z 3)
        have h3 : repR (m3.1 114) A := (r3 ▸ h2)
        have w2 := w.2.1
        unfold jX9_adds_74
        rw [e3, obind]
        dsimp only
        have e31 : m3.1 114 1 = z (aC A) := h3.2.1.1
        have e32 : m3.1 114 2 = z (aX A) := h3.2.1.2.1
        rw [if_pos rfl, e31, e32]
        obtain ⟨m4, e4, f4, t4, r4⟩ := m_sets (k := aC A) (j := 0) (by omega) (by omega) (z (aX A)) m3
        rw [show z 0 = z ((0 : Nat) : Int) from rfl, e4, obind]
        obtain ⟨m5, e5, f5, t5, r5⟩ := m_sets (k := aC A) (j := 1) (by omega) (by omega) (z x + z 8 * z y) m4
        rw [show z 1 = z ((1 : Nat) : Int) from rfl, e5, obind]
        obtain ⟨m6, e6, f6, t6, r6⟩ := m_sets (k := aC A) (j := 2) (by omega) (by omega) (z v) m5
        rw [show z 2 = z ((2 : Nat) : Int) from rfl, e6, obind]
        obtain ⟨m7, e7, f7, t7, r7⟩ := m_sets (k := aC A) (j := 3) (by omega) (by omega) (z ((0 : Nat) : Int)) m6
        rw [show z 3 = z ((3 : Nat) : Int) from rfl, e7, obind, pmLet_eq, pmLet_eq, pmLet_eq]
        obtain ⟨m8, e8, f8, t8, r8⟩ := m_w m7 4 (m7.1 114 4 + z v)
        rw [e8]
        obtain ⟨m9, e9, f9, t9, r9⟩ := m_w m8 1 (m8.1 114 1 + z ((1 : Nat) : Int))
        rw [e9]
        obtain ⟨m10, e10, f10, t10, r10⟩ := m_w m9 2 (m9.1 114 2 + z ((1 : Nat) : Int))
        rw [e10]
        have k7 : ∀ b, ¬ (72 + 4 * aC A ≤ b ∧ b < 76 + 4 * aC A) → m7.1 114 b = m3.1 114 b := fun b hb => by rw [r7, if_neg (by omega), r6, if_neg (by omega), r5, if_neg (by omega), r4, if_neg (by omega)]
        have k10 : ∀ b, ¬ b = 1 → ¬ b = 2 → ¬ b = 4 → m10.1 114 b = m7.1 114 b := fun b h1 h2 h3 => by rw [r10, if_neg h2, r9, if_neg h1, r8, if_neg h3]
        have c1 : m10.1 114 1 = z ((aC A + 1 : Nat) : Int) := by
          rw [r10, if_neg (by omega), r9, if_pos rfl, r8, if_neg (by omega), k7 _ (by omega), e31, z_add]
          rfl
        have c2 : m10.1 114 2 = z ((aX A + 1 : Nat) : Int) := by
          rw [r10, if_pos rfl, r9, if_neg (by omega), r8, if_neg (by omega), k7 _ (by omega), e32, z_add]
          rfl
        have c4 : m10.1 114 4 = aBr A + z v := by
          rw [r10, if_neg (by omega), r9, if_neg (by omega), r8, if_pos rfl, k7 _ (by omega), h3.2.2.2.2.2.1]
        have kk : ∀ b, ¬ b = 1 → ¬ b = 2 → ¬ b = 4 → ¬ (72 + 4 * aC A ≤ b ∧ b < 76 + 4 * aC A) → m10.1 114 b = m3.1 114 b := fun b h1 h2 h3 h4 => (k10 b h1 h2 h3).trans (k7 b h4)
        refine ⟨m10, ?_, ?_, ?_, ?_⟩
        · rw [c2, z_sub, show ((aX A + 1 : Nat) : Int) - ((1 : Nat) : Int) = (aX A : Int) by omega]
        · rw [t10, t9, t8, t7, t6, t5, t4]
          exact t3
        · exact mfr_tr (mfr_tr (mfr_tr f1 f2) (mfr_tr f3 f4)) (mfr_tr (mfr_tr f5 (mfr_tr f6 f7)) (mfr_tr f8 (mfr_tr f9 f10)))
        · refine ⟨rP_fr (A := A) h3.1 (kk 0 (by omega) (by omega) (by omega) (by omega)) (fun b h1 h2 => kk b (by omega) (by omega) (by omega) (by omega)), ⟨c1, c2, fun k hk => ?_⟩, rF_fr (A := A) h3.2.2.1 (fun f hf => (w.2.2.2.2.2.1 f hf).1) (fun b h1 h2 => kk b (by omega) (by omega) (by omega) (by omega)), rE_fr (A := A) h3.2.2.2.1 w.2.2.2.2.2.2.1 (fun b hb => kk b (by omega) (by omega) (by omega) (by omega)), ⟨?_, c4, ?_, ?_⟩⟩
          · have hk' : k < aC A + 1 := hk
            show _ = z (((if k = aC A then aX A else aNu A k : Nat)) : Int) ∧ _ = z (((if k = aC A then c else aCe A k : Nat)) : Int) ∧ _ = z (((if k = aC A then v.toNat else aNa A k : Nat)) : Int) ∧ _ = z ((if k = aC A then -1 else aPa A k) + 1)
            by_cases e : k = aC A
            · subst e
              rw [if_pos rfl, if_pos rfl, if_pos rfl, if_pos rfl, k10 _ (by omega) (by omega) (by omega), k10 _ (by omega) (by omega) (by omega), k10 _ (by omega) (by omega) (by omega), k10 _ (by omega) (by omega) (by omega)]
              refine ⟨?_, ?_, ?_, ?_⟩
              · rw [r7, if_neg (by omega), r6, if_neg (by omega), r5, if_neg (by omega), r4, if_pos (by omega)]
              · rw [r7, if_neg (by omega), r6, if_neg (by omega), r5, if_pos (by omega), z_mul, z_add, hc3]
              · rw [r7, if_neg (by omega), r6, if_pos (by omega)]
                congr 1
                omega
              · rw [r7, if_pos (by omega)]
                rfl
            · rw [if_neg e, if_neg e, if_neg e, if_neg e, kk _ (by omega) (by omega) (by omega) (by omega), kk _ (by omega) (by omega) (by omega) (by omega), kk _ (by omega) (by omega) (by omega) (by omega), kk _ (by omega) (by omega) (by omega) (by omega)]
              exact h3.2.1.2.2 k (by omega)
          · exact (kk 7 (by omega) (by omega) (by omega) (by omega)).trans h3.2.2.2.2.1
          · exact (kk 5 (by omega) (by omega) (by omega) (by omega)).trans h3.2.2.2.2.2.2.1
          · exact (kk 6 (by omega) (by omega) (by omega) (by omega)).trans h3.2.2.2.2.2.2.2
    · rw [m_out (by omega), obind, if_pos rfl, if_neg hv2]
      obtain ⟨m2, e2, t2, f2, r2⟩ := m_t1 (m := m1) (z 2)
      unfold jX9_adds_37
      rw [e2, obind]
      dsimp only
      rw [if_neg z10]
      exact ⟨m2, rfl, t2, mfr_tr f1 f2, (r2 ▸ h1)⟩
  · obtain ⟨m1, e1, t1, f1, r1⟩ := m_t1 (m := m) (z 1)
    rw [(m_isCell hx hy m).2 hc, obind, if_pos rfl, if_neg (by rw [isCb_f hc]; decide)]
    unfold jX9_adds_14
    rw [e1, obind]
    dsimp only
    rw [if_neg z10]
    exact ⟨m1, rfl, t1, f1, (r1 ▸ h)⟩
end OPS2
