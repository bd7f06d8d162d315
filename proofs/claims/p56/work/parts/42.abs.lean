/-! what a state is, and how either side holds it -/
abbrev Ab : Type := (Nat → Bool) × (Nat × Nat) × ((Nat → Nat) × (Nat → Nat) × (Nat → Nat) × (Nat → Int)) × ((Nat → Nat) × (Nat → Nat → Nat)) × (Nat × (Nat → Nat)) × (Int32 × Int32 × Int32 × Int32)
abbrev aP (A : Ab) : Nat → Bool := A.1
abbrev aC (A : Ab) : Nat := A.2.1.1
abbrev aX (A : Ab) : Nat := A.2.1.2
abbrev aNu (A : Ab) : Nat → Nat := A.2.2.1.1
abbrev aCe (A : Ab) : Nat → Nat := A.2.2.1.2.1
abbrev aNa (A : Ab) : Nat → Nat := A.2.2.1.2.2.1
abbrev aPa (A : Ab) : Nat → Int := A.2.2.1.2.2.2
abbrev aFl (A : Ab) : Nat → Nat := A.2.2.2.1.1
abbrev aFm (A : Ab) : Nat → Nat → Nat := A.2.2.2.1.2
abbrev aEn (A : Ab) : Nat := A.2.2.2.2.1.1
abbrev aEx (A : Ab) : Nat → Nat := A.2.2.2.2.1.2
abbrev aLo (A : Ab) : Int32 := A.2.2.2.2.2.1
abbrev aBr (A : Ab) : Int32 := A.2.2.2.2.2.2.1
abbrev aGi (A : Ab) : Int32 := A.2.2.2.2.2.2.2.1
abbrev aGo (A : Ab) : Int32 := A.2.2.2.2.2.2.2.2
/-- the letter of a move -/
def letr (v : Nat) : Int := if v = 0 then 85 else if v = 1 then 68 else if v = 2 then 76 else if v = 3 then 82 else 83
/-- a State of the class -/
def repC (q : Nat) (m : pmI) (A : Ab) : Prop :=
  (∀ k, k < 64 → bt (m.2 q 0) k = aP A k) ∧ m.1 q 1 = z (aC A) ∧ m.1 q 2 = z (aX A) ∧
  (∀ k, k < aC A → m.1 (q + 1) k = z (aNu A k) ∧ m.1 (q + 2) k = z (aCe A k) ∧ m.1 (q + 3) k = z (aNa A k) ∧ m.1 (q + 4) k = z (aPa A k)) ∧
  (∀ f, f < 6 → m.1 (q + 6) f = z (aFl A f) ∧ ∀ b, b < aFl A f → m.1 (q + 5) (12 * f + b) = z (aFm A f b)) ∧
  m.1 q 9 = z (aEn A) ∧ (∀ k, k < aEn A → m.1 (q + 7) k = z (aEx A k)) ∧
  m.1 q 11 = aLo A ∧ m.1 q 12 = aBr A ∧ m.1 q 13 = aGi A ∧ m.1 q 14 = aGo A
/-- a state in a row of the model -/
def rP (r : Nat → Int32) (A : Ab) : Prop := (∀ k, k < 64 → r (8 + k) = if aP A k = true then z 1 else z 0) ∧ r 0 = z (cnt (aP A) 64)
def rD (r : Nat → Int32) (A : Ab) : Prop := r 1 = z (aC A) ∧ r 2 = z (aX A) ∧ ∀ k, k < aC A → r (72 + 4 * k) = z (aNu A k) ∧ r (72 + 4 * k + 1) = z (aCe A k) ∧ r (72 + 4 * k + 2) = z (aNa A k) ∧ r (72 + 4 * k + 3) = z (aPa A k + 1)
def rF (r : Nat → Int32) (A : Ab) : Prop := ∀ f, f < 6 → r (104 + 13 * f) = z (aFl A f) ∧ ∀ b, b < aFl A f → r (104 + 13 * f + 1 + b) = z (letr (aFm A f b))
def rE (r : Nat → Int32) (A : Ab) : Prop := r 3 = z (aEn A) ∧ ∀ k, k < aEn A → r (182 + k) = z (aEx A k)
def rM (r : Nat → Int32) (A : Ab) : Prop := r 7 = aLo A ∧ r 4 = aBr A ∧ r 5 = aGi A ∧ r 6 = aGo A
def repR (r : Nat → Int32) (A : Ab) : Prop := rP r A ∧ rD r A ∧ rF r A ∧ rE r A ∧ rM r A
theorem rP_fr {r r' : Nat → Int32} {A : Ab} (h : rP r A) (e0 : r' 0 = r 0) (e : ∀ b, 8 ≤ b → b < 72 → r' b = r b) : rP r' A := ⟨fun k hk => (e _ (by omega) (by omega)).trans (h.1 k hk), e0.trans h.2⟩
theorem rD_fr {r r' : Nat → Int32} {A : Ab} (h : rD r A) (w : aC A ≤ 8) (e : ∀ b, b = 1 ∨ b = 2 ∨ (72 ≤ b ∧ b < 104) → r' b = r b) : rD r' A :=
  ⟨(e _ (by omega)).trans h.1, (e _ (by omega)).trans h.2.1, fun k hk => ⟨(e _ (by omega)).trans (h.2.2 k hk).1, (e _ (by omega)).trans (h.2.2 k hk).2.1, (e _ (by omega)).trans (h.2.2 k hk).2.2.1, (e _ (by omega)).trans (h.2.2 k hk).2.2.2⟩⟩
theorem rF_fr {r r' : Nat → Int32} {A : Ab} (h : rF r A) (w : ∀ f, f < 6 → aFl A f ≤ 12) (e : ∀ b, 104 ≤ b → b < 182 → r' b = r b) : rF r' A :=
  fun f hf => ⟨(e _ (by omega) (by omega)).trans (h f hf).1, fun b hb => (e _ (by omega) (by have := w f hf; omega)).trans ((h f hf).2 b hb)⟩
theorem rE_fr {r r' : Nat → Int32} {A : Ab} (h : rE r A) (w : aEn A ≤ 6) (e : ∀ b, b = 3 ∨ (182 ≤ b ∧ b < 188) → r' b = r b) : rE r' A := ⟨(e _ (by omega)).trans h.1, fun k hk => (e _ (by omega)).trans (h.2 k hk)⟩
theorem rM_fr {r r' : Nat → Int32} {A : Ab} (h : rM r A) (e : ∀ b, 4 ≤ b → b < 8 → r' b = r b) : rM r' A := ⟨(e _ (by omega) (by omega)).trans h.1, (e _ (by omega) (by omega)).trans h.2.1, (e _ (by omega) (by omega)).trans h.2.2.1, (e _ (by omega) (by omega)).trans h.2.2.2⟩
/-- the nails of the first k dancers -/
def nsum (f : Nat → Nat) : Nat → Nat
  | 0 => 0
  | k + 1 => nsum f k + f k
def wfA (A : Ab) : Prop :=
  aC A ≤ 8 ∧ aX A ≤ 1000000 ∧
  (∀ k, k < aC A → aNu A k < aX A ∧ aCe A k < 64 ∧ aNa A k ≤ 20 ∧ aP A (aCe A k) = false) ∧
  (∀ i j, i < j → j < aC A → aNu A i < aNu A j ∧ ¬ aCe A i = aCe A j) ∧
  (∀ i, i < aC A → aPa A i = -1 ∨ ∃ j, j < aC A ∧ ¬ j = i ∧ aPa A i = (aNu A j : Int) ∧ aPa A j = (aNu A i : Int)) ∧
  (∀ f, f < 6 → aFl A f ≤ 12 ∧ ∀ b, b < aFl A f → aFm A f b < 5) ∧
  aEn A ≤ 6 ∧ (∀ k, k < aEn A → aEx A k < 64) ∧ (∀ i j, i < j → j < aEn A → ¬ aEx A i = aEx A j) ∧
  cnt (aP A) 64 ≤ 20 ∧ aLo A = aBr A + aGi A - z (nsum (aNa A) (aC A)) - aGo A
/-- rows that stay -/
def fr (S : Nat → Bool) (m m' : pmI) : Prop := ∀ i, S i = false → m'.1 i = m.1 i ∧ m'.2 i = m.2 i
theorem fr_rf {S : Nat → Bool} {m : pmI} : fr S m m := fun _ _ => ⟨rfl, rfl⟩
theorem fr_tr {S : Nat → Bool} {m m1 m2 : pmI} (h1 : fr S m m1) (h2 : fr S m1 m2) : fr S m m2 := fun i hi => ⟨(h2 i hi).1.trans (h1 i hi).1, (h2 i hi).2.trans (h1 i hi).2⟩
theorem fr_up {S S' : Nat → Bool} {m m1 : pmI} (h : fr S m m1) (hs : ∀ i, S i = true → S' i = true) : fr S' m m1 := fun i hi => h i (by
  cases hq : S i with
  | false => rfl
  | true => rw [hs i hq] at hi; cases hi)
theorem fr_pm {S : Nat → Bool} {m m1 : pmI} (h : fr S m m1) {q : Nat} (hq : S q = true) (k : Nat) (x : Int32) : fr S m (pmU m1.1 q k x, m1.2) := fun i hi => by
  have hne : i ≠ q := fun e => by rw [e, hq] at hi; cases hi
  refine ⟨?_, (h i hi).2⟩
  rw [← (h i hi).1]
  funext b
  exact pU_ne _ _ _ _ hne
theorem fr_pmJ {S : Nat → Bool} {m m1 : pmI} (h : fr S m m1) {q : Nat} (hq : S q = true) (k : Nat) (x : Int64) : fr S m (m1.1, pmU m1.2 q k x) := fun i hi => by
  have hne : i ≠ q := fun e => by rw [e, hq] at hi; cases hi
  refine ⟨(h i hi).1, ?_⟩
  rw [← (h i hi).2]
  funext b
  exact pU_ne _ _ _ _ hne
theorem repC_fr {q : Nat} {m m' : pmI} {A : Ab} (h : repC q m A) (hm : ∀ i, q ≤ i → i ≤ q + 7 → m'.1 i = m.1 i ∧ m'.2 i = m.2 i) : repC q m' A := by
  have e := fun i h1 h2 => (hm i h1 h2).1
  obtain ⟨h1, h2, h3, h4, h5, h6, h7, h8⟩ := h
  unfold repC
  rw [e q (by omega) (by omega), e (q + 1) (by omega) (by omega), e (q + 2) (by omega) (by omega), e (q + 3) (by omega) (by omega), e (q + 4) (by omega) (by omega), e (q + 5) (by omega) (by omega), e (q + 6) (by omega) (by omega), e (q + 7) (by omega) (by omega), (hm q (by omega) (by omega)).2]
  exact ⟨h1, h2, h3, h4, h5, h6, h7, h8⟩
theorem repR_fr {r r' : Nat → Int32} {A : Ab} (h : repR r A) (w : wfA A) (e : ∀ b, b < 188 → r' b = r b) : repR r' A :=
  ⟨rP_fr h.1 (e _ (by omega)) (fun b h1 h2 => e b (by omega)), rD_fr h.2.1 w.1 (fun b h1 => e b (by omega)), rF_fr h.2.2.1 (fun f hf => (w.2.2.2.2.2.1 f hf).1) (fun b h1 h2 => e b (by omega)), rE_fr h.2.2.2.1 w.2.2.2.2.2.2.1 (fun b h1 => e b (by omega)), rM_fr h.2.2.2.2 (fun b h1 h2 => e b (by omega))⟩
def oz : Option Nat → Int
  | none => -1
  | some j => (j : Int)
theorem oz_s {j : Nat} : oz (some j) = (j : Int) := rfl
theorem oz_n : oz none = -1 := rfl
theorem oz_lt {d c : Nat} {P : Nat → Bool} {i : Nat} (h : i + d ≤ c) (hc : c ≤ 100000) : -1 ≤ oz (ff P d i) ∧ oz (ff P d i) < c := by
  cases hf : ff P d i with
  | none =>
    show -1 ≤ (-1 : Int) ∧ (-1 : Int) < c
    omega
  | some j =>
    obtain ⟨h1, h2, -, -⟩ := ff_some hf
    unfold oz
    show -1 ≤ (j : Int) ∧ (j : Int) < c
    omega
/-- where the dancer of a number stands in the row -/
def slot (A : Ab) (d : Int) : Option Nat := ff (fun k => decide ((aNu A k : Int) = d)) (aC A) 0
/-- .. the one on a cell -/
def spot (A : Ab) (c : Int) : Option Nat := ff (fun k => decide ((aCe A k : Int) = c)) (aC A) 0
section CST
variable {m : pmI} {A : Ab} {n : Nat}
theorem c_slotOf (h : repC 1 m A) (w : wfA A) (hn : 20 ≤ n) {d : Int} (hd : -2147483648 ≤ d ∧ d < 2147483648) : fX6_slotOf_1 n (z d) m = some (z (oz (slot A d))) := by
  obtain ⟨-, h2, -, h4, -⟩ := h
  obtain ⟨w1, w2, w3, -⟩ := w
  unfold fX6_slotOf_1
  have e := srch (lX6_slotOf_1_l2 n (z d) m) (aC A) (fun k => decide ((aNu A k : Int) = d)) (fun k => z (k : Int)) (fun k i hi => by
    show bX6_slotOf_1_l2 n (z d) m (lX6_slotOf_1_l2 n (z d) m k) (z (i : Int)) = _
    unfold bX6_slotOf_1_l2
    have hw := w3 i hi
    rw [h2, if_pos (zlt (by omega)), a_2 (by omega), obind, (h4 i hi).1, z_add]
    simp (disch := omega) only [z_eq, decide_eq_true_eq]) (fun k => by
    show bX6_slotOf_1_l2 n (z d) m (lX6_slotOf_1_l2 n (z d) m k) (z (aC A : Int)) = _
    unfold bX6_slotOf_1_l2
    rw [h2, if_neg (zge (by omega))]) (aC A) 0 n (by omega) (by omega)
  rw [show z 0 = z ((0 : Nat) : Int) from rfl, e]
  unfold slot
  cases ff (fun k => decide ((aNu A k : Int) = d)) (aC A) 0 <;> rfl
theorem c_slotAt (h : repC 1 m A) (w : wfA A) (hn : 20 ≤ n) {d : Int} (hd : -2147483648 ≤ d ∧ d < 2147483648) : fX6_slotAt_1 n (z d) m = some (z (oz (spot A d))) := by
  obtain ⟨-, h2, -, h4, -⟩ := h
  obtain ⟨w1, w2, w3, -⟩ := w
  unfold fX6_slotAt_1
  have e := srch (lX6_slotAt_1_l2 n (z d) m) (aC A) (fun k => decide ((aCe A k : Int) = d)) (fun k => z (k : Int)) (fun k i hi => by
    show bX6_slotAt_1_l2 n (z d) m (lX6_slotAt_1_l2 n (z d) m k) (z (i : Int)) = _
    unfold bX6_slotAt_1_l2
    have hw := w3 i hi
    rw [h2, if_pos (zlt (by omega)), a_3 (by omega), obind, (h4 i hi).2.1, z_add]
    simp (disch := omega) only [z_eq, decide_eq_true_eq]) (fun k => by
    show bX6_slotAt_1_l2 n (z d) m (lX6_slotAt_1_l2 n (z d) m k) (z (aC A : Int)) = _
    unfold bX6_slotAt_1_l2
    rw [h2, if_neg (zge (by omega))]) (aC A) 0 n (by omega) (by omega)
  rw [show z 0 = z ((0 : Nat) : Int) from rfl, e]
  unfold spot
  cases ff (fun k => decide ((aCe A k : Int) = d)) (aC A) 0 <;> rfl
end CST

