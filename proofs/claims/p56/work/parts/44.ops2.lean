/-! both sides: props taken, dancers brought, separated, sent away (the model) -/
def uD (A : Ab) (c x : Nat) (nu ce na : Nat → Nat) (pa : Nat → Int) : Ab := (A.1, (c, x), (nu, ce, na, pa), A.2.2.2)
def uFg (A : Ab) (fl : Nat → Nat) (fm : Nat → Nat → Nat) : Ab := (A.1, A.2.1, A.2.2.1, (fl, fm), A.2.2.2.2)
def uEx (A : Ab) (e : Nat) (ex : Nat → Nat) : Ab := (A.1, A.2.1, A.2.2.1, A.2.2.2.1, (e, ex), A.2.2.2.2.2)
def uMo (A : Ab) (lo br gi go : Int32) : Ab := (A.1, A.2.1, A.2.2.1, A.2.2.2.1, A.2.2.2.2.1, (lo, br, gi, go))
def sTake (A : Ab) (x y : Int) : Int × Int × Ab :=
  if isCb x y = true then (if aP A (8 * y + x).toNat = true then (0, (cnt (aP A) 64 : Int) - 1, uP A (fun k => if k = (8 * y + x).toNat then false else aP A k)) else (2, 0, A)) else (1, 0, A)
def sAdd (A : Ab) (x y v : Int) : Int × Int × Ab :=
  if isCb x y = true then (if 0 ≤ v ∧ v ≤ 20 then (if aP A (8 * y + x).toNat = true ∨ ¬ spot A (8 * y + x) = none ∨ aC A = 8 then (3, 0, A) else
    (0, (aX A : Int), uMo (uD A (aC A + 1) (aX A + 1) (fun k => if k = aC A then aX A else aNu A k) (fun k => if k = aC A then (8 * y + x).toNat else aCe A k) (fun k => if k = aC A then v.toNat else aNa A k) (fun k => if k = aC A then -1 else aPa A k)) (aLo A) (aBr A + z v) (aGi A) (aGo A))) else (2, 0, A)) else (1, 0, A)
/-- two who part -/
def pSep (A : Ab) (k : Nat) : Nat → Int := if aPa A k = -1 then aPa A else fun i => if i = k then -1 else if some i = slot A (aPa A k) then -1 else aPa A i
def uPa (A : Ab) (pa : Nat → Int) : Ab := uD A (aC A) (aX A) (aNu A) (aCe A) (aNa A) pa
def sh {α : Type} (k : Nat) (f : Nat → α) : Nat → α := fun i => if i < k then f i else f (i + 1)
/-- one who goes away -/
def uGone (A : Ab) (k : Nat) : Ab := uMo (uD A (aC A - 1) (aX A) (sh k (aNu A)) (sh k (aCe A)) (sh k (aNa A)) (sh k (aPa A))) (aLo A) (aBr A) (aGi A) (aGo A + z (aNa A k))
def sRemove (A : Ab) (d : Int) : Int × Int × Ab := match slot A d with
  | none => (1, 0, A)
  | some k => (0, (aC A : Int) - 1, uGone (uPa A (pSep A k)) k)
def pPair (A : Ab) (i j : Nat) (a b : Int) : Nat → Int := fun k => if k = j then a else if k = i then b else aPa A k
def sPair (A : Ab) (a b : Int) : Int × Int × Ab := match slot A a, slot A b with
  | some i, some j => if i = j then (2, 0, A) else if ¬ aPa A i = -1 ∨ ¬ aPa A j = -1 then (3, 0, A) else
      (0, (((cnt (fun k => decide (¬ pPair A i j a b k = -1)) (aC A) / 2 : Nat)) : Int), uPa A (pPair A i j a b))
  | some _, none => (1, 0, A)
  | none, _ => (1, 0, A)
def sRenew (A : Ab) (d : Int) : Int × Int × Ab := match slot A d with
  | none => (1, 0, A)
  | some k => (0, (aNa A k : Int), uMo (uD A (aC A) (aX A) (aNu A) (aCe A) (fun i => if i = k then 20 else aNa A i) (aPa A)) (aLo A) (aBr A) (aGi A + (z 20 - z (aNa A k))) (aGo A))
theorem slot_lt {A : Ab} {d : Int} {k : Nat} (h : slot A d = some k) : k < aC A ∧ (aNu A k : Int) = d := by
  obtain ⟨h1, h2, h3, -⟩ := ff_some h
  exact ⟨by omega, of_decide_eq_true h3⟩
theorem slot_at {A : Ab} (w : wfA A) {k : Nat} (hk : k < aC A) : slot A (aNu A k : Int) = some k := by
  refine ff_at (Nat.zero_le _) (by omega) (decide_eq_true rfl) (fun t _ ht => decide_eq_false ?_)
  have := (w.2.2.2.1 t k ht hk).1
  omega
theorem slot_no {A : Ab} {d : Int} (h : slot A d = none) {k : Nat} (hk : k < aC A) : ¬ (aNu A k : Int) = d := of_decide_eq_false (ff_none h k (Nat.zero_le _) (by omega))
theorem slot_pa {A : Ab} (w : wfA A) {k : Nat} (hk : k < aC A) (hp : ¬ aPa A k = -1) : ∃ j, j < aC A ∧ ¬ j = k ∧ slot A (aPa A k) = some j ∧ aPa A j = (aNu A k : Int) := by
  rcases w.2.2.2.2.1 k hk with h | ⟨j, h1, h2, h3, h4⟩
  · exact absurd h hp
  · refine ⟨j, h1, h2, ?_, h4⟩
    rw [h3]
    exact slot_at w h1

