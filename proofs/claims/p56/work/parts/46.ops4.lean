/-! the model: figures and exits -/
def figB (f : Int) : Bool := decide (0 ≤ f) && decide (f < 6)
theorem figB_t {f : Int} (h : 0 ≤ f ∧ f < 6) : figB f = true := by
  unfold figB
  rw [decide_eq_true h.1, decide_eq_true h.2]
  rfl
theorem figB_f {f : Int} (h : ¬ (0 ≤ f ∧ f < 6)) : figB f = false := by
  unfold figB
  rw [← Bool.not_eq_true]
  simp only [Bool.and_eq_true, decide_eq_true_eq]
  omega
/-- a move by its letter -/
def mvIx (c : Int) : Option Nat := if c = 85 then some 0 else if c = 68 then some 1 else if c = 76 then some 2 else if c = 82 then some 3 else if c = 83 then some 4 else none
theorem mvIx_some {c : Int} {v : Nat} (h : mvIx c = some v) : v < 5 ∧ letr v = c := by
  unfold mvIx at h
  unfold letr
  split at h
  · cases h; exact ⟨by decide, by rename_i e; rw [e]; rfl⟩
  · split at h
    · cases h; exact ⟨by decide, by rename_i e; rw [e]; rfl⟩
    · split at h
      · cases h; exact ⟨by decide, by rename_i e; rw [e]; rfl⟩
      · split at h
        · cases h; exact ⟨by decide, by rename_i e; rw [e]; rfl⟩
        · split at h
          · cases h; exact ⟨by decide, by rename_i e; rw [e]; rfl⟩
          · cases h
def sAppend (A : Ab) (f c : Int) : Int × Int × Ab :=
  if figB f = true then (match mvIx c with
    | none => (2, 0, A)
    | some v => if aFl A f.toNat = 12 then (3, 0, A) else (0, ((aFl A f.toNat + 1 : Nat) : Int), uFg A (fun g => if g = f.toNat then aFl A f.toNat + 1 else aFl A g) (fun g b => if g = f.toNat ∧ b = aFl A f.toNat then v else aFm A g b))) else (1, 0, A)
def sClear (A : Ab) (f : Int) : Int × Int × Ab :=
  if figB f = true then (0, ((aFl A f.toNat : Nat) : Int), uFg A (fun g => if g = f.toNat then 0 else aFl A g) (aFm A)) else (1, 0, A)
/-- the exit on a cell -/
def xspot (A : Ab) (c : Int) : Option Nat := ff (fun k => decide ((aEx A k : Int) = c)) (aEn A) 0
def sOpen (A : Ab) (x y : Int) : Int × Int × Ab :=
  if isCb x y = true then (if ¬ xspot A (8 * y + x) = none ∨ aEn A = 6 then (2, 0, A) else (0, ((aEn A : Nat) : Int), uEx A (aEn A + 1) (fun k => if k = aEn A then (8 * y + x).toNat else aEx A k))) else (1, 0, A)

