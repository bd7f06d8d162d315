/-! the prologue, run -/
def prol : Option (dC × Nat × Nat) := prX (prE 5) 58 10 100 (0, pmL0 4 [.ref 99998], [], ([], [], [])) 0 0
def prRefs (R : List (Nat × Nat × Option Nat)) : Bool := (R.all fun w => decide (w.1 < 130) && decide (w.2.1 < 24)) && (List.range 130).all fun q => (List.range 24).all fun k => decide (lk none R q k = pmR0 q k)
def prNeg (q k : Nat) : Bool := decide (q = 0) && (decide (k = 11) || decide (k = 12))
def prInts (N : List (Nat × Nat × Int32)) : Bool := (N.all fun w => decide (w.2.2 = if prNeg w.1 w.2.1 = true then -1 else 0)) && decide (lk 0 N 0 11 = -1) && decide (lk 0 N 0 12 = -1)
def prLoc (L : List (Option Value)) : Bool := match L with
  | [some (.ref a), some (.ref b), some (.int f), none] => decide (a = 99998) && decide (b = 0) && decide (f = 0)
  | _ => false
def prChk (o : Option (dC × Nat × Nat)) : Bool := match o with
  | some w => decide (w.1.1 = 10) && (prLoc w.1.2.1 && ((match w.1.2.2.1 with | [] => true | _ => false) && (decide (w.1.2.2.2.1 = pmG0) && (prInts w.1.2.2.2.2.1 && (prRefs w.1.2.2.2.2.2 && (decide (w.2.1 ≤ 1000) && decide (w.2.2 ≤ 1000000)))))))
  | none => false
set_option maxRecDepth 1000000 in
theorem prChk_t : prChk prol = true := by decide +kernel
theorem pmRl_len : ((List.range 130).all fun q => decide ((pmRl q).length ≤ 24)) = true := by decide +kernel
theorem lk_out {α : Type} {d : α} {i k : Nat} : ∀ {l : List (Nat × Nat × α)}, (l.all fun w => decide (w.1 < 130) && decide (w.2.1 < 24)) = true → (130 ≤ i ∨ 24 ≤ k) → lk d l i k = d
  | [], _, _ => rfl
  | w :: r, h, hi => by
    rw [List.all_cons, Bool.and_eq_true, Bool.and_eq_true, decide_eq_true_eq, decide_eq_true_eq] at h
    show (if i = w.1 then (if k = w.2.1 then w.2.2 else lk d r i k) else lk d r i k) = d
    rw [lk_out h.2 hi]
    split
    · split
      · omega
      · rfl
    · rfl
theorem prRefs_ok {R : List (Nat × Nat × Option Nat)} (h : prRefs R = true) : lk none R = pmR0 := by
  unfold prRefs at h
  rw [Bool.and_eq_true] at h
  obtain ⟨h1, h2⟩ := h
  funext q k
  by_cases hq : q < 130 ∧ k < 24
  · have := List.all_eq_true.mp h2 q (List.mem_range.mpr hq.1)
    exact of_decide_eq_true (List.all_eq_true.mp this k (List.mem_range.mpr hq.2))
  · rw [lk_out h1 (by omega)]
    have e : (pmRl q)[k]? = none := by
      by_cases h3 : q < 130
      · have h4 : (pmRl q).length ≤ 24 := of_decide_eq_true (List.all_eq_true.mp pmRl_len q (List.mem_range.mpr h3))
        exact List.getElem?_eq_none (by omega)
      · rw [pmRl_no (by omega)]
        rfl
    unfold pmR0
    rw [e]
theorem prLoc_ok {L : List (Option Value)} (h : prLoc L = true) : L = [some (.ref 99998), some (.ref 0), some (.int 0), none] := by
  unfold prLoc at h
  split at h
  · simp only [Bool.and_eq_true, decide_eq_true_eq] at h
    obtain ⟨⟨rfl, rfl⟩, rfl⟩ := h
    rfl
  · cases h
theorem prChk_ok {o : Option (dC × Nat × Nat)} (h : prChk o = true) : ∃ N R kc ks, o = some ((10, [some (.ref 99998), some (.ref 0), some (.int 0), none], [], (pmG0, N, R)), kc, ks) ∧ prInts N = true ∧ lk none R = pmR0 ∧ kc ≤ 1000 ∧ ks ≤ 1000000 := by
  unfold prChk at h
  split at h
  · rename_i w
    obtain ⟨⟨pc, L, st, G, N, R⟩, kc, ks⟩ := w
    rw [Bool.and_eq_true, Bool.and_eq_true, Bool.and_eq_true, Bool.and_eq_true, Bool.and_eq_true, Bool.and_eq_true, Bool.and_eq_true] at h
    obtain ⟨a, b, c, d, e, f, g1, g2⟩ := h
    have a : pc = 10 := of_decide_eq_true a
    have b := prLoc_ok b
    have b : L = _ := b
    have d : G = pmG0 := of_decide_eq_true d
    have c : st = [] := by
      dsimp only at c
      split at c
      · rfl
      · cases c
    rw [a, b, c, d]
    exact ⟨N, R, kc, ks, rfl, e, prRefs_ok f, of_decide_eq_true g1, of_decide_eq_true g2⟩
  · cases h
theorem prInts_ok {N : List (Nat × Nat × Int32)} (h : prInts N = true) : (∀ q k, ¬ prNeg q k = true → lk 0 N q k = 0) ∧ (lk 0 N 0 11 = -1 ∧ lk 0 N 0 12 = -1) := by
  unfold prInts at h
  rw [Bool.and_eq_true, Bool.and_eq_true] at h
  obtain ⟨⟨a, b⟩, c⟩ := h
  refine ⟨?_, ⟨of_decide_eq_true b, of_decide_eq_true c⟩⟩
  intro q k hn
  clear b c
  induction N with
  | nil => rfl
  | cons w r ih =>
    rw [List.all_cons, Bool.and_eq_true] at a
    have a1 := of_decide_eq_true a.1
    show (if q = w.1 then (if k = w.2.1 then w.2.2 else lk 0 r q k) else lk 0 r q k) = 0
    rw [ih a.2]
    split
    · split
      · rename_i e1 e2
        rw [a1, ← e1, ← e2, if_neg hn]
      · rfl
    · rfl
/-- the empty world -/
def Ae : Ab := (fun _ => false, (0, 0), (fun _ => 0, fun _ => 0, fun _ => 0, fun _ => -1), (fun _ => 0, fun _ _ => 0), (0, fun _ => 0), (0, 0, 0, 0))
def We : Wd := (Ae, [], none, (0, fun _ => 0), (0, fun _ => 0), -1, -1)
theorem Ae_w : wfA Ae := by
  refine ⟨Nat.zero_le _, Nat.zero_le _, fun k hk => absurd hk (Nat.not_lt_zero _), fun i j _ hj => absurd hj (Nat.not_lt_zero _), fun i hi => absurd hi (Nat.not_lt_zero _), fun f _ => ⟨Nat.zero_le _, fun b hb => absurd hb (Nat.not_lt_zero _)⟩, Nat.zero_le _, fun k hk => absurd hk (Nat.not_lt_zero _), fun i j _ hj => absurd hj (Nat.not_lt_zero _), ?_, ?_⟩
  · decide
  · decide
theorem bt_0 : ∀ k, k < 64 → bt 0 k = false := by decide
theorem We_c {m : pmI} (h1 : ∀ q k, ¬ prNeg q k = true → m.1 q k = 0) (h2 : m.1 0 11 = -1 ∧ m.1 0 12 = -1) (hj : ∀ q k, m.2 q k = 0) : cInv m We := by
  have n1 : ∀ q k, 1 ≤ q → q ≤ 112 → m.1 q k = z 0 := fun q k a b => h1 q k (by
    unfold prNeg
    rw [decide_eq_false (show ¬ q = 0 by omega)]
    exact (show ¬ (false = true) by decide))
  refine ⟨⟨fun k hk => by rw [hj]; exact bt_0 k hk, n1 1 1 (by omega) (by omega), n1 1 2 (by omega) (by omega), fun k hk => absurd hk (Nat.not_lt_zero _), fun f _ => ⟨n1 7 f (by omega) (by omega), fun b hb => absurd hb (Nat.not_lt_zero _)⟩, n1 1 9 (by omega) (by omega), fun k hk => absurd hk (Nat.not_lt_zero _), n1 1 11 (by omega) (by omega), n1 1 12 (by omega) (by omega), n1 1 13 (by omega) (by omega), n1 1 14 (by omega) (by omega)⟩, Ae_w, ⟨0, by omega, n1 25 1 (by omega) (by omega), n1 25 2 (by omega) (by omega), Nat.zero_le _, fun j B h => nomatch h⟩, h1 0 10 (by decide), ⟨Nat.zero_le _, n1 107 1 (by omega) (by omega), fun k hk => absurd hk (Nat.not_lt_zero _)⟩, ⟨Nat.zero_le _, n1 111 1 (by omega) (by omega), fun k hk => absurd hk (Nat.not_lt_zero _)⟩, ⟨h2.1, by decide, by decide⟩, h2.2, by decide, by decide⟩
