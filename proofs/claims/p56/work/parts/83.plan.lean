/-! exit plans: the best one, and the first of the best -/
def un (u e : Nat) : Bool := decide (u / 2 ^ e % 2 = 0)
def ad (u e : Nat) : Nat := u + 2 ^ e
def bcn (u : Nat) : Nat := u % 2 + (u / 2 % 2 + (u / 4 % 2 + (u / 8 % 2 + (u / 16 % 2 + u / 32 % 2))))
theorem ad_ok : ∀ u : Nat, u < 64 → ∀ e : Nat, e < 6 → un u e = true → (ad u e < 64 ∧ bcn (ad u e) = bcn u + 1) ∧ u < ad u e := by decide +kernel
theorem ad_M : ∀ M : Nat, M < 7 → ∀ u : Nat, u < 2 ^ M → ∀ e : Nat, e < M → un u e = true → ad u e < 2 ^ M := by decide +kernel
theorem ad_un : ∀ u : Nat, u < 64 → ∀ e : Nat, e < 6 → un u e = true → ∀ x : Nat, x < 6 → un (ad u e) x = (!decide (x = e) && un u x) := by decide +kernel
theorem un_0 : ∀ e : Nat, e < 6 → un 0 e = true := by decide
theorem p2_64 : ∀ M : Nat, M < 7 → 1 ≤ 2 ^ M ∧ 2 ^ M ≤ 64 := by decide
abbrev Pl : Type := Nat × List Nat
def better (a b : Option Pl) : Option Pl := match a, b with
  | some x, some y => if y.1 < x.1 then some y else some x
  | none, b => b
  | a, none => a
def pick (f : Nat → Option Pl) : Nat → Option Pl
  | 0 => none
  | e + 1 => better (pick f e) (f e)
def ext (l e : Nat) : Option Pl → Option Pl
  | none => none
  | some q => some (l + q.1, e :: q.2)
def cand (u e : Nat) (c : Option Nat) (q : Option Pl) : Option Pl := if un u e = true then (match c with
  | none => none
  | some l => ext l e q) else none
def bst (c : Nat → Nat → Option Nat) (M : Nat) : Nat → Nat → Nat → Option Pl
  | 0, _, _ => some (0, [])
  | d + 1, k, u => pick (fun e => cand u e (c k e) (bst c M d (k + 1) (ad u e))) M
theorem pick_some {f : Nat → Option Pl} : ∀ {M : Nat} {x : Pl}, pick f M = some x → ∃ e, e < M ∧ f e = some x ∧ (∀ e', e' < e → ∀ y, f e' = some y → x.1 < y.1) ∧ ∀ e', e' < M → ∀ y, f e' = some y → x.1 ≤ y.1
  | 0, x, h => nomatch h
  | M + 1, x, h => by
    unfold pick at h
    cases hp : pick f M with
    | none =>
      rw [hp] at h
      have hn : ∀ e, e < M → f e = none := fun e he => by
        cases hf : f e with
        | none => rfl
        | some y =>
          exfalso
          revert hp
          clear h
          induction M with
          | zero => omega
          | succ M ih =>
            intro hp
            unfold pick at hp
            cases h1 : pick f M with
            | none =>
              rw [h1] at hp
              have hp : f M = none := hp
              by_cases e0 : e = M
              · rw [e0, hp] at hf; cases hf
              · exact ih (by omega) h1
            | some q =>
              rw [h1] at hp
              cases h2 : f M with
              | none => rw [h2] at hp; cases hp
              | some y =>
                rw [h2] at hp
                unfold better at hp
                dsimp only at hp
                split at hp <;> cases hp
      have h : f M = some x := h
      refine ⟨M, by omega, h, fun e' he y hy => (by rw [hn e' he] at hy; cases hy), fun e' he y hy => ?_⟩
      by_cases e0 : e' = M
      · rw [e0, h] at hy; cases hy; exact Nat.le_refl _
      · rw [hn e' (by omega)] at hy; cases hy
    | some q =>
      rw [hp] at h
      obtain ⟨e, h1, h2, h3, h4⟩ := pick_some hp
      cases hf : f M with
      | none =>
        rw [hf] at h
        have h : some q = some x := h
        cases h
        refine ⟨e, by omega, h2, h3, fun e' he y hy => ?_⟩
        by_cases e0 : e' = M
        · rw [e0, hf] at hy; cases hy
        · exact h4 e' (by omega) y hy
      | some y =>
        rw [hf] at h
        have h : (if y.1 < q.1 then some y else some q) = some x := h
        by_cases hl : y.1 < q.1
        · rw [if_pos hl] at h
          cases h
          refine ⟨M, by omega, hf, fun e' he y' hy => ?_, fun e' he y' hy => ?_⟩
          · have := h4 e' he y' hy
            omega
          · by_cases e0 : e' = M
            · rw [e0, hf] at hy; cases hy; exact Nat.le_refl _
            · have := h4 e' (by omega) y' hy
              omega
        · rw [if_neg hl] at h
          cases h
          refine ⟨e, by omega, h2, h3, fun e' he y' hy => ?_⟩
          by_cases e0 : e' = M
          · rw [e0, hf] at hy; cases hy; omega
          · exact h4 e' (by omega) y' hy
theorem pick_none {f : Nat → Option Pl} : ∀ {M : Nat}, pick f M = none → ∀ e, e < M → f e = none
  | M + 1, hp, e, he => by
    unfold pick at hp
    cases h1 : pick f M with
    | none =>
      rw [h1] at hp
      have hp : f M = none := hp
      by_cases e0 : e = M
      · rw [e0]; exact hp
      · exact pick_none h1 e (by omega)
    | some q =>
      rw [h1] at hp
      cases h2 : f M with
      | none => rw [h2] at hp; cases hp
      | some y =>
        rw [h2] at hp
        have hp : (if y.1 < q.1 then some y else some q) = none := hp
        split at hp <;> cases hp
theorem cand_some {u e : Nat} {c : Option Nat} {q : Option Pl} {x : Pl} (h : cand u e c q = some x) : un u e = true ∧ ∃ l y, c = some l ∧ q = some y ∧ x = (l + y.1, e :: y.2) := by
  unfold cand at h
  by_cases hu : un u e = true
  · rw [if_pos hu] at h
    refine ⟨hu, ?_⟩
    cases c with
    | none => cases h
    | some l =>
      cases q with
      | none => cases h
      | some y =>
        have h : some (l + y.1, e :: y.2) = some x := h
        cases h
        exact ⟨l, y, rfl, rfl, rfl⟩
  · rw [if_neg hu] at h; cases h
theorem cand_mk {u e l : Nat} {y : Pl} (hu : un u e = true) : cand u e (some l) (some y) = some (l + y.1, e :: y.2) := by
  unfold cand
  rw [if_pos hu]
  rfl
section BST
variable {c : Nat → Nat → Option Nat} {M : Nat}
/-- the sum of a plan's costs -/
def psum (g : Nat → Nat → Nat) (s : Nat → Nat) : Nat → Nat → Nat
  | 0, _ => 0
  | d + 1, k => g k (s k) + psum g s d (k + 1)
theorem bst_bd (hc : ∀ k e l, c k e = some l → l ≤ 64) : ∀ {d k u : Nat} {x : Pl}, bst c M d k u = some x → x.1 ≤ 64 * d
  | 0, k, u, x, h => by
    have h : some ((0, []) : Pl) = some x := h
    cases h
    exact Nat.le_refl _
  | d + 1, k, u, x, h => by
    obtain ⟨e, h1, h2, -⟩ := pick_some (show pick _ M = some x from h)
    obtain ⟨h3, l, y, h4, h5, h6⟩ := cand_some h2
    have := bst_bd hc h5
    have := hc k e l h4
    rw [h6]
    show l + y.1 ≤ _
    omega
/-- a best plan is one -/
theorem bst_plan (hM : M ≤ 6) : ∀ {d k u : Nat} {x : Pl}, u < 64 → bst c M d k u = some x → x.2.length = d ∧ (∀ i, i < d → x.2.getD i 0 < M ∧ un u (x.2.getD i 0) = true ∧ ∃ l, c (k + i) (x.2.getD i 0) = some l) ∧ (∀ i j, i < j → j < d → ¬ x.2.getD i 0 = x.2.getD j 0) ∧ ∀ g : Nat → Nat → Nat, (∀ k e l, c k e = some l → g k e = l) → psum g (fun i => x.2.getD (i - k) 0) d k = x.1
  | 0, k, u, x, hu, h => by
    have h : some ((0, []) : Pl) = some x := h
    cases h
    exact ⟨rfl, fun i hi => absurd hi (Nat.not_lt_zero _), fun i j _ hj => absurd hj (Nat.not_lt_zero _), fun _ _ => rfl⟩
  | d + 1, k, u, x, hu, h => by
    obtain ⟨e, h1, h2, -⟩ := pick_some (show pick _ M = some x from h)
    obtain ⟨h3, l, y, h4, h5, h6⟩ := cand_some h2
    have a := ad_ok u hu e (by omega) h3
    obtain ⟨i1, i2, i3, i4⟩ := bst_plan hM a.1.1 h5
    have au := ad_un u hu e (by omega) h3
    subst h6
    have hun : ∀ i, i < d → ¬ y.2.getD i 0 = e ∧ un u (y.2.getD i 0) = true := fun i hi => by
      obtain ⟨g1, g2, -⟩ := i2 i hi
      rw [au _ (by omega), Bool.and_eq_true, Bool.not_eq_true', decide_eq_false_iff_not] at g2
      exact g2
    refine ⟨by show y.2.length + 1 = d + 1; rw [i1], fun i hi => ?_, fun i j hij hj => ?_, fun g hg => ?_⟩
    · cases i with
      | zero => exact ⟨h1, h3, l, h4⟩
      | succ i =>
        show y.2.getD i 0 < M ∧ un u (y.2.getD i 0) = true ∧ ∃ l, c (k + (i + 1)) (y.2.getD i 0) = some l
        obtain ⟨g1, -, g3⟩ := i2 i (by omega)
        refine ⟨g1, (hun i (by omega)).2, ?_⟩
        rw [show k + (i + 1) = k + 1 + i by omega]
        exact g3
    · cases j with
      | zero => omega
      | succ j =>
        cases i with
        | zero => exact fun g => (hun j (by omega)).1 g.symm
        | succ i => exact i3 i j (by omega) (by omega)
    · have e1 : ∀ d' k', k + 1 ≤ k' → psum g (fun i => (e :: y.2).getD (i - k) 0) d' k' = psum g (fun i => y.2.getD (i - (k + 1)) 0) d' k' := fun d' => by
        induction d' with
        | zero => intro k' _; rfl
        | succ d' ih =>
          intro k' hk
          show g k' ((e :: y.2).getD (k' - k) 0) + _ = g k' (y.2.getD (k' - (k + 1)) 0) + _
          rw [ih (k' + 1) (by omega), show k' - k = (k' - (k + 1)) + 1 by omega]
          rfl
      show g k ((e :: y.2).getD (k - k) 0) + psum g (fun i => (e :: y.2).getD (i - k) 0) d (k + 1) = l + y.1
      rw [e1 d (k + 1) (Nat.le_refl _), i4 g hg, Nat.sub_self]
      show g k e + _ = _
      rw [hg k e l h4]
/-- no plan is better -/
theorem bst_min (hM : M ≤ 6) {g : Nat → Nat → Nat} {s : Nat → Nat} (hg : ∀ k e l, c k e = some l → g k e = l) : ∀ {d k u : Nat}, u < 64 → (∀ i, k ≤ i → i < k + d → s i < M ∧ un u (s i) = true ∧ ∃ l, c i (s i) = some l) → (∀ i j, k ≤ i → i < j → j < k + d → ¬ s i = s j) → ∃ x, bst c M d k u = some x ∧ x.1 ≤ psum g s d k
  | 0, k, u, hu, h1, h2 => ⟨(0, []), rfl, Nat.le_refl _⟩
  | d + 1, k, u, hu, h1, h2 => by
    obtain ⟨a1, a2, l, a3⟩ := h1 k (Nat.le_refl _) (by omega)
    have a := ad_ok u hu (s k) (by omega) a2
    obtain ⟨y, b1, b2⟩ := bst_min hM hg (d := d) (k := k + 1) (u := ad u (s k)) a.1.1 (fun i hi hj => by
      obtain ⟨g1, g2, g3⟩ := h1 i (by omega) (by omega)
      refine ⟨g1, ?_, g3⟩
      rw [ad_un u hu (s k) (by omega) a2 (s i) (by omega), g2, decide_eq_false (fun h => h2 k i (Nat.le_refl _) (by omega) (by omega) h.symm)]
      rfl) (fun i j hi hij hj => h2 i j (by omega) hij (by omega))
    have hf : cand u (s k) (c k (s k)) (bst c M d (k + 1) (ad u (s k))) = some (l + y.1, s k :: y.2) := by
      rw [a3, b1]
      exact cand_mk a2
    cases hp : bst c M (d + 1) k u with
    | none =>
      have := pick_none (show pick _ M = none from hp) (s k) a1
      rw [hf] at this
      cases this
    | some x =>
      obtain ⟨e, -, -, -, h4⟩ := pick_some (show pick _ M = some x from hp)
      have := h4 (s k) a1 _ hf
      refine ⟨x, rfl, ?_⟩
      show x.1 ≤ g k (s k) + psum g s d (k + 1)
      rw [hg k (s k) l a3]
      have : x.1 ≤ l + y.1 := this
      omega
/-- more dancers than exits -/
theorem bst_over (hM : M ≤ 6) : ∀ {d k u : Nat}, u < 2 ^ M → M < bcn u + d → bst c M d k u = none
  | 0, k, u, hu, h => by
    have : ∀ M : Nat, M < 7 → ∀ u : Nat, u < 2 ^ M → bcn u ≤ M := by decide +kernel
    have := this M (by omega) u hu
    omega
  | d + 1, k, u, hu, h => by
    cases hp : bst c M (d + 1) k u with
    | none => rfl
    | some x =>
      obtain ⟨e, h1, h2, -⟩ := pick_some (show pick _ M = some x from hp)
      obtain ⟨h3, l, y, h4, h5, h6⟩ := cand_some h2
      have := (p2_64 M (by omega)).2
      have a := ad_ok u (by omega) e (by omega) h3
      rw [bst_over hM (ad_M M (by omega) u hu e h1 h3) (by omega)] at h5
      cases h5
end BST

