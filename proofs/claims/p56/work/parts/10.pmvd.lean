/-! PM: references stay valid: each is a place of the shape, or one of the given things outside (from 90000 on) -/
def pmVv (n : Nat) (v : Value) : Prop := match v with | .ref i => i < n ∨ 90000 ≤ i | _ => True
def pmVm (n : Nat) (μ : pmM) : Prop := ∀ (i k q : Nat), μ.2.2.1 i k = some q → q < n ∨ 90000 ≤ q
def pmVl (n : Nat) (L : List (Option Value)) : Prop := ∀ (k : Nat) (v : Value), L[k]? = some (some v) → pmVv n v
def pmVd (c : pmC) : Prop := pmVl c.2.2.2.1.length c.2.1 ∧ (∀ v ∈ c.2.2.1, pmVv c.2.2.2.1.length v) ∧ pmVm c.2.2.2.1.length c.2.2.2.2
theorem pmVl_set {n : Nat} {L : List (Option Value)} {k : Nat} {v : Value} (h : pmVl n L) (hv : pmVv n v) : pmVl n (pmSet L k v) := by
  intro i w hi
  rw [pmSet_eq] at hi
  have cut : ∀ {i : Nat} {w : Value}, ((pmCut L k).set k (some v))[i]? = some (some w) → pmVv n w := by
    intro i w hi
    rw [List.getElem?_set] at hi
    split at hi
    · split at hi
      · cases hi; exact hv
      · cases hi
    · exact h _ _ (pmCut_at hi).1
  split at hi
  · rw [List.getElem?_set] at hi
    split at hi
    · split at hi <;> cases hi
    · exact cut hi
  · exact cut hi
theorem pmVv_rf {n : Nat} {μ : pmM} (h : pmVm n μ) (i k : Nat) : pmVv n (va_rf (μ.2.2.1 i k)) := by
  cases hq : μ.2.2.1 i k with
  | none => trivial
  | some q => exact h i k q hq
theorem pmVv_rd {n : Nat} {μ : pmM} (h : pmVm n μ) (t : FieldType) (i k : Nat) : pmVv n (pmRd t μ i k) := by
  unfold pmRd
  split
  · trivial
  · trivial
  · exact pmVv_rf h i k
  · exact pmVv_rf h i k
  · trivial
theorem pmVm_wr {n : Nat} {t : FieldType} {v : Value} {μ μ' : pmM} {q k : Nat} (h : pmVm n μ) (hv : pmVv n v) (hw : pmWr t v μ q k = some μ') : pmVm n μ' := by
  have up : ∀ z : Nat, (z < n ∨ 90000 ≤ z) → ∀ i j w, pmU μ.2.2.1 q k (some z) i j = some w → w < n ∨ 90000 ≤ w := by
    intro z hz i j w hw
    unfold pmU at hw
    split at hw
    · split at hw
      · cases hw; exact hz
      · exact h _ _ _ hw
    · exact h _ _ _ hw
  unfold pmWr at hw
  split at hw
  · split at hw
    · cases hw; exact h
    · cases hw
  · split at hw
    · cases hw; exact h
    · cases hw
  · split at hw
    · split at hw
      · cases hw; exact h
      · cases hw
    · cases hw
  · split at hw
    · split at hw
      · cases hw; exact h
      · cases hw
    · cases hw
  · split at hw
    · cases hw; exact up _ hv
    · cases hw
  · split at hw
    · cases hw; exact up _ hv
    · cases hw
  · cases hw
section PMV
variable {pc : Nat} {L : List (Option Value)} {S : pmS} {st : List Value} {c' : pmC} {ps : List Prop}
/-- the stack's top is another value -/
theorem pmVd.push {pc' : Nat} {v : Value} {r : List Value} (h : pmVd (pc, L, st, S)) (hr : ∀ w ∈ r, w ∈ st) (hv : pmVv S.1.length v) : pmVd (pc', L, v :: r, S) :=
  ⟨h.1, fun w hw => by rcases List.mem_cons.mp hw with rfl | hw; exact hv; exact h.2.1 w (hr w hw), h.2.2⟩
theorem pmVd.pops {pc' : Nat} {r : List Value} (h : pmVd (pc, L, st, S)) (hr : ∀ w ∈ r, w ∈ st) : pmVd (pc', L, r, S) := ⟨h.1, fun w hw => h.2.1 w (hr w hw), h.2.2⟩
theorem pm_in1 {a : Value} {r : List Value} : ∀ w ∈ r, w ∈ a :: r := fun _ h => List.mem_cons_of_mem _ h
theorem pm_in2 {a b : Value} {r : List Value} : ∀ w ∈ r, w ∈ a :: b :: r := fun _ h => List.mem_cons_of_mem _ (List.mem_cons_of_mem _ h)
theorem pm_in3 {a b c : Value} {r : List Value} : ∀ w ∈ r, w ∈ a :: b :: c :: r := fun _ h => List.mem_cons_of_mem _ (List.mem_cons_of_mem _ (List.mem_cons_of_mem _ h))
theorem vd_Ld {n k t : Nat} (hv : pmVd (pc, L, st, S)) (h : pmLd n k t (pc, L, st, S) = some (c', ps)) : pmVd c' ∧ c'.2.2.2.1 = S.1 := by
  obtain ⟨v, h1, -, rfl⟩ := pmLd_inv h
  exact ⟨hv.push (fun _ h => h) (hv.1 _ _ h1), rfl⟩
theorem vd_St {n k t : Nat} (hv : pmVd (pc, L, st, S)) (h : pmSt n k t (pc, L, st, S) = some (c', ps)) : pmVd c' ∧ c'.2.2.2.1 = S.1 := by
  obtain ⟨v, r, rfl, -, -, rfl⟩ := pmSt_inv h
  exact ⟨⟨pmVl_set hv.1 (hv.2.1 _ List.mem_cons_self), fun w hw => hv.2.1 w (List.mem_cons_of_mem _ hw), hv.2.2⟩, rfl⟩
theorem vd_Inc {n k : Nat} {d : Int} (hv : pmVd (pc, L, st, S)) (h : pmInc n k d (pc, L, st, S) = some (c', ps)) : pmVd c' ∧ c'.2.2.2.1 = S.1 := by
  unfold pmInc at h
  split at h
  · cases h
    exact ⟨⟨pmVl_set (v := .int _) hv.1 trivial, hv.2.1, hv.2.2⟩, rfl⟩
  · cases h
theorem vd_Push {n : Nat} {v : Value} (hv : pmVd (pc, L, st, S)) (h : pmPush n v (pc, L, st, S) = some (c', ps)) (h9 : pmVv S.1.length v) : pmVd c' ∧ c'.2.2.2.1 = S.1 := by
  cases h
  exact ⟨hv.push (fun _ h => h) h9, rfl⟩
theorem vd_Tgt {off : Int} {st' : List Value} {P : List Prop} (hv : pmVd (pc, L, st, S)) (hs : ∀ w ∈ st', w ∈ st) (h : pmTgt (pc, L, st, S) off st' P = some (c', ps)) : pmVd c' ∧ c'.2.2.2.1 = S.1 := by
  obtain ⟨tgt, -, rfl, -⟩ := pmTgt_inv h
  exact ⟨hv.pops hs, rfl⟩
theorem vd_Br {b : Nat} {off : Int} {n : Nat} {st' : List Value} {P : Prop} (hv : pmVd (pc, L, st, S)) (hs : ∀ w ∈ st', w ∈ st) (h : pmBr b off n (pc, L, st, S) st' P = some (c', ps)) : pmVd c' ∧ c'.2.2.2.1 = S.1 := by
  unfold pmBr at h
  split at h
  · split at h
    · cases h; exact ⟨hv.pops hs, rfl⟩
    · cases h; exact ⟨hv.pops hs, rfl⟩
  · cases h
theorem vd_I1 {n : Nat} {f : Int32 → Value} (hv : pmVd (pc, L, st, S)) (h : pmI1 n f (pc, L, st, S) = some (c', ps)) (hf : ∀ x, pmVv S.1.length (f x)) : pmVd c' ∧ c'.2.2.2.1 = S.1 := by
  obtain ⟨x, r, rfl, rfl⟩ := pmI1_inv h
  exact ⟨hv.push pm_in1 (hf x), rfl⟩
theorem vd_I2 {n : Nat} {f : Int32 → Int32 → Value} (hv : pmVd (pc, L, st, S)) (h : pmI2 n f (pc, L, st, S) = some (c', ps)) (hf : ∀ x y, pmVv S.1.length (f x y)) : pmVd c' ∧ c'.2.2.2.1 = S.1 := by
  obtain ⟨x, y, r, rfl, rfl⟩ := pmI2_inv h
  exact ⟨hv.push pm_in2 (hf x y), rfl⟩
theorem vd_J1 {n : Nat} {f : Int64 → Value} (hv : pmVd (pc, L, st, S)) (h : pmJ1 n f (pc, L, st, S) = some (c', ps)) (hf : ∀ x, pmVv S.1.length (f x)) : pmVd c' ∧ c'.2.2.2.1 = S.1 := by
  obtain ⟨x, r, rfl, rfl⟩ := pmJ1_inv h
  exact ⟨hv.push pm_in1 (hf x), rfl⟩
theorem vd_J2 {n : Nat} {f : Int64 → Int64 → Value} (hv : pmVd (pc, L, st, S)) (h : pmJ2 n f (pc, L, st, S) = some (c', ps)) (hf : ∀ x y, pmVv S.1.length (f x y)) : pmVd c' ∧ c'.2.2.2.1 = S.1 := by
  obtain ⟨x, y, r, rfl, rfl⟩ := pmJ2_inv h
  exact ⟨hv.push pm_in2 (hf x y), rfl⟩
theorem vd_JI {n : Nat} {f : Int64 → Int32 → Value} (hv : pmVd (pc, L, st, S)) (h : pmJI n f (pc, L, st, S) = some (c', ps)) (hf : ∀ x y, pmVv S.1.length (f x y)) : pmVd c' ∧ c'.2.2.2.1 = S.1 := by
  obtain ⟨x, y, r, rfl, rfl⟩ := pmJI_inv h
  exact ⟨hv.push pm_in2 (hf x y), rfl⟩
theorem vd_D1 {n : Nat} {f : UInt64 → Value} (hv : pmVd (pc, L, st, S)) (h : pmD1 n f (pc, L, st, S) = some (c', ps)) (hf : ∀ x, pmVv S.1.length (f x)) : pmVd c' ∧ c'.2.2.2.1 = S.1 := by
  obtain ⟨x, r, rfl, rfl⟩ := pmD1_inv h
  exact ⟨hv.push pm_in1 (hf x), rfl⟩
theorem vd_I2p {n : Nat} {f : Int32 → Int32 → Value} (hv : pmVd (pc, L, st, S)) (hp : ∀ P ∈ ps, P) (h : pmI2p n f (pc, L, st, S) = some (c', ps)) (hf : ∀ x y, pmVv S.1.length (f x y)) : pmVd c' ∧ c'.2.2.2.1 = S.1 := by
  obtain ⟨x, y, r, rfl, rfl, -⟩ := pmI2p_inv h hp
  exact ⟨hv.push pm_in2 (hf x y), rfl⟩
theorem vd_J2p {n : Nat} {f : Int64 → Int64 → Value} (hv : pmVd (pc, L, st, S)) (hp : ∀ P ∈ ps, P) (h : pmJ2p n f (pc, L, st, S) = some (c', ps)) (hf : ∀ x y, pmVv S.1.length (f x y)) : pmVd c' ∧ c'.2.2.2.1 = S.1 := by
  obtain ⟨x, y, r, rfl, rfl, -⟩ := pmJ2p_inv h hp
  exact ⟨hv.push pm_in2 (hf x y), rfl⟩
theorem vd_F1 {n : Nat} {f : UInt32 → Value} {P : UInt32 → List Prop} (hv : pmVd (pc, L, st, S)) (hp : ∀ P ∈ ps, P) (h : pmF1 n f P (pc, L, st, S) = some (c', ps)) (hf : ∀ x, pmVv S.1.length (f x)) : pmVd c' ∧ c'.2.2.2.1 = S.1 := by
  obtain ⟨x, r, rfl, rfl, -⟩ := pmF1_inv h hp
  exact ⟨hv.push pm_in1 (hf x), rfl⟩
theorem vd_F2 {n : Nat} {f : UInt32 → UInt32 → Value} {P : UInt32 → UInt32 → List Prop} (hv : pmVd (pc, L, st, S)) (hp : ∀ P ∈ ps, P) (h : pmF2 n f P (pc, L, st, S) = some (c', ps)) (hf : ∀ x y, pmVv S.1.length (f x y)) : pmVd c' ∧ c'.2.2.2.1 = S.1 := by
  obtain ⟨x, y, r, rfl, rfl, -⟩ := pmF2_inv h hp
  exact ⟨hv.push pm_in2 (hf x y), rfl⟩
theorem vd_D2 {n : Nat} {f : UInt64 → UInt64 → Value} {P : UInt64 → UInt64 → List Prop} (hv : pmVd (pc, L, st, S)) (hp : ∀ P ∈ ps, P) (h : pmD2 n f P (pc, L, st, S) = some (c', ps)) (hf : ∀ x y, pmVv S.1.length (f x y)) : pmVd c' ∧ c'.2.2.2.1 = S.1 := by
  obtain ⟨x, y, r, rfl, rfl, -⟩ := pmD2_inv h hp
  exact ⟨hv.push pm_in2 (hf x y), rfl⟩
theorem vd_Ald {t : Nat} {f : Nat → Int32 → Value} (hv : pmVd (pc, L, st, S)) (hp : ∀ P ∈ ps, P) (h : pmAld t f (pc, L, st, S) = some (c', ps)) (hf : ∀ q j, pmVv S.1.length (f q j)) : pmVd c' ∧ c'.2.2.2.1 = S.1 := by
  obtain ⟨j, q, r, n, rfl, -, -, rfl⟩ := pmAld_inv h hp
  exact ⟨hv.push pm_in2 (hf q j), rfl⟩
theorem vd_Ast {t : Nat} {f : Nat → Int32 → Value → Option pmM} (hv : pmVd (pc, L, st, S)) (hp : ∀ P ∈ ps, P) (h : pmAst t f (pc, L, st, S) = some (c', ps)) (hf : ∀ q j v μ', f q j v = some μ' → μ'.2.2.1 = S.2.2.2.1) : pmVd c' ∧ c'.2.2.2.1 = S.1 := by
  obtain ⟨v, j, q, r, n, μ', rfl, -, -, h9, rfl⟩ := pmAst_inv h hp
  refine ⟨⟨hv.1, fun w hw => hv.2.1 w (pm_in3 w hw), ?_⟩, rfl⟩
  intro i k z hz
  rw [show (_, _, _, _, μ').2.2.2.2 = μ' from rfl, hf _ _ _ _ h9] at hz
  exact hv.2.2 i k z hz
theorem pm_step_vd {b : Nat} {i : Instr} {x : Nat × Nat} (h : pmStep b i x (pc, L, st, S) = some (c', ps)) (hp : ∀ P ∈ ps, P) (hv : pmVd (pc, L, st, S)) : pmVd c' ∧ c'.2.2.2.1 = S.1 := by
  unfold pmStep at h
  split at h
  · exact vd_Ld hv h
  · exact vd_Ld hv h
  · exact vd_Ld hv h
  · exact vd_Ld hv h
  · exact vd_Ld hv h
  · exact vd_Ld hv h
  · exact vd_Ld hv h
  · exact vd_Ld hv h
  · exact vd_Ld hv h
  · exact vd_Ld hv h
  · exact vd_St hv h
  · exact vd_St hv h
  · exact vd_St hv h
  · exact vd_St hv h
  · exact vd_St hv h
  · exact vd_St hv h
  · exact vd_St hv h
  · exact vd_St hv h
  · exact vd_St hv h
  · exact vd_St hv h
  · exact vd_Inc hv h
  · exact vd_Push hv h trivial
  · exact vd_Push hv h trivial
  · exact vd_Push hv h trivial
  · exact vd_Push hv h trivial
  · exact (by split at h; exact vd_Push hv h trivial; split at h; exact vd_Push hv h trivial; exact vd_Push hv h trivial)
  · exact (by split at h; exact vd_Push hv h trivial; exact vd_Push hv h trivial)
  · exact vd_I2 hv h (fun _ _ => trivial)
  · exact vd_I2 hv h (fun _ _ => trivial)
  · exact vd_I2 hv h (fun _ _ => trivial)
  · exact vd_I2 hv h (fun _ _ => trivial)
  · exact vd_I2 hv h (fun _ _ => trivial)
  · exact vd_I2 hv h (fun _ _ => trivial)
  · exact vd_I1 hv h (fun _ => trivial)
  · exact vd_I2 hv h (fun _ _ => trivial)
  · exact vd_I2 hv h (fun _ _ => trivial)
  · exact vd_I2 hv h (fun _ _ => trivial)
  · exact vd_I2p hv hp h (fun _ _ => trivial)
  · exact vd_I2p hv hp h (fun _ _ => trivial)
  · exact vd_J2 hv h (fun _ _ => trivial)
  · exact vd_J2 hv h (fun _ _ => trivial)
  · exact vd_J2p hv hp h (fun _ _ => trivial)
  · exact vd_J2 hv h (fun _ _ => trivial)
  · exact vd_J2 hv h (fun _ _ => trivial)
  · exact vd_J2 hv h (fun _ _ => trivial)
  · exact vd_J2 hv h (fun _ _ => trivial)
  · exact vd_JI hv h (fun _ _ => trivial)
  · exact vd_JI hv h (fun _ _ => trivial)
  · exact vd_I1 hv h (fun _ => trivial)
  · exact vd_J1 hv h (fun _ => trivial)
  · exact vd_I1 hv h (fun _ => trivial)
  · exact vd_I1 hv h (fun _ => trivial)
  · exact vd_I1 hv h (fun _ => trivial)
  · exact vd_F1 hv hp h (fun _ => trivial)
  · exact vd_F1 hv hp h (fun _ => trivial)
  · exact vd_D1 hv h (fun _ => trivial)
  · exact vd_F2 hv hp h (fun _ _ => trivial)
  · exact vd_F2 hv hp h (fun _ _ => trivial)
  · exact vd_F2 hv hp h (fun _ _ => trivial)
  · exact vd_F2 hv hp h (fun _ _ => trivial)
  · exact vd_D2 hv hp h (fun _ _ => trivial)
  · exact vd_D2 hv hp h (fun _ _ => trivial)
  · exact vd_D2 hv hp h (fun _ _ => trivial)
  · exact vd_D2 hv hp h (fun _ _ => trivial)
  · unfold pmIf at h
    split at h
    · rename_i hs
      dsimp only at hs
      subst hs
      exact vd_Br hv pm_in1 h
    · cases h
  · unfold pmIc at h
    split at h
    · rename_i hs
      dsimp only at hs
      subst hs
      exact vd_Br hv pm_in2 h
    · cases h
  · unfold pmNu at h
    split at h
    · rename_i hs
      dsimp only at hs
      subst hs
      (cases h; exact ⟨hv.pops pm_in1, rfl⟩)
    · rename_i hs
      dsimp only at hs
      subst hs
      exact vd_Tgt hv pm_in1 h
    · cases h
  · unfold pmNn at h
    split at h
    · rename_i hs
      dsimp only at hs
      subst hs
      exact vd_Tgt hv pm_in1 h
    · rename_i hs
      dsimp only at hs
      subst hs
      (cases h; exact ⟨hv.pops pm_in1, rfl⟩)
    · cases h
  · exact vd_Tgt hv (fun _ h => h) h
  · unfold pmTb at h
    split at h
    · rename_i hs
      dsimp only at hs
      subst hs
      split at h
      · split at h
        · exact vd_Tgt hv pm_in1 h
        · cases h
      · exact vd_Tgt hv pm_in1 h
    · cases h
  · unfold pmLk at h
    split at h
    · rename_i hs
      dsimp only at hs
      subst hs
      split at h
      · split at h
        · exact vd_Tgt hv pm_in1 h
        · exact vd_Tgt hv pm_in1 h
      · cases h
    · cases h
  · unfold pmDup at h
    split at h
    · rename_i hs
      dsimp only at hs
      subst hs
      split at h
      · cases h
        exact ⟨hv.push (fun _ h => h) (hv.2.1 _ List.mem_cons_self), rfl⟩
      · cases h
    · cases h
  · unfold pmDup2 at h
    split at h
    · rename_i v w r hs
      dsimp only at hs
      subst hs
      split at h
      · cases h
        refine ⟨⟨hv.1, fun z hz => hv.2.1 z ?_, hv.2.2⟩, rfl⟩
        rcases List.mem_cons.mp hz with rfl | hz
        · exact List.mem_cons_self
        · rcases List.mem_cons.mp hz with rfl | hz
          · exact List.mem_cons_of_mem _ List.mem_cons_self
          · exact hz
      · cases h
    · cases h
  · unfold pmPop at h
    split at h
    · rename_i hs
      dsimp only at hs
      subst hs
      split at h
      · cases h
        exact ⟨hv.pops pm_in1, rfl⟩
      · cases h
    · cases h
  · unfold pmGet at h
    split at h
    · rename_i hs
      dsimp only at hs
      subst hs
      split at h
      · split at h
        · cases h
          exact ⟨hv.push pm_in1 (pmVv_rd hv.2.2 _ _ _), rfl⟩
        · cases h
      · cases h
    · cases h
  · unfold pmPut at h
    split at h
    · rename_i hs
      dsimp only at hs
      subst hs
      split at h
      · split at h
        · split at h
          · rename_i μ' hw
            cases h
            exact ⟨⟨hv.1, fun w hw => hv.2.1 w (pm_in2 w hw), pmVm_wr hv.2.2 (hv.2.1 _ List.mem_cons_self) hw⟩, rfl⟩
          · cases h
        · cases h
      · cases h
    · cases h
  · unfold pmLen at h
    split at h
    · rename_i hs
      dsimp only at hs
      subst hs
      split at h
      · split at h
        · cases h
          exact ⟨hv.push pm_in1 trivial, rfl⟩
        · cases h
      · cases h
    · cases h
  · exact vd_Ald hv hp h (fun _ _ => trivial)
  · exact vd_Ald hv hp h (fun _ _ => trivial)
  · exact vd_Ald hv hp h (fun _ _ => trivial)
  · exact vd_Ald hv hp h (fun q j => pmVv_rf hv.2.2 q _)
  · exact vd_Ast hv hp h (fun q j v μ' h9 => by unfold pmIst at h9; split at h9; (cases h9; rfl); cases h9)
  · exact vd_Ast hv hp h (fun q j v μ' h9 => by unfold pmBst at h9; split at h9; (cases h9; rfl); cases h9)
  · exact vd_Ast hv hp h (fun q j v μ' h9 => by unfold pmCst at h9; split at h9; (cases h9; rfl); cases h9)
  · cases h
end PMV
