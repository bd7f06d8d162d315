/-! PM: locals, worlds: plain facts -/
theorem pmRe_cat (ad : Nat → Nat) (v : Value) : (pmRe ad v).category = v.category := by cases v <;> rfl
theorem pmLv_mem {ad : Nat → Nat} {L : List (Option Value)} {k : Nat} {v : Value} (h : L[k]? = some (some v)) : (k, pmRe ad v) ∈ pmLv ad L := by
  unfold pmLv
  refine List.mem_filterMap.mpr ⟨k, List.mem_range.mpr ?_, ?_⟩
  · exact (List.getElem?_eq_some_iff.mp h).1
  · rw [h]
theorem pmLv_of {ad : Nat → Nat} {L : List (Option Value)} {q : Nat × Value} (h : q ∈ pmLv ad L) : ∃ v, L[q.1]? = some (some v) ∧ q.2 = pmRe ad v := by
  unfold pmLv at h
  obtain ⟨i, -, hi⟩ := List.mem_filterMap.mp h
  split at hi
  · rename_i v hv
    cases hi
    exact ⟨v, hv, rfl⟩
  · cases hi
theorem lv_has_of {ls : Array Slot} {n : Nat} {l l' : List (Nat × Value)} (h : lv_has ls n l) (hs : ∀ q ∈ l', q ∈ l) : lv_has ls n l' := ⟨h.1, h.2.1, fun q hq => h.2.2 q (hs q hq)⟩
/-- ahead of a new value: what stood there of two words is lost -/
def pmCut (L : List (Option Value)) (k : Nat) : List (Option Value) := match k with
  | 0 => L
  | j + 1 => match L[j]? with
    | some (some w) => if w.category = 2 then L.set j none else L
    | _ => L
theorem pmSet_eq (L : List (Option Value)) (k : Nat) (v : Value) : pmSet L k v = if v.category = 2 then ((pmCut L k).set k (some v)).set (k + 1) none else (pmCut L k).set k (some v) := rfl
theorem pmCut_at {L : List (Option Value)} {k i : Nat} {w : Value} (h : (pmCut L k)[i]? = some (some w)) : L[i]? = some (some w) ∧ ¬ (i + 1 = k ∧ w.category = 2) := by
  unfold pmCut at h
  split at h
  · exact ⟨h, fun z => by omega⟩
  · rename_i j
    split at h
    · rename_i u hu
      split at h
      · rename_i hc
        rw [List.getElem?_set] at h
        split at h
        · split at h <;> cases h
        · rename_i hne
          exact ⟨h, fun z => hne (by omega)⟩
      · rename_i hc
        refine ⟨h, fun z => ?_⟩
        have e : i = j := by omega
        subst e
        rw [hu] at h
        cases h
        exact hc z.2
    · rename_i hu
      refine ⟨h, fun z => ?_⟩
      have e : i = j := by omega
      subst e
      exact hu _ h
theorem pmCut_len (L : List (Option Value)) (k : Nat) : (pmCut L k).length = L.length := by
  unfold pmCut
  split
  · rfl
  · split
    · split
      · exact List.length_set
      · rfl
    · rfl
theorem pmSet_len (L : List (Option Value)) (k : Nat) (v : Value) : (pmSet L k v).length = L.length := by
  rw [pmSet_eq]
  split
  · rw [List.length_set, List.length_set, pmCut_len]
  · rw [List.length_set, pmCut_len]
theorem pmLv_set1 {ad : Nat → Nat} {L : List (Option Value)} {k : Nat} {v : Value} (hc : v.category = 1) : ∀ q ∈ pmLv ad (pmSet L k v), q ∈ (k, pmRe ad v) :: (pmLv ad L).filter (fun q => !(q.1 == k) && !(q.1 + 1 == k && q.2.category == 2)) := by
  intro q hq
  obtain ⟨w, h1, h2⟩ := pmLv_of hq
  rw [pmSet_eq, if_neg (by omega), List.getElem?_set] at h1
  obtain ⟨i, u⟩ := q
  dsimp only at h1 h2 ⊢
  subst h2
  by_cases hk : k = i
  · subst hk
    rw [if_pos rfl] at h1
    split at h1
    · cases h1
      exact List.mem_cons_self
    · cases h1
  · rw [if_neg hk] at h1
    obtain ⟨h3, h4⟩ := pmCut_at h1
    refine List.mem_cons_of_mem _ (List.mem_filter.mpr ⟨pmLv_mem h3, ?_⟩)
    simp only [pmRe_cat]
    have e1 : (i == k) = false := by simp; omega
    rw [e1]
    cases h5 : (i + 1 == k && w.category == 2) with
    | false => rfl
    | true =>
      simp only [Bool.and_eq_true, beq_iff_eq] at h5
      exact absurd h5 h4
theorem pmLv_set2 {ad : Nat → Nat} {L : List (Option Value)} {k : Nat} {v : Value} (hc : v.category = 2) : ∀ q ∈ pmLv ad (pmSet L k v), q ∈ (k, pmRe ad v) :: (pmLv ad L).filter (fun q => !(q.1 == k) && (!(q.1 == k + 1) && !(q.1 + 1 == k && q.2.category == 2))) := by
  intro q hq
  obtain ⟨w, h1, h2⟩ := pmLv_of hq
  rw [pmSet_eq, if_pos hc, List.getElem?_set, List.getElem?_set] at h1
  obtain ⟨i, u⟩ := q
  dsimp only at h1 h2 ⊢
  subst h2
  by_cases hk1 : k + 1 = i
  · subst hk1
    rw [if_pos rfl] at h1
    split at h1 <;> cases h1
  · rw [if_neg hk1] at h1
    by_cases hk : k = i
    · subst hk
      rw [if_pos rfl] at h1
      split at h1
      · cases h1
        exact List.mem_cons_self
      · cases h1
    · rw [if_neg hk] at h1
      obtain ⟨h3, h4⟩ := pmCut_at h1
      refine List.mem_cons_of_mem _ (List.mem_filter.mpr ⟨pmLv_mem h3, ?_⟩)
      simp only [pmRe_cat]
      have e1 : (i == k) = false := by simp; omega
      have e2 : (i == k + 1) = false := by simp; omega
      rw [e1, e2]
      cases h5 : (i + 1 == k && w.category == 2) with
      | false => rfl
      | true =>
        simp only [Bool.and_eq_true, beq_iff_eq] at h5
        exact absurd h5 h4
-- the world's list
theorem pmW_at {ad : Nat → Nat} {cA : Nat → ClassId} {S : pmS} {q : Nat} {e : Nat ⊕ (Nat × Nat)} (h : S.1[q]? = some e) : (pmW ad cA S)[q]? = some (ad q, pmE ad cA S.2 q e) := by
  unfold pmW
  rw [List.getElem?_mapIdx, h]
  rfl
theorem pmW_of {ad : Nat → Nat} {cA : Nat → ClassId} {S : pmS} {q : Nat} {p : Nat × va_E} (h : (pmW ad cA S)[q]? = some p) : ∃ e, S.1[q]? = some e ∧ p = (ad q, pmE ad cA S.2 q e) := by
  unfold pmW at h
  rw [List.getElem?_mapIdx] at h
  cases he : S.1[q]? with
  | none => rw [he] at h; cases h
  | some e => rw [he] at h; exact ⟨e, rfl, (Option.some.inj h).symm⟩
/-- one thing changed -/
theorem pmW_set {ad : Nat → Nat} {cA : Nat → ClassId} {G : pmG} {μ μ' : pmM} {q : Nat} {e : Nat ⊕ (Nat × Nat)} (h : G[q]? = some e) (ho : ∀ i, i ≠ q → ∀ e, pmE ad cA μ' i e = pmE ad cA μ i e) : pmW ad cA (G, μ') = (pmW ad cA (G, μ)).set q (ad q, pmE ad cA μ' q e) := by
  refine List.ext_getElem? fun i => ?_
  rw [List.getElem?_set]
  by_cases hi : q = i
  · subst hi
    rw [if_pos rfl, pmW_at h, if_pos]
    unfold pmW
    rw [List.length_mapIdx]
    exact (List.getElem?_eq_some_iff.mp h).1
  · rw [if_neg hi]
    unfold pmW
    rw [List.getElem?_mapIdx, List.getElem?_mapIdx]
    cases G[i]? with
    | none => rfl
    | some e2 => exact congrArg some (by show (ad i, pmE ad cA μ' i e2) = (ad i, pmE ad cA μ i e2); rw [ho i (fun z => hi z.symm) e2])
theorem pmU_at {α : Type} (f : Nat → Nat → α) (i k : Nat) (x : α) : pmU f i k x i = fun b => if b = k then x else f i b := by
  funext b
  unfold pmU
  rw [if_pos rfl]
theorem pmU_ne {α : Type} (f : Nat → Nat → α) {i j k : Nat} (x : α) (h : j ≠ i) : pmU f i k x j = f j := by
  funext b
  unfold pmU
  rw [if_neg h]
/-- a thing's picture depends on its own row alone -/
theorem pmE_congr {ad : Nat → Nat} {cA : Nat → ClassId} {μ μ' : pmM} {i : Nat} (h1 : μ'.1 i = μ.1 i) (h2 : μ'.2.1 i = μ.2.1 i) (h3 : μ'.2.2.1 i = μ.2.2.1 i) (h4 : μ'.2.2.2 i = μ.2.2.2 i) (e : Nat ⊕ (Nat × Nat)) : pmE ad cA μ' i e = pmE ad cA μ i e := by
  obtain ⟨a1, a2, a3, a4⟩ := μ
  obtain ⟨b1, b2, b3, b4⟩ := μ'
  dsimp only at h1 h2 h3 h4
  cases e with
  | inl c =>
    have e1 : ∀ k, pmRd (pmTy c k) (b1, b2, b3, b4) i k = pmRd (pmTy c k) (a1, a2, a3, a4) i k := by
      intro k
      unfold pmRd
      split <;> simp only [h1, h2, h3, h4]
    unfold pmE
    simp only [e1]
  | inr a =>
    have e1 : pmPay ad (b1, b2, b3, b4) i a.1 = pmPay ad (a1, a2, a3, a4) i a.1 := by
      unfold pmPay
      split <;> simp only [h1, h2, h3, h4]
    unfold pmE
    simp only [e1]
