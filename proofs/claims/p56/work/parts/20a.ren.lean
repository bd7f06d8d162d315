/-! PM: a run over a store is a run over any greater store, its things elsewhere in it -/
theorem va_at_cg {D : va_G} {cl : List vw_C} {q : Nat × va_E} {H H1 : Heap} (h : va_at D cl q H) (e : H1[q.1]? = H[q.1]?) : va_at D cl q H1 := by
  unfold va_at at h ⊢
  split at h
  · rw [e]
    exact h
  · obtain ⟨r, h1, cell, h2⟩ := h
    exact ⟨r, h1, cell, by rw [e]; exact h2.1, h2.2⟩
theorem va_at_lt {D : va_G} {cl : List vw_C} {q : Nat × va_E} {H : Heap} (h : va_at D cl q H) : q.1 < H.size := by
  unfold va_at at h
  split at h
  · exact (Array.getElem?_eq_some_iff.mp h).1
  · obtain ⟨r, h1, cell, h2⟩ := h
    exact (Array.getElem?_eq_some_iff.mp h2.1).1
theorem pmE_ren {ρ ad : Nat → Nat} {cA : Nat → ClassId} {S T : pmS} {i : Nat} {e : Nat ⊕ (Nat × Nat)} (h1 : T.2.1 (ρ i) = S.2.1 i) (h2 : T.2.2.1 (ρ i) = S.2.2.1 i) (h3 : ∀ k, T.2.2.2.1 (ρ i) k = (S.2.2.2.1 i k).map ρ) (h4 : T.2.2.2.2 (ρ i) = S.2.2.2.2 i) : pmE ad cA T.2 (ρ i) e = pmE (fun i => ad (ρ i)) cA S.2 i e := by
  have hrd : ∀ (t : FieldType) (k : Nat), pmRe ad (pmRd t T.2 (ρ i) k) = pmRe (fun i => ad (ρ i)) (pmRd t S.2 i k) := by
    intro t k
    have hq : pmRe ad (va_rf (T.2.2.2.1 (ρ i) k)) = pmRe (fun i => ad (ρ i)) (va_rf (S.2.2.2.1 i k)) := by
      rw [h3]
      cases S.2.2.2.1 i k <;> rfl
    unfold pmRd
    split
    · rw [h2]; rfl
    · rw [h4]; rfl
    · exact hq
    · exact hq
    · rw [h1]; rfl
  cases e with
  | inl c =>
    unfold pmE
    simp only [hrd]
  | inr a =>
    unfold pmE pmPay
    have e2 : (fun k => (T.2.2.2.1 (ρ i) k).map ad) = fun k => (S.2.2.2.1 i k).map (fun i => ad (ρ i)) := by
      funext k
      rw [h3]
      cases S.2.2.2.1 i k <;> rfl
    simp only [h1, e2]
theorem pmE_ex {ad ad' : Nat → Nat} {cA : Nat → ClassId} {n : Nat} {μ : pmM} {i : Nat} {e : Nat ⊕ (Nat × Nat)} (hx : pmEx ad ad' n) (hv : pmVm n μ) : pmE ad' cA μ i e = pmE ad cA μ i e := by
  cases e with
  | inl c =>
    unfold pmE
    have e2 : ∀ k, pmRe ad' (pmRd (pmTy c k) μ i k) = pmRe ad (pmRd (pmTy c k) μ i k) := fun k => hx.re (pmVv_rd hv _ _ _)
    simp only [e2]
  | inr a =>
    unfold pmE pmPay
    have e2 : (fun k => (μ.2.2.1 i k).map ad') = fun k => (μ.2.2.1 i k).map ad := by
      funext k
      cases hq : μ.2.2.1 i k with
      | none => rfl
      | some q => exact congrArg some (hx q (hv i k q hq))
    simp only [e2]
theorem pmW_get {ad : Nat → Nat} {cA : Nat → ClassId} {S : pmS} {i : Nat} {q : Nat × va_E} (h : (pmW ad cA S)[i]? = some q) : ∃ e, S.1[i]? = some e ∧ i < S.1.length ∧ q = (ad i, pmE ad cA S.2 i e) := by
  unfold pmW at h
  rw [List.getElem?_mapIdx] at h
  cases he : S.1[i]? with
  | none => rw [he] at h; cases h
  | some e =>
    rw [he] at h
    exact ⟨e, rfl, (List.getElem?_eq_some_iff.mp he).1, (Option.some.inj h).symm⟩
theorem pmRe_re (ad ρ : Nat → Nat) (v : Value) : pmRe ad (pmRe ρ v) = pmRe (fun i => ad (ρ i)) v := by cases v <;> rfl
/-- what stands of S in T's world -/
theorem pmBw_ren {E : pmEv0} {D : va_G} {cA : Nat → ClassId} {ρ ad : Nat → Nat} {S T : pmS} {U : State} (hr : pmRen ρ S T) (hv : pmVm S.1.length S.2) (hl : S.1.length ≤ 90000) (h : pmBw E D cA ad T U) : pmBw E D cA (fun i => ad (ρ i)) S U := by
  obtain ⟨hP, hK, hD, hEn, -, -⟩ := h
  obtain ⟨r1, r2, r3⟩ := hr
  have sub : ∀ (i : Nat) (q : Nat × va_E), (pmW (fun i => ad (ρ i)) cA S)[i]? = some q → (pmW ad cA T)[ρ i]? = some q := by
    intro i q hq
    obtain ⟨e, h1, h2, rfl⟩ := pmW_get hq
    obtain ⟨-, g1, g2, g3, g4, g5⟩ := r3 i h2
    rw [pmW_at (ad := ad) (cA := cA) (S := T) (g1.trans h1), pmE_ren (ad := ad) (cA := cA) (e := e) g2 g3 g4 g5]
  refine ⟨fun k q hq => hP _ q (sub k q hq), hK, ⟨fun i j p q hp hq e => ?_, fun _ _ _ => trivial⟩, ?_, hv, hl⟩
  · obtain ⟨e1, h1, h2, -⟩ := pmW_get hp
    obtain ⟨e2, h3, h4, -⟩ := pmW_get hq
    exact r2 i j h2 h4 (hD.1 _ _ p q (sub i p hp) (sub j q hq) e)
  · refine hEn.go (State.WarmedH.refl U) (fun i hi => congrArg ad (r1 i hi)) (fun _ _ _ => rfl) (Nat.le_refl _) (fun q hq => ?_)
    rcases hq with ⟨k, e, hk⟩ | hq
    · exact Or.inl ⟨ρ k, e, sub k _ hk⟩
    · exact Or.inr hq
/-- the world behind the call -/
theorem pmBp_ren {E : pmEv0} {D : va_G} {cA : Nat → ClassId} {ρ ρ' ad ad1 : Nat → Nat} {S T : pmS} {r r2 : pmS} {st t : State} {sz : Nat} (hsz : st.heap.size = sz) (hl0 : S.1.length ≤ r.1.length) (hl9 : S.1.length ≤ 90000)
    (hpre : pmBw E D cA ad T st) (hr : pmRen ρ S T) (hx : pmEx (fun i => ad (ρ i)) ad1 S.1.length) (hB : pmBp D cA ad1 (va_A (pmW (fun i => ad (ρ i)) cA S) sz) r t.heap) (hF : va_F (va_A (pmW (fun i => ad (ρ i)) cA S) sz) st t)
    (h1 : ∀ i, i < S.1.length ∨ 90000 ≤ i → ρ' i = ρ i) (h2 : pmRen ρ' r r2) (h3 : r2.1.length + S.1.length = T.1.length + r.1.length) (h4 : r2.1.length ≤ 90000) (h5 : ∀ i, i < T.1.length → r2.1[i]? = T.1[i]?) (h6 : pmVm r2.1.length r2.2)
    (h7 : ∀ i, S.1.length ≤ i → i < r.1.length → ρ' i + S.1.length = i + T.1.length)
    (h8 : ∀ i, i < T.1.length → (∀ k, k < S.1.length → ρ k ≠ i) → r2.2.1 i = T.2.1 i ∧ r2.2.2.1 i = T.2.2.1 i ∧ r2.2.2.2.1 i = T.2.2.2.1 i ∧ r2.2.2.2.2 i = T.2.2.2.2 i) :
    ∃ ad2, pmEx ad ad2 T.1.length ∧ (∀ i, i < r.1.length ∨ 90000 ≤ i → ad2 (ρ' i) = ad1 i) ∧ pmBp D cA ad2 (va_A (pmW ad cA T) sz) r2 t.heap ∧ va_F (va_A (pmW ad cA T) sz) st t := by
  obtain ⟨hP, -, hD, -, hVT, hT9⟩ := hpre
  obtain ⟨b1, b2, b3, b4⟩ := hB
  obtain ⟨r1, rinj, rr⟩ := hr
  have sub : ∀ (i : Nat) (q : Nat × va_E), (pmW (fun i => ad (ρ i)) cA S)[i]? = some q → i < S.1.length ∧ (pmW ad cA T)[ρ i]? = some q := by
    intro i q hq
    obtain ⟨e, q1, q2, rfl⟩ := pmW_get hq
    obtain ⟨-, g1, g2, g3, g4, g5⟩ := rr i q2
    exact ⟨q2, by rw [pmW_at (ad := ad) (cA := cA) (S := T) (g1.trans q1), pmE_ren (ad := ad) (cA := cA) (e := e) g2 g3 g4 g5]⟩
  have subA : ∀ q, va_A (pmW (fun i => ad (ρ i)) cA S) sz q → va_A (pmW ad cA T) sz q := by
    intro q hq
    rcases hq with ⟨k, e, hk⟩ | hq
    · exact Or.inl ⟨ρ k, e, (sub k _ hk).2⟩
    · exact Or.inr hq
  refine ⟨fun i => if i < T.1.length ∨ 90000 ≤ i then ad i else ad1 (i + S.1.length - T.1.length), fun i hi => if_pos hi, ?_, ⟨?_, ⟨?_, ?_⟩, h6, h4⟩, ⟨hF.1, fun q q1 q2 => hF.2 q q1 (fun q3 => q2 (subA q q3))⟩⟩
  case refine_1 =>
    intro i hi
    rcases Nat.lt_or_ge i S.1.length with hS | hS
    · have e1 := h1 i (Or.inl hS)
      show (if ρ' i < T.1.length ∨ 90000 ≤ ρ' i then ad (ρ' i) else ad1 (ρ' i + S.1.length - T.1.length)) = ad1 i
      rw [if_pos (by rw [e1]; exact Or.inl (rr i hS).1), e1]
      exact (hx i (Or.inl hS)).symm
    · rcases hi with hi | hi
      · have e1 := h7 i hS hi
        show (if ρ' i < T.1.length ∨ 90000 ≤ ρ' i then ad (ρ' i) else ad1 (ρ' i + S.1.length - T.1.length)) = ad1 i
        rw [if_neg (by omega)]
        congr 1
        omega
      · have e1 := (h1 i (Or.inr hi)).trans (r1 i hi)
        show (if ρ' i < T.1.length ∨ 90000 ≤ ρ' i then ad (ρ' i) else ad1 (ρ' i + S.1.length - T.1.length)) = ad1 i
        rw [if_pos (by rw [e1]; exact Or.inr hi), e1, hx i (Or.inr hi)]
        show ad i = ad (ρ i)
        rw [r1 i hi]
  all_goals
    have hk : ∀ i, i < r.1.length ∨ 90000 ≤ i → (fun i => if i < T.1.length ∨ 90000 ≤ i then ad i else ad1 (i + S.1.length - T.1.length)) (ρ' i) = ad1 i := by
      intro i hi
      rcases Nat.lt_or_ge i S.1.length with hS | hS
      · have e1 := h1 i (Or.inl hS)
        show (if ρ' i < T.1.length ∨ 90000 ≤ ρ' i then ad (ρ' i) else ad1 (ρ' i + S.1.length - T.1.length)) = ad1 i
        rw [if_pos (by rw [e1]; exact Or.inl (rr i hS).1), e1]
        exact (hx i (Or.inl hS)).symm
      · rcases hi with hi | hi
        · have e1 := h7 i hS hi
          show (if ρ' i < T.1.length ∨ 90000 ≤ ρ' i then ad (ρ' i) else ad1 (ρ' i + S.1.length - T.1.length)) = ad1 i
          rw [if_neg (by omega)]
          congr 1
          omega
        · have e1 := (h1 i (Or.inr hi)).trans (r1 i hi)
          show (if ρ' i < T.1.length ∨ 90000 ≤ ρ' i then ad (ρ' i) else ad1 (ρ' i + S.1.length - T.1.length)) = ad1 i
          rw [if_pos (by rw [e1]; exact Or.inr hi), e1, hx i (Or.inr hi)]
          show ad i = ad (ρ i)
          rw [r1 i hi]
    have hxT : pmEx ad (fun i => if i < T.1.length ∨ 90000 ≤ i then ad i else ad1 (i + S.1.length - T.1.length)) T.1.length := fun i hi => if_pos hi
    generalize (fun i => if i < T.1.length ∨ 90000 ≤ i then ad i else ad1 (i + S.1.length - T.1.length)) = ad2 at hk hxT ⊢
    have img : ∀ j, j < r2.1.length → (∃ i, i < r.1.length ∧ ρ' i = j) ∨ (j < T.1.length ∧ ∀ k, k < S.1.length → ρ k ≠ j) := by
      intro j hj
      rcases Nat.lt_or_ge j T.1.length with hT | hT
      · by_cases h : ∃ k, k < S.1.length ∧ ρ k = j
        · obtain ⟨k, k1, k2⟩ := h
          exact Or.inl ⟨k, by omega, (h1 k (Or.inl k1)).trans k2⟩
        · exact Or.inr ⟨hT, fun k k1 k2 => h ⟨k, k1, k2⟩⟩
      · refine Or.inl ⟨j + S.1.length - T.1.length, by omega, ?_⟩
        have := h7 (j + S.1.length - T.1.length) (by omega) (by omega)
        omega
    have pic : ∀ (j : Nat) (q : Nat × va_E), (pmW ad2 cA r2)[j]? = some q → (∃ i, i < r.1.length ∧ ρ' i = j ∧ (pmW ad1 cA r)[i]? = some q) ∨ ((j < T.1.length ∧ ∀ k, k < S.1.length → ρ k ≠ j) ∧ (pmW ad cA T)[j]? = some q ∧ q.1 = ad j) := by
      intro j q hq
      obtain ⟨e, q1, q2, rfl⟩ := pmW_get hq
      rcases img j q2 with ⟨i, i1, rfl⟩ | ⟨j1, j2⟩
      · left
        obtain ⟨-, g1, g2, g3, g4, g5⟩ := h2.2.2 i i1
        refine ⟨i, i1, rfl, ?_⟩
        rw [pmW_at (ad := ad1) (cA := cA) (S := r) (g1.symm.trans q1), hk i (Or.inl i1), pmE_ren (ad := ad2) (cA := cA) (S := r) (T := r2) (e := e) g2 g3 g4 g5]
        rw [pmE_ex (ad := ad1) (ad' := fun i => ad2 (ρ' i)) (n := r.1.length) (fun i hi => hk i hi) b3]
      · right
        obtain ⟨g2, g3, g4, g5⟩ := h8 j j1 j2
        refine ⟨⟨j1, j2⟩, ?_, hxT j (Or.inl j1)⟩
        rw [pmW_at (ad := ad) (cA := cA) (S := T) ((h5 j j1).symm.trans q1), hxT j (Or.inl j1), pmE_congr (μ := T.2) (μ' := r2.2) g2 g3 g4 g5, pmE_ex hxT hVT]
    have out : ∀ j, j < T.1.length → (∀ k, k < S.1.length → ρ k ≠ j) → ∀ q, (pmW ad cA T)[j]? = some q → ¬ va_A (pmW (fun i => ad (ρ i)) cA S) sz q.1 := by
      intro j j1 j2 q hq hA
      rcases hA with ⟨k, e, hk9⟩ | hA
      · obtain ⟨k1, k2⟩ := sub k _ hk9
        exact j2 k k1 (hD.1 _ _ _ _ k2 hq rfl)
      · have := va_at_lt (hP j q hq)
        omega
  · intro j q hq
    rcases pic j q hq with ⟨i, i1, -, i3⟩ | ⟨⟨j1, j2⟩, j3, j4⟩
    · exact b1 i q i3
    · exact va_at_cg (hP j q j3) (hF.2 q.1 (va_at_lt (hP j q j3)) (out j j1 j2 q j3))
  · intro i j p q hp hq e
    rcases pic i p hp with ⟨i0, i1, rfl, i3⟩ | ⟨⟨i1, i2⟩, i3, i4⟩
    · rcases pic j q hq with ⟨j0, j1, rfl, j3⟩ | ⟨⟨j1, j2⟩, j3, j4⟩
      · rw [b2.1 i0 j0 p q i3 j3 e]
      · exact absurd (b2.2 i0 p i3) (by rw [e]; exact out j j1 j2 q j3)
    · rcases pic j q hq with ⟨j0, j1, rfl, j3⟩ | ⟨⟨j1, j2⟩, j3, j4⟩
      · exact absurd (b2.2 j0 q j3) (by rw [← e]; exact out i i1 i2 p i3)
      · exact hD.1 i j p q i3 j3 e
  · intro j q hq
    rcases pic j q hq with ⟨i, i1, -, i3⟩ | ⟨⟨j1, j2⟩, j3, j4⟩
    · exact subA _ (b2.2 i q i3)
    · exact Or.inl ⟨j, q.2, j3⟩
/-- THE RULE: a call over S serves over T -/
theorem pmCon_ren {l : Launch} {Pg : Nat → pmMe} {TB : List Cond} {E : pmEv0} {D : va_G} {cA : Nat → ClassId} {d t : Nat} {ev : Nat → List Value → pmS → pmR → Prop} (hs : ∀ (as : List Value) (S : pmS) (r : pmR), ev t as S r → pmCon l Pg TB E D cA d t as S r) {as2 : List Value} {T : pmS} {r2 : pmR} (h : pmCalR ev t as2 T r2) : pmCon l Pg TB E D cA d t as2 T r2 := by
  obtain ⟨ρ, ρ', as, S, r, hev, rfl, hva, hvS, hlS, hr, g1, g2, g3, g4, g5, g6, g7, g8, g9, g10⟩ := h
  intro ad sz hvas
  have con := hs as S r hev (fun i => ad (ρ i)) sz hva
  have eas : (as.map (pmRe ρ)).map (pmRe ad) = as.map (pmRe (fun i => ad (ρ i))) := by
    rw [List.map_map]
    exact List.map_congr_left fun v _ => pmRe_re ad ρ v
  obtain ⟨r21, r22, r23, r24⟩ := r2
  obtain ⟨ro, rS, rc, rs⟩ := r
  dsimp only at g1 g2 g3 g4 g5 g6 g7 g8 g9 g10
  obtain ⟨rfl, rfl⟩ := Prod.mk.inj g2
  intro p e ha hc hk s m args below hf happ hP _
  obtain ⟨hargs, hsz, hw⟩ := hP
  obtain ⟨n, o, q1, q2, q3, q4⟩ := con p e ha hc hk s m args below hf happ ⟨by rw [hargs, eas], hsz, pmBw_ren hr hvS hlS hw⟩ trivial
  refine ⟨n, o, q1, q2, q3, ?_⟩
  have subA : ∀ q, va_A (pmW (fun i => ad (ρ i)) cA S) sz q → va_A (pmW ad cA T) sz q := by
    intro q hq
    rcases hq with ⟨k, e, hk⟩ | hq
    · obtain ⟨e1, w1, w2, w3⟩ := pmW_get hk
      obtain ⟨-, z1, z2, z3, z4, z5⟩ := hr.2.2 k w2
      refine Or.inl ⟨ρ k, e, ?_⟩
      rw [w3, pmW_at (ad := ad) (cA := cA) (S := T) (z1.trans w1), pmE_ren (ad := ad) (cA := cA) (e := e1) z2 z3 z4 z5]
    · exact Or.inr hq
  rcases q4 with ⟨⟨v, ad1, w1, w2, w3, w4, w5, w6, w7⟩, L, w8, w9⟩ | ⟨q, w0, X, ce, L, ⟨k, ad1, w1, w2, w4, w5, w6, w7⟩, w10, w11, w12, w13, w14, w15⟩
  · dsimp only at w1
    subst w1
    obtain ⟨ad2, y1, y2, y3, y4⟩ := pmBp_ren hsz w5 hlS hw hr w4 w6 w7 g3 g4 g5 g6 g7 g8 g9 g10
    refine Or.inl ⟨⟨v.map (pmRe ρ'), ad2, g1, ?_, ?_, y1, by have h5 : S.1.length ≤ rS.1.length := w5; show T.1.length ≤ r22.1.length; omega, y3, y4⟩, L, w8, fun q hq => subA _ (w9 q hq)⟩
    · rw [w2]
      congr 1
      cases v with
      | none => rfl
      | some v9 =>
        show some (pmRe ad1 v9) = some (pmRe ad2 (pmRe ρ' v9))
        congr 1
        have hv9 := w3 v9 rfl
        cases v9 with
        | ref i => exact congrArg Value.ref (y2 i hv9).symm
        | _ => rfl
    · intro z hz
      cases v with
      | none => cases hz
      | some v9 =>
        cases hz
        have hv9 := w3 v9 rfl
        cases v9 with
        | ref i =>
          show ρ' i < r22.1.length ∨ 90000 ≤ ρ' i
          rcases hv9 with h9 | h9
          · exact Or.inl (g4.2.2 i h9).1
          · exact Or.inr (by rw [g4.1 i h9]; exact h9)
        | _ => trivial
  · dsimp only at w1
    subst w1
    obtain ⟨ad2, y1, y2, y3, y4⟩ := pmBp_ren hsz w5 hlS hw hr w4 w6 w7 g3 g4 g5 g6 g7 g8 g9 g10
    exact Or.inr ⟨q, w0, X, ce, L, ⟨k, ad2, g1, w2, y1, by have h5 : S.1.length ≤ rS.1.length := w5; show T.1.length ≤ r22.1.length; omega, y3, y4⟩, w10, w11, w12, w13, w14, fun z hz => subA _ (w15 z hz)⟩
