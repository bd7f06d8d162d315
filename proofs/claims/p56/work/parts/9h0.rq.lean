/-! runs with what they cost bounded, and with what they leave told by a property -/
def RQ (E : pmEv0) (d j : Nat) (c : pmC) (A B : Nat) (Q : Option Value → pmS → Prop) : Prop := ∃ v S' a b, (∀ kc ks, pmRn E d j c kc ks (.inl v, S', kc + a, ks + b)) ∧ a ≤ A ∧ b ≤ B ∧ Q v S'
def EQ (E : pmEv0) (d t : Nat) (as : List Value) (S : pmS) (A B : Nat) (Q : Option Value → pmS → Prop) : Prop := ∃ v S' a b, pmEv Pg E d t as S (.inl v, S', a, b) ∧ a ≤ A ∧ b ≤ B ∧ Q v S'
def EC (E : pmEv0) (d t : Nat) (as : List Value) (S : pmS) (A B : Nat) (Q : Option Value → pmS → Prop) : Prop := ∃ v S' a b, pmCl2 (pmEv Pg E d) t as S (.inl v, S', a, b) ∧ a ≤ A ∧ b ≤ B ∧ Q v S'
theorem EQ.ec {E : pmEv0} {d t : Nat} {as : List Value} {S : pmS} {A B : Nat} {Q : Option Value → pmS → Prop} (h : EQ E d t as S A B Q) : EC E d t as S A B Q := by
  obtain ⟨v, S', a, b, h, h2⟩ := h
  exact ⟨v, S', a, b, Or.inl h, h2⟩
theorem EQ.le {E : pmEv0} {d d' t : Nat} {as : List Value} {S : pmS} {A B A' B' : Nat} {Q : Option Value → pmS → Prop} (h : EQ E d t as S A B Q) (hd : d ≤ d') (hA : A ≤ A') (hB : B ≤ B') : EQ E d' t as S A' B' Q := by
  obtain ⟨v, S', a, b, h, h1, h2, h3⟩ := h
  exact ⟨v, S', a, b, pmEv_le h hd, Nat.le_trans h1 hA, Nat.le_trans h2 hB, h3⟩
theorem EQ.im {E : pmEv0} {d t : Nat} {as : List Value} {S : pmS} {A B : Nat} {Q Q' : Option Value → pmS → Prop} (h : EQ E d t as S A B Q) (hq : ∀ v S', Q v S' → Q' v S') : EQ E d t as S A B Q' := by
  obtain ⟨v, S', a, b, h, h1, h2, h3⟩ := h
  exact ⟨v, S', a, b, h, h1, h2, hq _ _ h3⟩
theorem EQ.mk0 {E : pmEv0} {d t : Nat} {as : List Value} {S S' : pmS} {v : Option Value} {A B : Nat} {Q : Option Value → pmS → Prop} (h : pmEv Pg E d t as S (.inl v, S', 0, 0)) (hQ : Q v S') : EQ E d t as S A B Q := ⟨v, S', 0, 0, h, Nat.zero_le _, Nat.zero_le _, hQ⟩
section RQS
variable {E : pmEv0} {d j : Nat} {co : Nat → Option (Instr × Nat × Nat × Nat)} {rt : Option FieldType} {hd : List (Nat × Nat × Nat × Nat × Nat)} {mx : Nat} {c c' : pmC} {A B : Nat} {Q : Option Value → pmS → Prop}
theorem q_go (hM : MM j co rt hd mx) (k : Nat) (c' : pmC) (hg : pmGL E co k c = some (c', [])) (h : RQ E d j c' A B Q) : RQ E d j c A B Q := by
  obtain ⟨v, S', a, b, h1, h2⟩ := h
  exact ⟨v, S', a, b, fun kc ks => xs_gl hM.1 k _ _ _ hg (fun _ h => absurd h List.not_mem_nil) (h1 kc ks), h2⟩
theorem q_gp (hM : MM j co rt hd mx) (k : Nat) (c' : pmC) (ps : List Prop) (hg : pmGL E co k c = some (c', ps)) (hp : pmAnd ps) (h : RQ E d j c' A B Q) : RQ E d j c A B Q := by
  obtain ⟨v, S', a, b, h1, h2⟩ := h
  exact ⟨v, S', a, b, fun kc ks => xs_gl hM.1 k _ _ _ hg (pmAnd_all hp) (h1 kc ks), h2⟩
theorem q_st (hM : MM j co rt hd mx) {i : Instr} {ln : Nat} {x : Nat × Nat} (b9 : Nat) (c' : pmC) {ps : List Prop} (hc : co c.1 = some (i, ln, x)) (hs : pmStp E b9 i x c = some (c', ps)) (hp : pmAnd ps) (h : RQ E d j c' A B Q) : RQ E d j c A B Q := by
  obtain ⟨v, S', a, b, h1, h2⟩ := h
  exact ⟨v, S', a, b, fun kc ks => xs_one hM.1 hc hs (pmAnd_all hp) (h1 kc ks), h2⟩
theorem q_call (hM : MM j co rt hd mx) {i : Instr} {ln : Nat} {x : Nat × Nat} {t : Nat} {as rest : List Value} {a b : Nat} {P : Option Value → pmS → Prop} (hc : co c.1 = some (i, ln, x)) (ha : pmArg Pg i x c = some (t, as, rest)) (hr : pmRx c.2.2.2 t x.1 as) (he : EC E d t as c.2.2.2 a b P)
    (h : ∀ v S', P v S' → RQ E d j (c.1 + 3, c.2.1, v.toList ++ rest, S') (A - a) (B - b) Q) (hA : a ≤ A := by decide) (hB : b ≤ B := by decide) : RQ E d j c A B Q := by
  obtain ⟨v, S', a1, b1, h1, h2, h3, h4⟩ := he
  obtain ⟨v2, S2, a2, b2, g1, g2, g3, g4⟩ := h v S' h4
  refine ⟨v2, S2, a1 + a2, b1 + b2, fun kc ks => ?_, by omega, by omega, g4⟩
  have := xs_callR (a := a1) (b := b1) (kc := kc) (ks := ks) hM.1 hc ha hr h1 (g1 (kc + a1) (ks + b1))
  rw [Nat.add_assoc, Nat.add_assoc] at this
  exact this
theorem q_al (hM : MM j co rt hd mx) {i : Instr} {ln : Nat} {x : Nat × Nat} (a b : Nat) (c' : pmC) (hc : co c.1 = some (i, ln, x)) (hs : pmAl i x c = some (c', a, b)) (h : RQ E d j c' (A - a) (B - b) Q) (hA : a ≤ A := by decide) (hB : b ≤ B := by decide) : RQ E d j c A B Q := by
  obtain ⟨v, S', a2, b2, h1, h2, h3, h4⟩ := h
  refine ⟨v, S', a + a2, b + b2, fun kc ks => ?_, by omega, by omega, h4⟩
  obtain ⟨n, g⟩ := h1 (kc + a) (ks + b)
  rw [Nat.add_assoc, Nat.add_assoc] at g
  exact ⟨n + 1, i, ln, x, by rw [hM.1]; exact hc, Or.inr (Or.inr (Or.inl ⟨c', a, b, hs, g⟩))⟩
theorem q_ret (hM : MM j co rt hd mx) {i : Instr} {ln : Nat} {x : Nat × Nat} {v : Option Value} {p2 : List Prop} (hc : co c.1 = some (i, ln, x)) (hr : pmRet rt i c.2.2.1 = some (v, p2)) (hp : pmAnd p2) (hQ : Q v c.2.2.2) : RQ E d j c A B Q := by
  refine ⟨v, c.2.2.2, 0, 0, fun kc ks => ⟨1, i, ln, x, by rw [hM.1]; exact hc, Or.inr (Or.inr (Or.inr (Or.inr (Or.inr (Or.inr (Or.inl ⟨v, p2, ?_, pmAnd_all hp, rfl⟩))))))⟩, Nat.zero_le _, Nat.zero_le _, hQ⟩
  rw [hM.2.1]
  exact hr
theorem q_le (hM : MM j co rt hd mx) {L' : List (Option Value)} (hc : (co c.1).isSome = true) (hl : pmLe L' c.2.1) (h : RQ E d j (c.1, L', c.2.2.1, c.2.2.2) A B Q) : RQ E d j c A B Q := by
  obtain ⟨v, S', a, b, h1, h2⟩ := h
  refine ⟨v, S', a, b, fun kc ks => ?_, h2⟩
  obtain ⟨n, g⟩ := h1 kc ks
  obtain ⟨y, hy⟩ := Option.isSome_iff_exists.mp hc
  exact ⟨n + 1, y.1, y.2.1, y.2.2, by rw [hM.1]; exact hy, Or.inr (Or.inr (Or.inr (Or.inr (Or.inr (Or.inr (Or.inr (Or.inr ⟨L', hl, g⟩)))))))⟩
theorem q_mono {A' B' : Nat} (h : RQ E d j c A B Q) (hA : A ≤ A') (hB : B ≤ B') : RQ E d j c A' B' Q := by
  obtain ⟨v, S', a, b, h1, h2, h3, h4⟩ := h
  exact ⟨v, S', a, b, h1, by omega, by omega, h4⟩
theorem q_ev (hM : MM j co rt hd mx) {as : List Value} {S : pmS} {L : List (Option Value)} (hl : (pmArgs as).length ≤ mx) (hL : pmL0 mx as = L) (h : RQ E d j (0, L, [], S) A B Q) : EQ E (d + 1) j as S A B Q := by
  obtain ⟨v, S', a, b, h1, h2⟩ := h
  subst hL
  have h9 := h1 0 0
  rw [Nat.zero_add, Nat.zero_add] at h9
  rw [← hM.2.2.2] at hl h9
  exact ⟨v, S', a, b, ⟨hl, h9⟩, h2⟩
-- steps over any store
variable {pc : Nat} {L : List (Option Value)} {st : List Value} {S : pmS}
theorem q_get (hM : MM j co rt hd mx) {k ci f q : Nat} {v : Value} (hc : co pc = some (.getfield k, 3, ci, f)) (h0 : S.1[q]? = some (.inl ci)) (hv : pmRd (pmTy ci f) S.2 q f = v) (h : RQ E d j (pc + 3, L, v :: st, S) A B Q) (hci : ci < 11 ∧ f < pmN ci := by decide) : RQ E d j (pc, L, .ref q :: st, S) A B Q := by
  have e : pmStep 0 (.getfield k) (ci, f) (pc, L, .ref q :: st, S) = some ((pc + 3, L, v :: st, S), []) := by
    show (match S.1[q]? with | some (.inl c1) => if (c1 = ci ∧ c1 < 11) ∧ f < pmN c1 then some (pmNx (pc, L, .ref q :: st, S) 3 (pmRd (pmTy c1 f) S.2 q f :: st), []) else none | _ => none) = _
    rw [h0]
    dsimp only
    rw [if_pos ⟨⟨rfl, hci.1⟩, hci.2⟩, hv]
    rfl
  exact q_st hM 0 _ hc (show pmStp E 0 _ _ _ = some ((pc + 3, L, v :: st, S), []) by unfold pmStp; rw [e]) trivial h
theorem q_put (hM : MM j co rt hd mx) {k ci f q : Nat} {v : Value} {μ : pmM} (hc : co pc = some (.putfield k, 3, ci, f)) (h0 : S.1[q]? = some (.inl ci)) (hv : pmWr (pmTy ci f) v S.2 q f = some μ) (h : RQ E d j (pc + 3, L, st, S.1, μ) A B Q) (hci : f < pmN ci := by decide) : RQ E d j (pc, L, v :: .ref q :: st, S) A B Q := by
  have e : pmStep 0 (.putfield k) (ci, f) (pc, L, v :: .ref q :: st, S) = some ((pc + 3, L, st, S.1, μ), []) := by
    show (match S.1[q]? with | some (.inl c1) => if c1 = ci ∧ f < pmN c1 then (match pmWr (pmTy c1 f) v S.2 q f with | some μ => some ((pc + 3, L, st, S.1, μ), []) | none => none) else none | _ => none) = _
    rw [h0]
    dsimp only
    rw [if_pos ⟨rfl, hci⟩, hv]
  exact q_st hM 0 _ hc (show pmStp E 0 _ _ _ = some ((pc + 3, L, st, S.1, μ), []) by unfold pmStp; rw [e]) trivial h
theorem q_len (hM : MM j co rt hd mx) {q t n : Nat} {x : Nat × Nat} (hc : co pc = some (.arraylength, 1, x)) (h0 : S.1[q]? = some (.inr (t, n))) (h : RQ E d j (pc + 1, L, .int (Int32.ofNat n) :: st, S) A B Q) (ht : t < 5 := by decide) : RQ E d j (pc, L, .ref q :: st, S) A B Q := by
  have e : pmStep 0 .arraylength x (pc, L, .ref q :: st, S) = some ((pc + 1, L, .int (Int32.ofNat n) :: st, S), []) := by
    show (match S.1[q]? with | some (.inr a) => if a.1 < 5 then some (pmNx (pc, L, .ref q :: st, S) 1 (.int (Int32.ofNat a.2) :: st), []) else none | _ => none) = _
    rw [h0]
    exact if_pos ht
  exact q_st hM 0 _ hc (show pmStp E 0 _ _ _ = some ((pc + 1, L, .int (Int32.ofNat n) :: st, S), []) by unfold pmStp; rw [e]) trivial h
theorem get_none {q : Nat} (hS : S.1.length ≤ 90000) (hq : 90000 ≤ q) : S.1[q]? = none := List.getElem?_eq_none (by omega)
/-- a String constant's bytes, coder -/
theorem q_l40 (hM : MM j co rt hd mx) {k q : Nat} (hS : S.1.length ≤ 90000) (hc : co pc = some (.getfield k, 3, 40, 0)) (h0 : q < pmSt0.length) (h : RQ E d j (pc + 3, L, .ref (200000 + q) :: st, S) A B Q) : RQ E d j (pc, L, .ref (100000 + q) :: st, S) A B Q := by
  have e : pmStep 0 (.getfield k) (40, 0) (pc, L, .ref (100000 + q) :: st, S) = none := by
    show (match S.1[100000 + q]? with | some (.inl c1) => if (c1 = 40 ∧ c1 < 11) ∧ 0 < pmN c1 then some (pmNx (pc, L, .ref (100000 + q) :: st, S) 3 (pmRd (pmTy c1 0) S.2 (100000 + q) 0 :: st), []) else none | _ => none) = _
    rw [get_none hS (by omega)]
  have e2 : pmXs E (.getfield k) (40, 0) (pc, L, .ref (100000 + q) :: st, S) = some ((pc + 3, L, .ref (200000 + q) :: st, S), []) := by
    show (if 100000 ≤ 100000 + q ∧ 100000 + q - 100000 < pmSt0.length then some (pmNx (pc, L, .ref (100000 + q) :: st, S) 3 (.ref (100000 + q + 100000) :: st), []) else none) = _
    rw [if_pos ⟨by omega, by omega⟩, show 100000 + q + 100000 = 200000 + q by omega]
    rfl
  exact q_st hM 0 _ hc (show pmStp E 0 _ _ _ = some ((pc + 3, L, .ref (200000 + q) :: st, S), []) by unfold pmStp; rw [e]; dsimp only; rw [e2]) trivial h
theorem q_l41 (hM : MM j co rt hd mx) {k q : Nat} (hS : S.1.length ≤ 90000) (hc : co pc = some (.getfield k, 3, 41, 0)) (h0 : q < pmSt0.length) (h : RQ E d j (pc + 3, L, .int 0 :: st, S) A B Q) : RQ E d j (pc, L, .ref (100000 + q) :: st, S) A B Q := by
  have e : pmStep 0 (.getfield k) (41, 0) (pc, L, .ref (100000 + q) :: st, S) = none := by
    show (match S.1[100000 + q]? with | some (.inl c1) => if (c1 = 41 ∧ c1 < 11) ∧ 0 < pmN c1 then some (pmNx (pc, L, .ref (100000 + q) :: st, S) 3 (pmRd (pmTy c1 0) S.2 (100000 + q) 0 :: st), []) else none | _ => none) = _
    rw [get_none hS (by omega)]
  have e2 : pmXs E (.getfield k) (41, 0) (pc, L, .ref (100000 + q) :: st, S) = some ((pc + 3, L, .int 0 :: st, S), []) := by
    show (if 100000 ≤ 100000 + q ∧ 100000 + q - 100000 < pmSt0.length then some (pmNx (pc, L, .ref (100000 + q) :: st, S) 3 (.int 0 :: st), []) else none) = _
    rw [if_pos ⟨by omega, by omega⟩]
    rfl
  exact q_st hM 0 _ hc (show pmStp E 0 _ _ _ = some ((pc + 3, L, .int 0 :: st, S), []) by unfold pmStp; rw [e]; dsimp only; rw [e2]) trivial h
theorem q_llen (hM : MM j co rt hd mx) {q : Nat} {x : Nat × Nat} (hS : S.1.length ≤ 90000) (hc : co pc = some (.arraylength, 1, x)) (h0 : q < pmSt0.length) (h : RQ E d j (pc + 1, L, .int (Int32.ofNat (pmStB q).length) :: st, S) A B Q) : RQ E d j (pc, L, .ref (200000 + q) :: st, S) A B Q := by
  have e : pmStep 0 .arraylength x (pc, L, .ref (200000 + q) :: st, S) = none := by
    show (match S.1[200000 + q]? with | some (.inr a) => if a.1 < 5 then some (pmNx (pc, L, .ref (200000 + q) :: st, S) 1 (.int (Int32.ofNat a.2) :: st), []) else none | _ => none) = _
    rw [get_none hS (by omega)]
  have e2 : pmXs E .arraylength x (pc, L, .ref (200000 + q) :: st, S) = some ((pc + 1, L, .int (Int32.ofNat (pmStB q).length) :: st, S), []) := by
    show (if 200000 + q = 99998 then some (pmNx (pc, L, .ref (200000 + q) :: st, S) 1 (.int (Int32.ofNat E.1) :: st), []) else if 200000 + q = 99999 then some (pmNx (pc, L, .ref (200000 + q) :: st, S) 1 (.int 5 :: st), []) else if 200000 ≤ 200000 + q ∧ 200000 + q - 200000 < pmSt0.length then some (pmNx (pc, L, .ref (200000 + q) :: st, S) 1 (.int (Int32.ofNat (pmStB (200000 + q - 200000)).length) :: st), []) else none) = _
    rw [if_neg (by omega), if_neg (by omega), if_pos ⟨by omega, by omega⟩, show 200000 + q - 200000 = q by omega]
    rfl
  exact q_st hM 0 _ hc (show pmStp E 0 _ _ _ = some ((pc + 1, L, .int (Int32.ofNat (pmStB q).length) :: st, S), []) by unfold pmStp; rw [e]; dsimp only; rw [e2]) trivial h
/-- a made String's bytes, coder -/
theorem q_s40 (hM : MM j co rt hd mx) {k q p : Nat} (hc : co pc = some (.getfield k, 3, 40, 0)) (hS : S.1.length ≤ 90000) (h0 : S.1[q]? = some (.inl 9)) (h1 : S.2.2.2.1 q 0 = some p) (h : RQ E d j (pc + 3, L, .ref p :: st, S) A B Q) : RQ E d j (pc, L, .ref q :: st, S) A B Q := by
  have hq : q < S.1.length := (List.getElem?_eq_some_iff.mp h0).1
  have e : pmStep 0 (.getfield k) (40, 0) (pc, L, .ref q :: st, S) = none := by
    show (match S.1[q]? with | some (.inl c1) => if (c1 = 40 ∧ c1 < 11) ∧ 0 < pmN c1 then some (pmNx (pc, L, .ref q :: st, S) 3 (pmRd (pmTy c1 0) S.2 q 0 :: st), []) else none | _ => none) = _
    rw [h0]
    rfl
  have e2 : pmXs E (.getfield k) (40, 0) (pc, L, .ref q :: st, S) = none := by
    show (if 100000 ≤ q ∧ q - 100000 < pmSt0.length then some (pmNx (pc, L, .ref q :: st, S) 3 (.ref (q + 100000) :: st), []) else none) = _
    rw [if_neg (by omega)]
  have e3 : pmXt (.getfield k) (40, 0) (pc, L, .ref q :: st, S) = some ((pc + 3, L, .ref p :: st, S), []) := by
    show (match S.1[q]? with | some (.inl ci) => if ci = 9 then some (pmNx (pc, L, .ref q :: st, S) 3 (va_rf (S.2.2.2.1 q 0) :: st), []) else none | _ => none) = _
    rw [h0, h1]
    rfl
  exact q_st hM 0 _ hc (show pmStp E 0 _ _ _ = some ((pc + 3, L, .ref p :: st, S), []) by unfold pmStp; rw [e]; dsimp only; rw [e2]; dsimp only; rw [e3]) trivial h
theorem q_s41 (hM : MM j co rt hd mx) {k q : Nat} (hc : co pc = some (.getfield k, 3, 41, 0)) (hS : S.1.length ≤ 90000) (h0 : S.1[q]? = some (.inl 9)) (h1 : S.2.1 q 1 = 0) (h : RQ E d j (pc + 3, L, .int 0 :: st, S) A B Q) : RQ E d j (pc, L, .ref q :: st, S) A B Q := by
  have hq : q < S.1.length := (List.getElem?_eq_some_iff.mp h0).1
  have e : pmStep 0 (.getfield k) (41, 0) (pc, L, .ref q :: st, S) = none := by
    show (match S.1[q]? with | some (.inl c1) => if (c1 = 41 ∧ c1 < 11) ∧ 0 < pmN c1 then some (pmNx (pc, L, .ref q :: st, S) 3 (pmRd (pmTy c1 0) S.2 q 0 :: st), []) else none | _ => none) = _
    rw [h0]
    rfl
  have e2 : pmXs E (.getfield k) (41, 0) (pc, L, .ref q :: st, S) = none := by
    show (if 100000 ≤ q ∧ q - 100000 < pmSt0.length then some (pmNx (pc, L, .ref q :: st, S) 3 (.int 0 :: st), []) else none) = _
    rw [if_neg (by omega)]
  have e3 : pmXt (.getfield k) (41, 0) (pc, L, .ref q :: st, S) = some ((pc + 3, L, .int 0 :: st, S), []) := by
    show (match S.1[q]? with | some (.inl ci) => if ci = 9 then some (pmNx (pc, L, .ref q :: st, S) 3 (.int (S.2.1 q 1) :: st), []) else none | _ => none) = _
    rw [h0, h1]
    rfl
  exact q_st hM 0 _ hc (show pmStp E 0 _ _ _ = some ((pc + 3, L, .int 0 :: st, S), []) by unfold pmStp; rw [e]; dsimp only; rw [e2]; dsimp only; rw [e3]) trivial h
theorem q_bld (hM : MM j co rt hd mx) {q n : Nat} {i : Int32} {x : Nat × Nat} (hc : co pc = some (.baload, 1, x)) (h0 : S.1[q]? = some (.inr (1, n))) (hi : vp_in i n) (h : RQ E d j (pc + 1, L, .int (S.2.1 q i.toNatClampNeg) :: st, S) A B Q) : RQ E d j (pc, L, .int i :: .ref q :: st, S) A B Q := by
  have e : pmStep 0 .baload x (pc, L, .int i :: .ref q :: st, S) = some ((pc + 1, L, .int (S.2.1 q i.toNatClampNeg) :: st, S), [vp_in i n]) := by
    show (match S.1[q]? with | some (.inr a) => if a.1 = 1 then some (pmNx (pc, L, .int i :: .ref q :: st, S) 1 (.int (S.2.1 q i.toNatClampNeg) :: st), [vp_in i a.2]) else none | _ => none) = _
    rw [h0]
    rfl
  exact q_st hM 0 _ hc (show pmStp E 0 _ _ _ = some ((pc + 1, L, .int (S.2.1 q i.toNatClampNeg) :: st, S), [vp_in i n]) by unfold pmStp; rw [e]) (pm1 hi) h
theorem q_bst (hM : MM j co rt hd mx) {q n : Nat} {i v : Int32} {x : Nat × Nat} (hc : co pc = some (.bastore, 1, x)) (h0 : S.1[q]? = some (.inr (1, n))) (hi : vp_in i n) (h : RQ E d j (pc + 1, L, st, S.1, pmU S.2.1 q i.toNatClampNeg (vp_nar .byte v), S.2.2) A B Q) : RQ E d j (pc, L, .int v :: .int i :: .ref q :: st, S) A B Q := by
  have e : pmStep 0 .bastore x (pc, L, .int v :: .int i :: .ref q :: st, S) = some ((pc + 1, L, st, S.1, pmU S.2.1 q i.toNatClampNeg (vp_nar .byte v), S.2.2), [vp_in i n]) := by
    show (match S.1[q]? with | some (.inr a) => if a.1 = 1 then some ((pc + 1, L, st, S.1, pmU S.2.1 q i.toNatClampNeg (vp_nar .byte v), S.2.2), [vp_in i a.2]) else none | _ => none) = _
    rw [h0]
    rfl
  exact q_st hM 0 _ hc (show pmStp E 0 _ _ _ = some ((pc + 1, L, st, S.1, pmU S.2.1 q i.toNatClampNeg (vp_nar .byte v), S.2.2), [vp_in i n]) by unfold pmStp; rw [e]) (pm1 hi) h
/-- the digits -/
theorem q_do (hM : MM j co rt hd mx) {i : Int32} {x : Nat × Nat} (hS : S.1.length ≤ 90000) (hc : co pc = some (.baload, 1, x)) (hi : vp_in i 100) (h : RQ E d j (pc + 1, L, .int (pmDo i.toNatClampNeg) :: st, S) A B Q) : RQ E d j (pc, L, .int i :: .ref 99996 :: st, S) A B Q := by
  have e : pmStep 0 .baload x (pc, L, .int i :: .ref 99996 :: st, S) = none := by
    show (match S.1[99996]? with | some (.inr a) => if a.1 = 1 then some (pmNx (pc, L, .int i :: .ref 99996 :: st, S) 1 (.int (S.2.1 99996 i.toNatClampNeg) :: st), [vp_in i a.2]) else none | _ => none) = _
    rw [get_none hS (by omega)]
  exact q_st hM 0 _ hc (show pmStp E 0 _ _ _ = some ((pc + 1, L, .int (pmDo i.toNatClampNeg) :: st, S), [vp_in i 100]) by unfold pmStp; rw [e]; rfl) (pm1 hi) h
theorem q_dt (hM : MM j co rt hd mx) {i : Int32} {x : Nat × Nat} (hS : S.1.length ≤ 90000) (hc : co pc = some (.baload, 1, x)) (hi : vp_in i 100) (h : RQ E d j (pc + 1, L, .int (pmDt i.toNatClampNeg) :: st, S) A B Q) : RQ E d j (pc, L, .int i :: .ref 99995 :: st, S) A B Q := by
  have e : pmStep 0 .baload x (pc, L, .int i :: .ref 99995 :: st, S) = none := by
    show (match S.1[99995]? with | some (.inr a) => if a.1 = 1 then some (pmNx (pc, L, .int i :: .ref 99995 :: st, S) 1 (.int (S.2.1 99995 i.toNatClampNeg) :: st), [vp_in i a.2]) else none | _ => none) = _
    rw [get_none hS (by omega)]
  exact q_st hM 0 _ hc (show pmStp E 0 _ _ _ = some ((pc + 1, L, .int (pmDt i.toNatClampNeg) :: st, S), [vp_in i 100]) by unfold pmStp; rw [e]; rfl) (pm1 hi) h
/-- bytes copied, from a row and from a constant -/
theorem q_cpb (hM : MM j co rt hd mx) {k q0 q n0 n1 : Nat} {sp dp n : Int32} (hS : S.1.length ≤ 90000) (hc : co pc = some (.invokestatic k, 3, 50, 0)) (h0 : S.1[q0]? = some (.inr (1, n0))) (h1 : S.1[q]? = some (.inr (1, n1))) (hst : (st.map fun v => v.category).sum ≤ 8)
    (hp : pmAnd [¬ sp < 0, ¬ dp < 0, ¬ n < 0, sp.toNatClampNeg + n.toNatClampNeg ≤ n0, dp.toNatClampNeg + n.toNatClampNeg ≤ n1, ∀ i : Nat, i < n.toNatClampNeg → fits .byte (.int (S.2.1 q0 (sp.toNatClampNeg + i))) = true])
    (h : RQ E d j (pc + 3, L, st, S.1, (fun i => if i = q then va_cpy (S.2.1 q0) (S.2.1 q) sp.toNatClampNeg dp.toNatClampNeg n.toNatClampNeg else S.2.1 i), S.2.2) A B Q) : RQ E d j (pc, L, .int n :: .int dp :: .ref q :: .int sp :: .ref q0 :: st, S) A B Q := by
  have hq0 : q0 < S.1.length := (List.getElem?_eq_some_iff.mp h0).1
  have e2 : pmXs E (.invokestatic k) (50, 0) (pc, L, .int n :: .int dp :: .ref q :: .int sp :: .ref q0 :: st, S) = none := by
    dsimp only [pmXs]
    rw [if_pos rfl, h0, h1]
    exact if_neg (fun h => absurd h.1 (show ¬ (1 : Nat) = 0 by decide))
  have e3 : pmXt (.invokestatic k) (50, 0) (pc, L, .int n :: .int dp :: .ref q :: .int sp :: .ref q0 :: st, S) = some ((pc + 3, L, st, S.1, (fun i => if i = q then va_cpy (S.2.1 q0) (S.2.1 q) sp.toNatClampNeg dp.toNatClampNeg n.toNatClampNeg else S.2.1 i), S.2.2), [¬ sp < 0, ¬ dp < 0, ¬ n < 0, sp.toNatClampNeg + n.toNatClampNeg ≤ n0, dp.toNatClampNeg + n.toNatClampNeg ≤ n1, ∀ i : Nat, i < n.toNatClampNeg → fits .byte (.int (S.2.1 q0 (sp.toNatClampNeg + i))) = true]) := by
    dsimp only [pmXt]
    rw [if_pos rfl, h1]
    dsimp only
    rw [if_pos ⟨rfl, hst⟩, if_neg (show ¬ (200000 ≤ q0 ∧ q0 - 200000 < pmSt0.length) by omega), h0]
    dsimp only
    rw [if_pos rfl]
  exact q_st hM 0 _ hc (show pmStp E 0 _ _ _ = some (_, _) by unfold pmStp; rw [show pmStep 0 (.invokestatic k) (50, 0) (pc, L, .int n :: .int dp :: .ref q :: .int sp :: .ref q0 :: st, S) = none from rfl]; dsimp only; rw [e2]; dsimp only; rw [e3]) hp h
theorem q_cpl (hM : MM j co rt hd mx) {k q0 q n1 : Nat} {sp dp n : Int32} (hS : S.1.length ≤ 90000) (hc : co pc = some (.invokestatic k, 3, 50, 0)) (h0 : q0 < pmSt0.length) (h1 : S.1[q]? = some (.inr (1, n1))) (hst : (st.map fun v => v.category).sum ≤ 8)
    (hp : pmAnd [¬ sp < 0, ¬ dp < 0, ¬ n < 0, sp.toNatClampNeg + n.toNatClampNeg ≤ (pmStB q0).length, dp.toNatClampNeg + n.toNatClampNeg ≤ n1, ∀ i : Nat, i < n.toNatClampNeg → fits .byte (.int ((pmStB q0).getD (sp.toNatClampNeg + i) 0)) = true])
    (h : RQ E d j (pc + 3, L, st, S.1, (fun i => if i = q then va_cpy (fun j => (pmStB q0).getD j 0) (S.2.1 q) sp.toNatClampNeg dp.toNatClampNeg n.toNatClampNeg else S.2.1 i), S.2.2) A B Q) : RQ E d j (pc, L, .int n :: .int dp :: .ref q :: .int sp :: .ref (200000 + q0) :: st, S) A B Q := by
  have e2 : pmXs E (.invokestatic k) (50, 0) (pc, L, .int n :: .int dp :: .ref q :: .int sp :: .ref (200000 + q0) :: st, S) = none := by
    dsimp only [pmXs]
    rw [if_pos rfl, get_none hS (by omega)]
  have e3 : pmXt (.invokestatic k) (50, 0) (pc, L, .int n :: .int dp :: .ref q :: .int sp :: .ref (200000 + q0) :: st, S) = some ((pc + 3, L, st, S.1, (fun i => if i = q then va_cpy (fun j => (pmStB q0).getD j 0) (S.2.1 q) sp.toNatClampNeg dp.toNatClampNeg n.toNatClampNeg else S.2.1 i), S.2.2), [¬ sp < 0, ¬ dp < 0, ¬ n < 0, sp.toNatClampNeg + n.toNatClampNeg ≤ (pmStB q0).length, dp.toNatClampNeg + n.toNatClampNeg ≤ n1, ∀ i : Nat, i < n.toNatClampNeg → fits .byte (.int ((pmStB q0).getD (sp.toNatClampNeg + i) 0)) = true]) := by
    dsimp only [pmXt]
    rw [if_pos rfl, h1]
    dsimp only
    rw [if_pos ⟨rfl, hst⟩, if_pos (show 200000 ≤ 200000 + q0 ∧ 200000 + q0 - 200000 < pmSt0.length by omega), show 200000 + q0 - 200000 = q0 by omega]
  exact q_st hM 0 _ hc (show pmStp E 0 _ _ _ = some (_, _) by unfold pmStp; rw [show pmStep 0 (.invokestatic k) (50, 0) (pc, L, .int n :: .int dp :: .ref q :: .int sp :: .ref (200000 + q0) :: st, S) = none from rfl]; dsimp only; rw [e2]; dsimp only; rw [e3]) hp h
end RQS
