/-! PM: a call of the small machine is a contract of the machine -/
theorem pmArgs_len (ad : Nat → Nat) : ∀ as : List Value, (lg_sl (as.map (pmRe ad))).length = (pmArgs as).length
  | [] => rfl
  | v :: r => by
    have ih := pmArgs_len ad r
    unfold pmArgs
    show (lg_sl (pmRe ad v :: r.map (pmRe ad))).length = _
    unfold lg_sl at ih ⊢
    rw [List.flatMap_cons, List.length_append, ih, pmRe_cat]
    split
    · show 2 + (pmArgs r).length = (pmArgs r).length + 1 + 1
      omega
    · show 1 + (pmArgs r).length = (pmArgs r).length + 1
      omega
theorem pmArgs_at {ad : Nat → Nat} : ∀ (as : List Value) (i k : Nat) (v : Value), (pmArgs as)[k]? = some (some v) → (i + k, pmRe ad v) ∈ lv_args i (as.map (pmRe ad))
  | [], i, k, v, h => by cases h
  | w :: r, i, k, v, h => by
    unfold pmArgs at h
    show (i + k, pmRe ad v) ∈ (i, pmRe ad w) :: lv_args (if (pmRe ad w).category = 2 then i + 2 else i + 1) (r.map (pmRe ad))
    rw [pmRe_cat]
    split at h
    · rename_i hc
      rw [if_pos hc]
      match k, h with
      | 0, h => cases h; exact List.mem_cons_self
      | 1, h => cases h
      | k + 2, h =>
        have ih := pmArgs_at (ad := ad) r (i + 2) k v h
        rw [show i + 2 + k = i + (k + 2) by omega] at ih
        exact List.mem_cons_of_mem _ ih
    · rename_i hc
      rw [if_neg hc]
      match k, h with
      | 0, h => cases h; exact List.mem_cons_self
      | k + 1, h =>
        have ih := pmArgs_at (ad := ad) r (i + 1) k v h
        rw [show i + 1 + k = i + (k + 1) by omega] at ih
        exact List.mem_cons_of_mem _ ih
theorem pmArgs_in : ∀ (as : List Value) (k : Nat) (v : Value), (pmArgs as)[k]? = some (some v) → v ∈ as
  | [], k, v, h => by cases h
  | w :: r, k, v, h => by
    unfold pmArgs at h
    split at h
    · match k, h with
      | 0, h => cases h; exact List.mem_cons_self
      | 1, h => cases h
      | k + 2, h => exact List.mem_cons_of_mem _ (pmArgs_in r k v h)
    · match k, h with
      | 0, h => cases h; exact List.mem_cons_self
      | k + 1, h => exact List.mem_cons_of_mem _ (pmArgs_in r k v h)
theorem pmL0_at {n : Nat} {as : List Value} {k : Nat} {v : Value} (h : (pmL0 n as)[k]? = some (some v)) : (pmArgs as)[k]? = some (some v) := by
  unfold pmL0 at h
  rcases Nat.lt_or_ge k (pmArgs as).length with hk | hk
  · rwa [List.getElem?_append_left hk] at h
  · rw [List.getElem?_append_right hk, List.getElem?_replicate] at h
    split at h <;> cases h
theorem pmL0_len {n : Nat} {as : List Value} (h : (pmArgs as).length ≤ n) : (pmL0 n as).length = n := by
  unfold pmL0
  rw [List.length_append, List.length_replicate]
  omega
/-! pm_ofW, pm_ofWH follow vx_ofW, vx_ofWH, for a method whose class has other methods run by entries -/
theorem pm_ofW {l : Launch} {y : MethodName} {ws ws' : List Cond} {rm : Room} {Pc : Array Value → State → Prop} {Qc : Array Value → State → Outcome → State → Prop} {XC : String → State → State → Prop} {mc ms : Nat} {free : Addr → Prop} {cc : ByteArray} {maxL : Nat} {ret : Option FieldType}
    (hy : plainFor y = true) (hw : ws = Cond.code y cc maxL ret :: ws')
    (body : ∀ p e s m args below meth c s₁, BodyLoose p l y (headSpec ws rm) cc maxL ret e s m args below meth c s₁ → c.maxLocals = maxL → (∀ x ∈ c.exceptionTable.toList, False) → Pc args s →
      W p l e (headSpec ws rm).room s m args below meth c s.heap [] 0 0 (vx_MQ below Qc XC args s mc ms free) (entryFrame m args maxL)) : vx_Met l y ws rm Pc Qc XC mc ms free := by
  refine MetFree.of_bodySF (code := cc) (maxLocals := maxL) (ret := ret) hy ?_ ?_
  · intro args s m h hn
    obtain ⟨meth, c, h1, h2, h3, h4, h5, h6, -, -⟩ := Cond.code_spec hn (atoms_spec (ws := ws) h _ (by rw [hw]; exact List.mem_cons_self))
    exact ⟨meth, c, h1, h2, h3, h4, h5, h6⟩
  · intro p e s m args below meth c s₁ B hml hP _
    have hh0 : s₁.heap = s.heap := by rw [B.state]; rfl
    have ht : ∀ x ∈ c.exceptionTable.toList, False := by
      obtain ⟨meth9, c9, h1, h2, -, -, -, -, h7, -⟩ := Cond.code_spec B.named (atoms_spec (ws := ws) B.pre _ (by rw [hw]; exact List.mem_cons_self))
      cases Option.some.inj (h1.symm.trans B.method)
      cases Option.some.inj (h2.symm.trans (Stand.of_body B).code)
      intro x hx
      rw [Array.isEmpty_iff.mp h7] at hx
      cases hx
    obtain ⟨t, a1, o, b1, b2, b3⟩ := body p e s m args below meth c s₁ B hml ht hP s₁ hh0 (Stand.of_body B)
    exact ⟨t, o, a1, b1, b2, b3⟩
theorem pm_ofWH {l : Launch} {y : MethodName} {ws ws' : List Cond} {rm : Room} {Pc : Array Value → State → Prop} {Qc : Array Value → State → Outcome → State → Prop} {XC : String → State → State → Prop} {mc ms : Nat} {free : Addr → Prop} {cc : ByteArray} {maxL : Nat} {ret : Option FieldType} {hh : List (Nat × Nat × Nat × Nat)}
    (hy : plainFor y = true) (hw : ws = Cond.codeWith y cc maxL ret hh :: ws')
    (body : ∀ p e s m args below meth c s₁, BodyLoose p l y (headSpec ws rm) cc maxL ret e s m args below meth c s₁ → c.maxLocals = maxL → Pc args s →
      W p l e (headSpec ws rm).room s m args below meth c s.heap [] 0 0 (vx_MQ below Qc XC args s mc ms free) (entryFrame m args maxL)) : vx_Met l y ws rm Pc Qc XC mc ms free := by
  refine MetFree.of_bodySF (code := cc) (maxLocals := maxL) (ret := ret) hy ?_ ?_
  · intro args s m h hn
    obtain ⟨m9, meth, c, hn9, h1, h2, h3, h4, -, h5, h6, -⟩ := Cond.codeWith_spec (atoms_spec (ws := ws) h _ (by rw [hw]; exact List.mem_cons_self))
    cases hn.symm.trans hn9
    exact ⟨meth, c, h1, h2, h3, h4, h5, h6⟩
  · intro p e s m args below meth c s₁ B hml hP _
    have hh0 : s₁.heap = s.heap := by rw [B.state]; rfl
    obtain ⟨t, a1, o, b1, b2, b3⟩ := body p e s m args below meth c s₁ B hml hP s₁ hh0 (Stand.of_body B)
    exact ⟨t, o, a1, b1, b2, b3⟩
section PMI
variable {l : Launch} {D : va_G} {cA : Nat → ClassId} {Pg : Nat → pmMe} {TB : List Cond} {E : pmEv0} {NM : Nat}
theorem pm_met {j d : Nat} {as : List Value} {S : pmS} {r : pmR} {cal : Nat → List Value → pmS → pmR → Prop} (hm : pmMOk NM Pg TB j) (hG : pmGood TB) (hst : l.stackTraces = false) (hE : pmVv 0 (va_rf E.2.2))
    (hcal : ∀ t as S r', t < NM → cal t as S r' → pmCon l Pg TB E D cA d t as S r') (hlen : (pmArgs as).length ≤ pmMx (Pg j)) {n : Nat} (hX : pmX Pg E cal j n (0, pmL0 (pmMx (Pg j)) as, [], S) 0 0 r) :
    pmCon l Pg TB E D cA (d + 1) j as S r := by
  intro ad sz hvas
  -- what both kinds of body come to
  have main : ∀ (p : Program) (e : Env) (s : State) (m : MethodId) (args : Array Value) (below : List Frame) (meth : Method) (c : Code), p.tables.exec = Jvm.exec → c.code = pmBy (Pg j) → c.maxLocals = pmMx (Pg j) → s.vm.findClass (pmNm (Pg j)).cls = some m.cls → meth.locks = false → meth.sig.returnType = pmRt (Pg j) → meth.name = (pmNm (Pg j)).name → c.exceptionTable.toList = tableOf (pmHh (pmHd (Pg j))) → (∀ w ∈ TB, w.before args s = true) →
      va_Pc (as.map (pmRe ad)) (fun U => U.heap.size = sz ∧ pmBw E D cA ad S U) args s → W p l e (pmRm (d + 1) r) s m args below meth c s.heap [] 0 0 (vx_MQ below (pmQc D cA ad S sz r) (pmXC D cA ad S sz r) args s r.2.2.1 r.2.2.2 (va_A (pmW ad cA S) sz)) (entryFrame m args (pmMx (Pg j))) := by
    intro p e s m args below meth c h1 h2 h3 h4 h5 h6 h7 h8 h9 h10
    obtain ⟨rfl, hsz, hP, hK, hD, hEn, hVm, hl9⟩ := h10
    have hl := lv_entry (as.map (pmRe ad)) (n := pmMx (Pg j)) (by rw [pmArgs_len]; exact hlen)
    rw [lg_entry_eq]
    generalize (lg_sl (as.map (pmRe ad)) ++ List.replicate (pmMx (Pg j) - (lg_sl (as.map (pmRe ad))).length) Slot.unset).toArray = ls at hl ⊢
    have hl' : lv_has ls (pmMx (Pg j)) (pmLv ad (pmL0 (pmMx (Pg j)) as)) := by
      refine lv_has_of hl (fun q hq => ?_)
      obtain ⟨v, g1, g2⟩ := pmLv_of hq
      have g3 := pmArgs_at (ad := ad) as 0 q.1 v (pmL0_at g1)
      rw [Nat.zero_add] at g3
      obtain ⟨q1, q2⟩ := q
      dsimp only at g2 g3
      rw [g2]
      exact g3
    rw [← hsz]
    have hEn' : pmEn E ad (va_A (pmW ad cA S) s.heap.size) s s.heap := hEn
    exact pm_body (sz := s.heap.size) (S0 := S) (ad0 := ad) hm hG hcal h1 h2 h3 h4 h5 h6 (fun h => h7.trans h) h8 h9 hst hK hE rfl rfl hEn' (Nat.le_refl _) (Nat.le_refl _) (Nat.le_refl _) (Nat.le_refl _) n (0, pmL0 (pmMx (Pg j)) as, [], S) 0 0 ad s.heap [] ls hX
      ⟨fun k v hk => hvas v (pmArgs_in as k v (pmL0_at hk)), fun _ h => absurd h List.not_mem_nil, hVm⟩ pmEx.rf (Nat.le_refl _) hl9 ⟨hP, hD.self, va_S.rf, hl', pmL0_len hlen⟩
  by_cases hhd : pmHd (Pg j) = []
  · have hw : pmHw (Pg j) = .code (pmNm (Pg j)) (pmBy (Pg j)) (pmMx (Pg j)) (pmRt (Pg j)) := if_pos hhd
    rw [hw]
    refine pm_ofW (cc := pmBy (Pg j)) (maxL := pmMx (Pg j)) (ret := pmRt (Pg j)) hm.2.2.2 rfl ?_
    intro p e s m args below meth c s₁ B hml ht hv
    have hts := atoms_spec B.pre
    refine main p e s m args below meth c B.exec B.bytes hml (findClass_of_methodNamed B.named) B.notSynchronized B.returns (name_of_methodNamed B.named B.method).1 ?_ (fun w hw9 => hts w (List.mem_cons_of_mem _ hw9)) hv
    rw [hhd]
    cases hc : c.exceptionTable.toList with
    | nil => rfl
    | cons a b => exact absurd (ht a (by rw [hc]; exact List.mem_cons_self)) id
  · have hw : pmHw (Pg j) = .codeWith (pmNm (Pg j)) (pmBy (Pg j)) (pmMx (Pg j)) (pmRt (Pg j)) (pmHh (pmHd (Pg j))) := if_neg hhd
    rw [hw]
    refine pm_ofWH (cc := pmBy (Pg j)) (maxL := pmMx (Pg j)) (ret := pmRt (Pg j)) (hh := pmHh (pmHd (Pg j))) hm.2.2.2 rfl ?_
    intro p e s m args below meth c s₁ B hml hv
    have hts := atoms_spec B.pre
    exact main p e s m args below meth c B.exec B.bytes hml (findClass_of_methodNamed B.named) B.notSynchronized B.returns (name_of_methodNamed B.named B.method).1 (vx_table (x := pmNm (Pg j)) B (hts _ List.mem_cons_self)) (fun w hw9 => hts w (List.mem_cons_of_mem _ hw9)) hv
/-- ALL CALLS -/
theorem pm_sound (hall : ∀ j, j < NM → pmMOk NM Pg TB j) (hG : pmGood TB) (hst : l.stackTraces = false) (hE : pmVv 0 (va_rf E.2.2)) : ∀ (d j : Nat) (as : List Value) (S : pmS) (r : pmR), j < NM → pmEv Pg E d j as S r → pmCon l Pg TB E D cA d j as S r
  | 0, _, _, _, _, _, h => absurd h id
  | d + 1, j, as, S, r, hj, h => by
    obtain ⟨h1, n, h2⟩ := h
    exact pm_met (hall j hj) hG hst hE (fun t as S r' ht h9 => h9.elim (fun h9 => pm_sound hall hG hst hE d t as S r' ht h9) (fun h9 => pmCon_ren (fun as S r h8 => pm_sound hall hG hst hE d t as S r ht h8) h9)) h1 h2
end PMI
