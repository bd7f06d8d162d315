/-! the prologue: a run over a store of data -/
def lk {α : Type} (d : α) : List (Nat × Nat × α) → Nat → Nat → α
  | [], _, _ => d
  | w :: r, i, k => if i = w.1 then (if k = w.2.1 then w.2.2 else lk d r i k) else lk d r i k
abbrev dS : Type := pmG × List (Nat × Nat × Int32) × List (Nat × Nat × Option Nat)
abbrev dC : Type := Nat × List (Option Value) × List Value × dS
def den (S : dS) : pmS := (S.1, lk 0 S.2.1, (fun _ _ => 0), lk none S.2.2, fun _ _ => 0)
def prC (c : dC) : pmC := (c.1, c.2.1, c.2.2.1, den c.2.2.2)
def isPure (i : Instr) : Bool := match i with
  | .aload_n _ => true | .aload _ => true | .iload_n _ => true | .iload _ => true | .astore_n _ => true | .astore _ => true | .istore_n _ => true | .istore _ => true | .iinc _ _ => true | .iconst _ => true | .bipush _ => true | .sipush _ => true | .goto _ => true | .dup => true | .getfield _ => true | .arraylength => true
  | _ => false
theorem pmLd_S {n k t : Nat} {c c' : pmC} {ps : List Prop} (h : pmLd n k t c = some (c', ps)) : c'.2.2.2 = c.2.2.2 := by
  unfold pmLd at h
  split at h
  · split at h
    · cases h; rfl
    · cases h
  · cases h
theorem pmSt_S {n k t : Nat} {c c' : pmC} {ps : List Prop} (h : pmSt n k t c = some (c', ps)) : c'.2.2.2 = c.2.2.2 := by
  unfold pmSt at h
  split at h
  · split at h
    · cases h; rfl
    · cases h
  · cases h
theorem pure_S {i : Instr} {x : Nat × Nat} {c c' : pmC} {ps : List Prop} (hi : isPure i = true) (h : pmStep 0 i x c = some (c', ps)) : c'.2.2.2 = c.2.2.2 := by
  cases i <;> first
    | exact absurd (show false = true from hi) (by decide)
    | exact pmLd_S h
    | exact pmSt_S h
    | (simp only [pmStep, pmPush] at h; cases h; rfl)
    | (simp only [pmStep, pmInc] at h; split at h <;> first | (cases h; rfl) | cases h)
    | (simp only [pmStep, pmTgt] at h; split at h <;> first | (cases h; rfl) | cases h)
    | (simp only [pmStep, pmDup] at h; split at h <;> first | (split at h <;> first | (cases h; rfl) | cases h) | cases h)
    | (simp only [pmStep, pmGet] at h; split at h <;> first | (split at h <;> first | (split at h <;> first | (cases h; rfl) | cases h) | cases h) | cases h)
    | (simp only [pmStep, pmLen] at h; split at h <;> first | (split at h <;> first | (split at h <;> first | (cases h; rfl) | cases h) | cases h) | cases h)
/-- a step -/
def dOne (i : Instr) (x : Nat × Nat) (c : dC) : Option dC := if isPure i = true then (match pmStep 0 i x (prC c) with
    | some (c', []) => some (c'.1, c'.2.1, c'.2.2.1, c.2.2.2)
    | _ => none) else match i with
  | .if_icmp k off => (match c.2.2.1 with
    | .int y :: .int z :: r => (match k with
      | .ge => if y ≤ z then (if 0 ≤ (c.1 : Int) + off then some (((c.1 : Int) + off).toNat, c.2.1, r, c.2.2.2) else none) else (if 0 ≤ (c.1 : Int) + off then some (c.1 + 3, c.2.1, r, c.2.2.2) else none)
      | _ => none)
    | _ => none)
  | .putfield _ => (match c.2.2.1 with
    | v :: .ref q :: r => (match c.2.2.2.1[q]? with
      | some (.inl ci) => if ci = x.1 ∧ x.2 < pmN ci then (match pmTy ci x.2, v with
        | .int, .int y => some (c.1 + 3, c.2.1, r, c.2.2.2.1, (q, x.2, y) :: c.2.2.2.2.1, c.2.2.2.2.2)
        | .boolean, .int y => if y = 0 ∨ y = 1 then some (c.1 + 3, c.2.1, r, c.2.2.2.1, (q, x.2, y) :: c.2.2.2.2.1, c.2.2.2.2.2) else none
        | .object _, .ref p => some (c.1 + 3, c.2.1, r, c.2.2.2.1, c.2.2.2.2.1, (q, x.2, some p) :: c.2.2.2.2.2)
        | .array _, .ref p => some (c.1 + 3, c.2.1, r, c.2.2.2.1, c.2.2.2.2.1, (q, x.2, some p) :: c.2.2.2.2.2)
        | _, _ => none) else none
      | _ => none)
    | _ => none)
  | .invokespecial _ => (match c.2.2.1 with
    | .ref q :: r => if x.1 = 53 ∧ (r.map fun v => v.category).sum ≤ 8 then some (c.1 + 3, c.2.1, r, c.2.2.2) else none
    | _ => none)
  | _ => none
theorem dOne_ok {E : pmEv0} {i : Instr} {x : Nat × Nat} {c c' : dC} (h : dOne i x c = some c') : ∃ b ps, pmStp E b i x (prC c) = some (prC c', ps) ∧ ∀ P ∈ ps, P := by
  unfold dOne at h
  split at h
  · rename_i hp
    split at h
    · rename_i d hd
      have hs := pure_S hp hd
      cases h
      refine ⟨0, [], ?_, fun P g => absurd g List.not_mem_nil⟩
      unfold pmStp
      rw [hd]
      show some (d, []) = some ((d.1, d.2.1, d.2.2.1, den c.2.2.2), [])
      rw [show den c.2.2.2 = (prC c).2.2.2 from rfl, ← hs]
    · cases h
  · split at h
    · rename_i k off hnp
      split at h
      · rename_i y z r hst
        split at h
        · have hc : (prC c).2.2.1 = .int y :: .int z :: r := hst
          split at h
          · rename_i hyz
            split at h
            · rename_i h0
              cases h
              refine ⟨1, [pmCd .ge z y], ?_, fun P g => by rw [List.mem_singleton.mp g]; exact hyz⟩
              show (match pmStep 1 (.if_icmp .ge off) x (prC c) with | some r => some r | none => _) = _
              have : pmStep 1 (.if_icmp .ge off) x (prC c) = some ((((c.1 : Int) + off).toNat, c.2.1, r, den c.2.2.2), [pmCd .ge z y]) := by
                show pmIc 1 .ge off (prC c) = _
                unfold pmIc
                rw [hc]
                show pmBr 1 off 3 (prC c) r (pmCd .ge z y) = _
                unfold pmBr
                rw [if_pos (show 0 ≤ ((prC c).1 : Int) + off from h0), if_neg (by decide)]
                rfl
              rw [this]
              rfl
            · cases h
          · rename_i hyz
            split at h
            · rename_i h0
              cases h
              refine ⟨0, [¬ pmCd .ge z y], ?_, fun P g => by rw [List.mem_singleton.mp g]; exact hyz⟩
              show (match pmStep 0 (.if_icmp .ge off) x (prC c) with | some r => some r | none => _) = _
              have : pmStep 0 (.if_icmp .ge off) x (prC c) = some ((c.1 + 3, c.2.1, r, den c.2.2.2), [¬ pmCd .ge z y]) := by
                show pmIc 0 .ge off (prC c) = _
                unfold pmIc
                rw [hc]
                show pmBr 0 off 3 (prC c) r (pmCd .ge z y) = _
                unfold pmBr
                rw [if_pos (show 0 ≤ ((prC c).1 : Int) + off from h0), if_pos rfl]
                rfl
              rw [this]
              rfl
            · cases h
        · cases h
      · cases h
    · rename_i idx hnp
      split at h
      · rename_i v q r hst
        split at h
        · rename_i ci hG
          split at h
          · rename_i hx
            have key : ∀ (c9 : dC) (μ : pmM), pmWr (pmTy ci x.2) v (den c.2.2.2).2 q x.2 = some μ → prC c9 = (c.1 + 3, c.2.1, r, c.2.2.2.1, μ) → ∃ b ps, pmStp E b (.putfield idx) x (prC c) = some (prC c9, ps) ∧ ∀ P ∈ ps, P := fun c9 μ hw hc9 => by
              refine ⟨0, [], ?_, fun P g => absurd g List.not_mem_nil⟩
              have : pmStep 0 (.putfield idx) x (prC c) = some (prC c9, []) := by
                show pmPut x (prC c) = _
                unfold pmPut
                rw [show (prC c).2.2.1 = v :: .ref q :: r from hst]
                dsimp only
                rw [show (prC c).2.2.2.1[q]? = some (.inl ci) from hG]
                dsimp only
                rw [if_pos hx, show pmWr (pmTy ci x.2) v (prC c).2.2.2.2 q x.2 = some μ from hw, hc9]
                rfl
              unfold pmStp
              rw [this]
            split at h
            · rename_i y ht
              cases h
              exact key _ _ (by rw [ht]; rfl) rfl
            · rename_i y ht
              split at h
              · rename_i hy
                cases h
                exact key _ _ (by rw [ht]; exact if_pos hy) rfl
              · cases h
            · rename_i p ht
              cases h
              exact key _ _ (by rw [ht]; rfl) rfl
            · rename_i p ht
              cases h
              exact key _ _ (by rw [ht]; rfl) rfl
            · cases h
          · cases h
        · cases h
      · cases h
    · rename_i idx hnp
      split at h
      · rename_i q r hst
        split at h
        · rename_i hx
          cases h
          refine ⟨0, [], ?_, fun P g => absurd g List.not_mem_nil⟩
          have e9 : pmXs E (.invokespecial idx) x (prC c) = some (prC (c.1 + 3, c.2.1, r, c.2.2.2), []) := by
            unfold pmXs
            rw [show (prC c).2.2.1 = .ref q :: r from hst]
            dsimp only
            rw [if_pos hx]
            rfl
          show (match pmXs E (.invokespecial idx) x (prC c) with | some r => some r | none => pmXt (.invokespecial idx) x (prC c)) = _
          rw [e9]
        · cases h
      · cases h
    · cases h
/-- a row of states gets one -/
def dAas (i : Instr) (c : dC) : Option dC := match i with
  | .aastore => (match c.2.2.1 with
    | .ref v :: .int j :: .ref q :: r => (match c.2.2.2.1[q]?, c.2.2.2.1[v]? with
      | some (.inr a), some (.inl ci) => if (a.1 = 4 ∧ ci = 6) ∧ okI j a.2 = true then some (c.1 + 1, c.2.1, r, c.2.2.2.1, c.2.2.2.2.1, (q, j.toNatClampNeg, some v) :: c.2.2.2.2.2) else none
      | _, _ => none)
    | _ => none)
  | _ => none
theorem dAas_ok {i : Instr} {c c' : dC} (h : dAas i c = some c') : ∃ ps, pmAas i (prC c) = some (prC c', ps) ∧ ∀ P ∈ ps, P := by
  unfold dAas at h
  split at h
  · split at h
    · rename_i v j q r hst
      split at h
      · rename_i a ci h1 h2
        split at h
        · rename_i hx
          cases h
          refine ⟨[vp_in j a.2], ?_, fun P g => by rw [List.mem_singleton.mp g]; exact ok_in hx.2⟩
          unfold pmAas
          dsimp only
          rw [show (prC c).2.2.1 = .ref v :: .int j :: .ref q :: r from hst]
          dsimp only
          rw [show (prC c).2.2.2.1[q]? = some (.inr a) from h1, show (prC c).2.2.2.1[v]? = some (.inl ci) from h2]
          dsimp only
          rw [if_pos hx.1]
          rfl
        · cases h
      · cases h
    · cases h
  · cases h
/-- a new thing -/
def dAl (i : Instr) (x : Nat × Nat) (c : dC) : Option (dC × Nat × Nat) := if (c.2.2.2.2.1.all fun w => decide (¬ w.1 = c.2.2.2.1.length)) = true ∧ (c.2.2.2.2.2.all fun w => decide (¬ w.1 = c.2.2.2.1.length)) = true then (match pmAl i x (prC c) with
    | some w => some ((w.1.1, w.1.2.1, w.1.2.2.1, w.1.2.2.2.1, c.2.2.2.2.1, c.2.2.2.2.2), w.2.1, w.2.2)
    | none => none) else none
theorem pmAl_Z {i : Instr} {x : Nat × Nat} {c : pmC} {w : pmC × Nat × Nat} (h : pmAl i x c = some w) : w.1.2.2.2.2 = pmZ c.2.2.2.1.length c.2.2.2.2 := by
  unfold pmAl at h
  split at h
  · split at h
    · split at h
      · cases h; rfl
      · cases h
    · split at h
      · split at h
        · cases h; rfl
        · cases h
      · cases h
    · split at h
      · split at h
        · cases h; rfl
        · cases h
      · cases h
    · cases h
  · cases h
theorem lk_Z {α : Type} {d : α} {q : Nat} : ∀ {l : List (Nat × Nat × α)}, (l.all fun w => decide (¬ w.1 = q)) = true → ∀ k, lk d l q k = d
  | [], _, _ => rfl
  | w :: r, h, k => by
    rw [List.all_cons, Bool.and_eq_true] at h
    have h1 : ¬ w.1 = q := of_decide_eq_true h.1
    show (if q = w.1 then (if k = w.2.1 then w.2.2 else lk d r q k) else lk d r q k) = d
    rw [if_neg (fun e => h1 e.symm)]
    exact lk_Z h.2 k
theorem lk_ZF {α : Type} {d : α} {q : Nat} {l : List (Nat × Nat × α)} (h : (l.all fun w => decide (¬ w.1 = q)) = true) : (fun i k => if i = q then d else lk d l i k) = lk d l := by
  funext i k
  by_cases e : i = q
  · rw [if_pos e, e, lk_Z h]
  · rw [if_neg e]
theorem dAl_ok {i : Instr} {x : Nat × Nat} {c : dC} {w : dC × Nat × Nat} (h : dAl i x c = some w) : pmAl i x (prC c) = some (prC w.1, w.2.1, w.2.2) := by
  unfold dAl at h
  split at h
  · rename_i hg
    split at h
    · rename_i u hu
      have hz := pmAl_Z hu
      cases h
      rw [hu]
      obtain ⟨⟨p1, p2, p3, p4, p5⟩, a, b⟩ := u
      have hz : p5 = pmZ c.2.2.2.1.length (den c.2.2.2).2 := hz
      show some ((p1, p2, p3, p4, p5), a, b) = some ((p1, p2, p3, p4, (den (p4, c.2.2.2.2.1, c.2.2.2.2.2)).2), a, b)
      rw [hz]
      have : pmZ c.2.2.2.1.length (den c.2.2.2).2 = (den (p4, c.2.2.2.2.1, c.2.2.2.2.2)).2 := by
        unfold pmZ den
        dsimp only
        rw [lk_ZF hg.1, lk_ZF hg.2]
        have e1 : (fun (i k : Nat) => if i = c.2.2.2.1.length then (0 : Int64) else 0) = fun _ _ => 0 := by funext i k; split <;> rfl
        have e2 : (fun (i k : Nat) => if i = c.2.2.2.1.length then (0 : UInt64) else 0) = fun _ _ => 0 := by funext i k; split <;> rfl
        rw [e1, e2]
      rw [this]
    · cases h
  · cases h
/-- the receiver's class -/
def rcv (G : pmG) (t : Nat) (as : List Value) : Bool := match as with
  | .ref q :: _ => (match G[q]? with
    | some (.inl cl) => decide (cl < 11) && decide (pmCN cl = (pmNm (Pg t)).cls)
    | _ => false)
  | _ => false
theorem rcv_ok {S : dS} {t x1 : Nat} {as : List Value} (h : rcv S.1 t as = true) : 2 ≤ x1 → x1 ≤ 5 → ∃ w, as[0]? = some w ∧ pmRv (den S) (pmNm (Pg t)).cls w := by
  unfold rcv at h
  split at h
  · rename_i q r
    split at h
    · rename_i cl hG
      rw [Bool.and_eq_true] at h
      intro _ _
      exact ⟨.ref q, rfl, q, rfl, Or.inl ⟨cl, hG, of_decide_eq_true h.1, of_decide_eq_true h.2⟩⟩
    · cases h
  · cases h
def prX (cal : Nat → List Value → dS → Option (dS × Nat × Nat)) (j stop : Nat) : Nat → dC → Nat → Nat → Option (dC × Nat × Nat)
  | 0, _, _, _ => none
  | n + 1, c, kc, ks => if c.1 = stop then some (c, kc, ks) else match pmCo (Pg j) c.1 with
    | none => none
    | some e => match dOne e.1 e.2.2 c with
      | some c' => prX cal j stop n c' kc ks
      | none => match dAas e.1 c with
        | some c' => prX cal j stop n c' kc ks
        | none => match dAl e.1 e.2.2 c with
          | some w => prX cal j stop n w.1 (kc + w.2.1) (ks + w.2.2)
          | none => match pmArg Pg e.1 e.2.2 (prC c) with
            | some w => if (rcv c.2.2.2.1 w.1 w.2.1 && decide (e.2.2.1 ≤ 5)) = true then (match cal w.1 w.2.1 c.2.2.2 with
              | some u => prX cal j stop n (c.1 + 3, c.2.1, w.2.2, u.1) (kc + u.2.1) (ks + u.2.2)
              | none => none) else none
            | none => none
def prS (j : Nat) : Nat := match j with | 0 => 60 | 1 => 43 | 2 => 20 | 3 => 20 | 4 => 4 | 5 => 68 | 6 => 28 | 7 => 12 | 8 => 129 | _ => 124
def prE : Nat → Nat → List Value → dS → Option (dS × Nat × Nat)
  | 0 => fun _ _ _ => none
  | d + 1 => fun j as S => if (pmArgs as).length ≤ pmMx (Pg j) then (match pmRt (Pg j) with
    | none => (match prX (prE d) j (prS j) 200 (0, pmL0 (pmMx (Pg j)) as, [], S) 0 0 with
      | some w => (match w.1.2.2.1 with
        | [] => (match pmCo (Pg j) w.1.1 with
          | some (.return_, _) => some (w.1.2.2.2, w.2.1, w.2.2)
          | _ => none)
        | _ => none)
      | none => none)
    | some _ => none) else none
section RUN
variable {E : pmEv0} {d : Nat}
theorem prX_ok {cal : Nat → List Value → dS → Option (dS × Nat × Nat)} {j stop : Nat} (hcal : ∀ t as S u, cal t as S = some u → pmEv Pg E d t as (den S) (.inl none, den u.1, u.2.1, u.2.2)) : ∀ (n : Nat) (c : dC) (kc ks : Nat) (w : dC × Nat × Nat), prX cal j stop n c kc ks = some w → ∀ r, pmRn E d j (prC w.1) w.2.1 w.2.2 r → pmRn E d j (prC c) kc ks r
  | 0, _, _, _, _, h, _, _ => nomatch h
  | n + 1, c, kc, ks, w, h, r, hr => by
    unfold prX at h
    split at h
    · cases h
      exact hr
    · split at h
      · cases h
      · rename_i e he
        have he : pmCo (Pg j) (prC c).1 = some (e.1, e.2.1, e.2.2) := he
        split at h
        · rename_i c' h1
          obtain ⟨b, ps, e1, e2⟩ := dOne_ok (E := E) h1
          obtain ⟨m, hm⟩ := prX_ok hcal n _ _ _ _ h r hr
          exact ⟨m + 1, e.1, e.2.1, e.2.2, he, Or.inl ⟨b, prC c', ps, e1, e2, hm⟩⟩
        · split at h
          · rename_i c' h1
            obtain ⟨ps, e1, e2⟩ := dAas_ok h1
            obtain ⟨m, hm⟩ := prX_ok hcal n _ _ _ _ h r hr
            exact ⟨m + 1, e.1, e.2.1, e.2.2, he, Or.inr (Or.inl ⟨prC c', ps, e1, e2, hm⟩)⟩
          · split at h
            · rename_i u h1
              obtain ⟨m, hm⟩ := prX_ok hcal n _ _ _ _ h r hr
              exact ⟨m + 1, e.1, e.2.1, e.2.2, he, Or.inr (Or.inr (Or.inl ⟨prC u.1, u.2.1, u.2.2, dAl_ok h1, hm⟩))⟩
            · split at h
              · rename_i u h1
                split at h
                · rename_i hrc
                  split at h
                  · rename_i y h2
                    obtain ⟨m, hm⟩ := prX_ok hcal n _ _ _ _ h r hr
                    refine ⟨m + 1, e.1, e.2.1, e.2.2, he, Or.inr (Or.inr (Or.inr (Or.inl ⟨u.1, u.2.1, u.2.2, none, den y.1, y.2.1, y.2.2, h1, ⟨rcv_ok ((Bool.and_eq_true _ _).mp hrc).1, fun g => absurd (of_decide_eq_true ((Bool.and_eq_true _ _).mp hrc).2) (by omega), fun g => absurd (of_decide_eq_true ((Bool.and_eq_true _ _).mp hrc).2) (by omega)⟩, Or.inl (hcal _ _ _ _ h2), hm⟩)))⟩
                  · cases h
                · cases h
              · cases h
theorem prE_ok : ∀ (d j : Nat) (as : List Value) (S : dS) (u : dS × Nat × Nat), prE d j as S = some u → pmEv Pg E d j as (den S) (.inl none, den u.1, u.2.1, u.2.2)
  | 0, _, _, _, _, h => nomatch h
  | d + 1, j, as, S, u, h => by
    unfold prE at h
    split at h
    · rename_i hl
      split at h
      · rename_i hrt
        split at h
        · rename_i w hw
          split at h
          · rename_i hst
            split at h
            · rename_i y hco
              cases h
              refine ⟨hl, ?_⟩
              refine prX_ok (d := d) (fun t as S u g => prE_ok d t as S u g) _ _ _ _ w hw _ ⟨1, .return_, y.1, y.2, hco, ?_⟩
              refine Or.inr (Or.inr (Or.inr (Or.inr (Or.inr (Or.inr (Or.inl ⟨none, [], ?_, fun P g => absurd g List.not_mem_nil, rfl⟩))))))
              show pmRet (pmRt (Pg j)) .return_ w.1.2.2.1 = _
              rw [hst, hrt]
              rfl
            · cases h
          · cases h
        · cases h
      · cases h
    · cases h
end RUN
