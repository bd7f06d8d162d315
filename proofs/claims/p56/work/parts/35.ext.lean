/-! runs over the class's things and others behind them -/
def mixR {α : Type} (f g : Nat → Nat → α) : Nat → Nat → α := fun i k => if i < 113 then f i k else g i k
/-- the class's things, and behind them things of shapes J that hold F -/
def eS (J : pmG) (F : pmM) (m : pmI) (D : Nat → Nat → UInt64) : pmS := (pmG0 ++ J, mixR m.1 F.1, mixR m.2 F.2.1, mixR pmR0 F.2.2.1, mixR D F.2.2.2)
/-- the references in F are to what is there -/
def okF9 (J : pmG) (F : pmM) : Prop := 113 + J.length ≤ 90000 ∧ ∀ i k q, F.2.2.1 i k = some q → q < 113 + J.length ∨ 90000 ≤ q
theorem pmG0_len : pmG0.length = 113 := by decide +kernel
theorem pmG0_app (J : pmG) : (pmG0 ++ J).length = 113 + J.length := by rw [List.length_append, pmG0_len]
set_option maxRecDepth 100000 in
theorem pmRl_ok : ∀ i, i < 113 → (pmRl i).all (fun o => match o with | none => true | some q => decide (q < 113)) = true := by decide +kernel
theorem pmRl_no {i : Nat} (h : 113 ≤ i) : pmRl i = [] := by
  unfold pmRl
  repeat' split
  all_goals first | omega | rfl
theorem pmR0_ok {i k q : Nat} (h : pmR0 i k = some q) : q < 113 := by
  unfold pmR0 at h
  split at h
  · rename_i v hv
    subst h
    rcases Nat.lt_or_ge i 113 with hi | hi
    · have := List.all_eq_true.mp (pmRl_ok i hi) _ (List.mem_of_getElem? hv)
      exact of_decide_eq_true this
    · rw [pmRl_no hi] at hv
      cases hv
  · cases h
theorem pmR0_vm {f : Nat → Nat → Int32} {g : Nat → Nat → Int64} {D : Nat → Nat → UInt64} : pmVm 113 (f, g, pmR0, D) := fun _ _ _ h => Or.inl (pmR0_ok h)
theorem eS_vm {J : pmG} {F : pmM} (hF : okF9 J F) (m : pmI) (D : Nat → Nat → UInt64) : pmVm (113 + J.length) (eS J F m D).2 := by
  intro i k q h
  have h : (if i < 113 then pmR0 i k else F.2.2.1 i k) = some q := h
  split at h
  · have := pmR0_ok h
    omega
  · exact hF.2 i k q h
/-- a call's arguments are of the class's things -/
def okA (as : List Value) : Bool := as.all (fun v => match v with | .ref i => decide (i < 113 ∨ 90000 ≤ i) | _ => true)
theorem okA_ok {as : List Value} (h : okA as = true) : ∀ v ∈ as, pmVv 113 v := by
  intro v hv
  have h1 := List.all_eq_true.mp h v hv
  cases v with
  | ref i =>
    have h2 : i < 113 ∨ 90000 ≤ i := of_decide_eq_true h1
    exact h2
  | _ => trivial
theorem ren_id {J : pmG} {F : pmM} {m : pmI} {D : Nat → Nat → UInt64} : pmRen id (sst m D) (eS J F m D) := by
  refine ⟨fun _ _ => rfl, fun _ _ _ _ h => h, fun i hi => ?_⟩
  have hi : i < 113 := by
    have h1 : i < pmG0.length := hi
    rw [pmG0_len] at h1
    exact h1
  have e : ∀ {α : Type} (f g : Nat → Nat → α), mixR f g i = f i := fun f g => by
    funext k
    exact if_pos hi
  refine ⟨?_, ?_, e m.1 F.1, e m.2 F.2.1, fun k => ?_, e D F.2.2.2⟩
  · show i < (pmG0 ++ J).length
    rw [pmG0_app]
    omega
  · exact List.getElem?_append_left (by rw [pmG0_len]; exact hi)
  · show mixR pmR0 F.2.2.1 i k = (pmR0 i k).map id
    rw [e]
    cases pmR0 i k <;> rfl
theorem pmRe_id (v : Value) : pmRe id v = v := by cases v <;> rfl
/-- what the class does does not touch what stands behind it -/
theorem calR_id {E : pmEv0} {d t : Nat} {as : List Value} {o : pmO} {J : pmG} {F : pmM} {m m' : pmI} {D : Nat → Nat → UInt64} {kc ks : Nat} (he : pmEv Pg E d t as (sst m D) (o, sst m' D, kc, ks)) (has : okA as = true) (hF : okF9 J F) : pmCalR (pmEv Pg E d) t as (eS J F m D) (o, eS J F m' D, kc, ks) := by
  refine ⟨id, id, as, sst m D, (o, sst m' D, kc, ks), he, ?_, ?_, ?_, ?_, ren_id, ?_, rfl, fun _ _ => rfl, ren_id, rfl, ?_, fun _ _ => rfl, ?_, ?_, ?_⟩
  · have : as.map (pmRe id) = as.map id := List.map_congr_left (fun v _ => pmRe_id v)
    rw [this, List.map_id]
  · show ∀ v ∈ as, pmVv pmG0.length v
    rw [pmG0_len]
    exact okA_ok has
  · show pmVm pmG0.length _
    rw [pmG0_len]
    exact pmR0_vm
  · show pmG0.length ≤ 90000
    rw [pmG0_len]
    omega
  · cases o with
    | inl v =>
      cases v with
      | none => rfl
      | some v => exact congrArg (fun z => Sum.inl (some z)) (pmRe_id v).symm
    | inr k => rfl
  · show (pmG0 ++ J).length ≤ 90000
    rw [pmG0_app]
    exact hF.1
  · show pmVm (pmG0 ++ J).length (eS J F m' D).2
    rw [pmG0_app]
    exact eS_vm hF m' D
  · intro i h1 h2
    exact absurd h2 (Nat.not_lt.mpr h1)
  · intro i h1 h2
    have hi : ¬ i < 113 := fun h => h2 i (by show i < pmG0.length; rw [pmG0_len]; exact h) rfl
    have e : ∀ {α : Type} (f f' g : Nat → Nat → α), mixR f' g i = mixR f g i := fun f f' g => by
      funext k
      exact (if_neg hi).trans (if_neg hi).symm
    exact ⟨e m.1 m'.1 F.1, e m.2 m'.2 F.2.1, rfl, rfl⟩
section XXE
variable {E : pmEv0} {d j : Nat} {β γ : Type} {T : β → pmR → Prop} {co : Nat → Option (Instr × Nat × Nat × Nat)} {rt : Option FieldType} {hd : List (Nat × Nat × Nat × Nat × Nat)} {mx kc ks w : Nat} {c : pmC} {J : pmG} {F : pmM} {m : pmI} {D : Nat → Nat → UInt64}
theorem xs_callR {i : Instr} {ln : Nat} {x : Nat × Nat} {t : Nat} {as rest : List Value} {vv : Option Value} {S' : pmS} {r : pmR} {a b : Nat} (hm : pmCo (Pg j) = co) (hc : co c.1 = some (i, ln, x)) (ha : pmArg Pg i x c = some (t, as, rest)) (hr : pmRx c.2.2.2 t x.1 as)
    (he : pmCl2 (pmEv Pg E d) t as c.2.2.2 (.inl vv, S', a, b)) (h : pmRn E d j (c.1 + 3, c.2.1, vv.toList ++ rest, S') (kc + a) (ks + b) r) : pmRn E d j c kc ks r := by
  obtain ⟨n, h⟩ := h
  exact ⟨n + 1, i, ln, x, by rw [hm]; exact hc, Or.inr (Or.inr (Or.inr (Or.inl ⟨t, as, rest, vv, S', a, b, ha, hr, he, h⟩)))⟩
/-- a call of the class's, with other things about -/
theorem x_callE (hM : MM j co rt hd mx) {oc : Option γ} {k : γ → Option β} {i : Instr} {ln : Nat} {x : Nat × Nat} {t : Nat} {as rest : List Value} (vv : γ → Option Value) (m' : γ → pmI) (hc : co c.1 = some (i, ln, x)) (ha : pmArg Pg i x c = some (t, as, rest)) (hr : pmRx c.2.2.2 t x.1 as) (hs : c.2.2.2 = eS J F m D) (has : okA as = true) (hF : okF9 J F)
    (he : ∀ v, oc = some v → pmEv Pg E d t as (sst m D) (.inl (vv v), sst (m' v) D, 0, 0)) (h : ∀ v, oc = some v → XX E d j (c.1 + 3, c.2.1, (vv v).toList ++ rest, eS J F (m' v) D) kc ks (k v) T) : XX E d j c kc ks (oc.bind k) T := by
  intro b hb r hT
  cases ho : oc with
  | none => rw [ho] at hb; cases hb
  | some v =>
    rw [ho] at hb
    refine xs_callR (a := 0) (b := 0) hM.1 hc ha hr (Or.inr ?_) (h v ho b hb r hT)
    rw [hs]
    exact calR_id (he v ho) has hF
/-- .. that must not throw -/
theorem x_callnE (hM : MM j co rt hd mx) {oc : Option ((γ ⊕ Nat) × pmI)} {kl : γ → pmI → Option β} {i : Instr} {ln : Nat} {x : Nat × Nat} {t : Nat} {as rest : List Value} (vv : γ → Option Value) (hc : co c.1 = some (i, ln, x)) (ha : pmArg Pg i x c = some (t, as, rest)) (hr : pmRx c.2.2.2 t x.1 as) (hs : c.2.2.2 = eS J F m D) (has : okA as = true) (hF : okF9 J F)
    (he : ∀ v, oc = some v → pmEv Pg E d t as (sst m D) (gT vv D v)) (h : ∀ v m, XX E d j (c.1 + 3, c.2.1, (vv v).toList ++ rest, eS J F m D) kc ks (kl v m) T) : XX E d j c kc ks (oc.bind (oT kl (fun _ _ => none))) T := by
  intro b hb r hT
  cases ho : oc with
  | none => rw [ho] at hb; cases hb
  | some v =>
    rw [ho] at hb
    have h1 := he v ho
    obtain ⟨v1, m1⟩ := v
    cases v1 with
    | inl z =>
      refine xs_callR (a := 0) (b := 0) hM.1 hc ha hr (Or.inr ?_) (h z m1 b hb r hT)
      rw [hs]
      exact calR_id h1 has hF
    | inr e => cases hb
/-- a helper of the law's -/
theorem x_callLE (hM : MM j co rt hd mx) {oc : Option (Int32 × pmI × Nat)} {k : Int32 × pmI × Nat → Option β} {i : Instr} {ln : Nat} {x : Nat × Nat} {t : Nat} {as rest : List Value} (hc : co c.1 = some (i, ln, x)) (ha : pmArg Pg i x c = some (t, as, rest)) (hr : pmRx c.2.2.2 t x.1 as) (hs : c.2.2.2 = eS J F m D) (has : okA as = true) (hF : okF9 J F)
    (he : ∀ v, oc = some v → pmEv Pg E d t as (sst m D) (gL D v)) (h : ∀ v, XX E d j (c.1 + 3, c.2.1, .int v.1 :: rest, eS J F v.2.1 D) (w + v.2.2) (6 * (w + v.2.2)) (k v) T) : XX E d j c w (6 * w) (oc.bind k) T := by
  intro b hb r hT
  cases ho : oc with
  | none => rw [ho] at hb; cases hb
  | some v =>
    rw [ho] at hb
    have g := h v b hb r hT
    rw [Nat.mul_add] at g
    refine xs_callR (a := v.2.2) (b := 6 * v.2.2) (vv := some (.int v.1)) hM.1 hc ha hr (Or.inr ?_) g
    rw [hs]
    exact calR_id (he v ho) has hF
end XXE
/-! .. and a row of 160 ints, the law's own -/
def rowX (a : Nat → Int32) : pmM := (fun i => if i = 113 then a else fun _ => 0, fun _ _ => 0, fun _ _ => none, fun _ _ => 0)
abbrev sX (a : Nat → Int32) (m : pmI) (D : Nat → Nat → UInt64) : pmS := eS [.inr (0, 160)] (rowX a) m D
theorem okX (a : Nat → Int32) : okF9 [.inr (0, 160)] (rowX a) := ⟨by show 113 + 1 ≤ 90000; omega, fun _ _ _ h => nomatch h⟩
def up1 (a : Nat → Int32) (k : Nat) (x : Int32) : Nat → Int32 := fun b => if b = k then x else a b
theorem sX_put (a : Nat → Int32) (m : pmI) (D : Nat → Nat → UInt64) (k : Nat) (x : Int32) : ((sX a m D).1, pmU (sX a m D).2.1 113 k x, (sX a m D).2.2) = sX (up1 a k x) m D := by
  have e : pmU (mixR m.1 (rowX a).1) 113 k x = mixR m.1 (rowX (up1 a k x)).1 := by
    funext i b
    unfold pmU mixR rowX up1
    dsimp only
    by_cases h : i = 113
    · subst h
      simp only [if_true, Nat.lt_irrefl, if_false]
    · rw [if_neg h]
      by_cases h2 : i < 113
      · rw [if_pos h2, if_pos h2]
      · rw [if_neg h2, if_neg h2, if_neg h, if_neg h]
  show (_, pmU (mixR m.1 (rowX a).1) 113 k x, _) = _
  rw [e]
  rfl
theorem sX_get (a : Nat → Int32) (m : pmI) (D : Nat → Nat → UInt64) (k : Nat) : (sX a m D).2.1 113 k = a k := rfl
theorem x_letG {E : pmEv0} {d j : Nat} {α β : Type} {T : β → pmR → Prop} {kc ks : Nat} (e : α) (cf : α → pmC) {k : α → Option β} (h : ∀ a, XX E d j (cf a) kc ks (k a) T) : XX E d j (cf e) kc ks (pmLet e k) T := h e
/-- the law puts a number into its row -/
theorem x_putX {E : pmEv0} {d j : Nat} {β : Type} {T : β → pmR → Prop} {co : Nat → Option (Instr × Nat × Nat × Nat)} {rt : Option FieldType} {hd : List (Nat × Nat × Nat × Nat × Nat)} {mx kc ks : Nat} {pc : Nat} {L : List (Option Value)} {st : List Value} {o : Option β} {a : Nat → Int32} {m : pmI} {D : Nat → Nat → UInt64} (hM : MM j co rt hd mx) (i x : Int32) (hc : co pc = some (.iastore, 1, 0, 0))
    (h : okI i 160 = true → XX E d j (pc + 1, L, st, sX (up1 a (Int32.toNatClampNeg i) x) m D) kc ks o T) : XX E d j (pc, L, .int x :: .int i :: .ref 113 :: st, sX a m D) kc ks (if okI i 160 = true then o else none) T := by
  intro b hb r hT
  split at hb
  · rename_i hok
    refine xs_one (c := (pc, L, .int x :: .int i :: .ref 113 :: st, sX a m D)) (c' := (pc + 1, L, st, (sX a m D).1, pmU (sX a m D).2.1 113 (Int32.toNatClampNeg i) x, (sX a m D).2.2)) (b := 0) (ps := [vp_in i 160]) hM.1 hc rfl (fun P hP => by rw [List.mem_singleton.mp hP]; exact ok_in hok) ?_
    rw [sX_put]
    exact h hok b hb r hT
  · cases hb
