/-! the program's runs as functions: rules by which a method's body is read (used by the parts that wip/whole/gen_dec.py writes) -/
def z (k : Int) : Int32 := Int32.ofInt k
abbrev pmI : Type := (Nat → Nat → Int32) × (Nat → Nat → Int64)
/-- the things that stand when the law's loop begins -/
def pmG0 : pmG := [.inl 8, .inl 6, .inr (0, 8), .inr (0, 8), .inr (0, 8), .inr (0, 8), .inr (0, 72), .inr (0, 6), .inr (0, 6), .inl 6, .inr (0, 8), .inr (0, 8), .inr (0, 8), .inr (0, 8), .inr (0, 72), .inr (0, 6), .inr (0, 6), .inl 6, .inr (0, 8), .inr (0, 8), .inr (0, 8), .inr (0, 8), .inr (0, 72), .inr (0, 6), .inr (0, 6), .inl 2, .inr (4, 8), .inl 6, .inr (0, 8), .inr (0, 8), .inr (0, 8), .inr (0, 8), .inr (0, 72), .inr (0, 6), .inr (0, 6), .inl 6, .inr (0, 8), .inr (0, 8), .inr (0, 8), .inr (0, 8), .inr (0, 72), .inr (0, 6), .inr (0, 6), .inl 6, .inr (0, 8), .inr (0, 8), .inr (0, 8), .inr (0, 8), .inr (0, 72), .inr (0, 6), .inr (0, 6), .inl 6, .inr (0, 8), .inr (0, 8), .inr (0, 8), .inr (0, 8), .inr (0, 72), .inr (0, 6), .inr (0, 6), .inl 6, .inr (0, 8), .inr (0, 8), .inr (0, 8), .inr (0, 8), .inr (0, 72), .inr (0, 6), .inr (0, 6), .inl 6, .inr (0, 8), .inr (0, 8), .inr (0, 8), .inr (0, 8), .inr (0, 72), .inr (0, 6), .inr (0, 6), .inl 6, .inr (0, 8), .inr (0, 8), .inr (0, 8), .inr (0, 8), .inr (0, 72), .inr (0, 6), .inr (0, 6), .inl 6, .inr (0, 8), .inr (0, 8), .inr (0, 8), .inr (0, 8), .inr (0, 72), .inr (0, 6), .inr (0, 6), .inl 0, .inr (0, 64), .inr (0, 64), .inl 7, .inr (0, 64), .inr (0, 64), .inl 5, .inl 1, .inr (0, 36), .inr (0, 64), .inr (0, 7), .inr (0, 7), .inr (0, 7), .inr (0, 7), .inr (0, 7), .inr (0, 7), .inl 4, .inr (2, 60), .inr (0, 10), .inr (0, 30), .inl 3, .inr (2, 12)]
def pmRl (q : Nat) : List (Option Nat) := if q < 51 then (if q < 25 then (if q < 9 then (if q < 1 then (if q = 0 then [some 1, some 9, some 17, some 25, some 91, some 94, some 97, some 98, some 107, some 111] else []) else (if q = 1 then [none, none, none, some 2, some 3, some 4, some 5, some 6, some 7, none, some 8] else [])) else (if q < 17 then (if q = 9 then [none, none, none, some 10, some 11, some 12, some 13, some 14, some 15, none, some 16] else []) else (if q = 17 then [none, none, none, some 18, some 19, some 20, some 21, some 22, some 23, none, some 24] else []))) else (if q < 27 then (if q < 26 then (if q = 25 then [some 26] else []) else (if q = 26 then [some 27, some 35, some 43, some 51, some 59, some 67, some 75, some 83] else [])) else (if q < 35 then (if q = 27 then [none, none, none, some 28, some 29, some 30, some 31, some 32, some 33, none, some 34] else []) else (if q < 43 then (if q = 35 then [none, none, none, some 36, some 37, some 38, some 39, some 40, some 41, none, some 42] else []) else (if q = 43 then [none, none, none, some 44, some 45, some 46, some 47, some 48, some 49, none, some 50] else []))))) else (if q < 91 then (if q < 67 then (if q < 59 then (if q = 51 then [none, none, none, some 52, some 53, some 54, some 55, some 56, some 57, none, some 58] else []) else (if q = 59 then [none, none, none, some 60, some 61, some 62, some 63, some 64, some 65, none, some 66] else [])) else (if q < 75 then (if q = 67 then [none, none, none, some 68, some 69, some 70, some 71, some 72, some 73, none, some 74] else []) else (if q < 83 then (if q = 75 then [none, none, none, some 76, some 77, some 78, some 79, some 80, some 81, none, some 82] else []) else (if q = 83 then [none, none, none, some 84, some 85, some 86, some 87, some 88, some 89, none, some 90] else [])))) else (if q < 98 then (if q < 94 then (if q = 91 then [some 92, some 93] else []) else (if q = 94 then [some 95, some 96] else [])) else (if q < 107 then (if q = 98 then [none, none, some 99, some 100, some 101, some 102, some 103, some 104, some 105, some 106] else []) else (if q < 111 then (if q = 107 then [some 108, none, none, some 109, some 110] else []) else (if q = 111 then [some 112] else [])))))
def pmR0 (q k : Nat) : Option Nat := match (pmRl q)[k]? with
  | some v => v
  | none => none
abbrev sst (m : pmI) (D : Nat → Nat → UInt64) : pmS := (pmG0, m.1, m.2, pmR0, D)
def pmLet {α β : Type} (e : α) (k : α → β) : β := k e
def oS {γ β : Type} (k : γ → Option β) : γ ⊕ β → Option β
  | .inl v => k v
  | .inr b => some b
def oR {γ δ β : Type} (k : γ → Option (δ ⊕ β)) : γ ⊕ β → Option (δ ⊕ β)
  | .inl v => k v
  | .inr b => some (.inr b)
def oT {γ β : Type} (kl : γ → pmI → Option β) (kr : Nat → pmI → Option β) (v : (γ ⊕ Nat) × pmI) : Option β := match v.1 with
  | .inl z => kl z v.2
  | .inr e => kr e v.2
def sT {γ β : Type} (T1 : γ → pmR → Prop) (T2 : β → pmR → Prop) : γ ⊕ β → pmR → Prop
  | .inl v => T1 v
  | .inr b => T2 b
abbrev vI : Int32 → Option Value := fun v => some (.int v)
abbrev vJ : Int64 → Option Value := fun v => some (.long v)
abbrev vF : UInt32 → Option Value := fun v => some (.float v)
abbrev vD : UInt64 → Option Value := fun v => some (.double v)
abbrev vU : Unit → Option Value := fun _ => none
abbrev vR : Nat → Option Value := fun v => some (.ref v)
abbrev gP {γ : Type} (vv : γ → Option Value) (S : pmS) : γ → pmR := fun v => (.inl (vv v), S, 0, 0)
abbrev gM {γ : Type} (vv : γ → Option Value) (D : Nat → Nat → UInt64) : γ × pmI → pmR := fun v => (.inl (vv v.1), sst v.2 D, 0, 0)
abbrev gU (D : Nat → Nat → UInt64) : pmI → pmR := fun m => (.inl none, sst m D, 0, 0)
abbrev gT {γ : Type} (vv : γ → Option Value) (D : Nat → Nat → UInt64) (v : (γ ⊕ Nat) × pmI) : pmR := match v.1 with
  | .inl z => (.inl (vv z), sst v.2 D, 0, 0)
  | .inr e => (.inr e, sst v.2 D, 1, 6)
abbrev gL (D : Nat → Nat → UInt64) (b : Int32 × pmI × Nat) : pmR := (.inl (some (.int b.1)), sst b.2.1 D, b.2.2, 6 * b.2.2)
def okI (j : Int32) (n : Nat) : Bool := decide (¬ (j < 0 ∨ n ≤ j.toNatClampNeg))
theorem ok_in {j : Int32} {n : Nat} (h : okI j n = true) : vp_in j n := by
  unfold vp_in
  exact of_decide_eq_true h
def okF (r : UInt32) : Bool := decide (r &&& 0x7fffffff ≤ 0x7f800000)
theorem ok_f {r : UInt32} (h : okF r = true) : vf_n32 r := by
  unfold vf_n32
  exact of_decide_eq_true h
def okD (r : UInt64) : Bool := decide (r &&& 0x7fffffffffffffff ≤ 0x7ff0000000000000)
theorem ok_d {r : UInt64} (h : okD r = true) : vf_n64 r := by
  unfold vf_n64
  exact of_decide_eq_true h
theorem nn_iff {P : Prop} [Decidable P] : P ↔ ¬ ¬ P := Decidable.not_not.symm
theorem sw_at {x k : Int32} {a : Int} (h : x = k) (e : k.toInt = a := by decide) : x.toInt = a := by rw [h]; exact e
theorem sw_df (x : Int32) (lo : Int) (n : Nat) (h : ∀ k, k < n → ¬ x = Int32.ofInt (lo + (k : Int))) {hi : Int} (e : hi + 1 = lo + (n : Int) := by decide) : x.toInt < lo ∨ hi < x.toInt := by
  rcases Int.lt_or_le x.toInt lo with g | g
  · exact Or.inl g
  · rcases Int.lt_or_le hi x.toInt with g2 | g2
    · exact Or.inr g2
    · exfalso
      refine h (x.toInt - lo).toNat (by omega) ?_
      rw [show lo + ((x.toInt - lo).toNat : Int) = x.toInt by omega, Int32.ofInt_toInt]
theorem lk_n {x d : Int} : Op.lookupswitch.offset [] d x = d := rfl
theorem lk_c {x : Int32} {a o d : Int} {r : List (Int × Int)} (h : ¬ x = Int32.ofInt a) (g : Op.lookupswitch.offset r d x.toInt = d) : Op.lookupswitch.offset ((a, o) :: r) d x.toInt = d := by
  rw [Op.lookupswitch.offset_cons, if_neg]
  · exact g
  · intro e
    apply h
    rw [← Int32.ofInt_toInt x]
    exact congrArg _ (by simpa using e.symm)
/-- a method: code, return type, handlers, locals -/
def MM (j : Nat) (co : Nat → Option (Instr × Nat × Nat × Nat)) (rt : Option FieldType) (hd : List (Nat × Nat × Nat × Nat × Nat)) (mx : Nat) : Prop :=
  pmCo (Pg j) = co ∧ pmRt (Pg j) = rt ∧ pmHd (Pg j) = hd ∧ pmMx (Pg j) = mx
def pmRn (E : pmEv0) (d j : Nat) (c : pmC) (kc ks : Nat) (r : pmR) : Prop := ∃ n, pmX Pg E (pmCl2 (pmEv Pg E d)) j n c kc ks r
def XX {β : Type} (E : pmEv0) (d j : Nat) (c : pmC) (kc ks : Nat) (o : Option β) (T : β → pmR → Prop) : Prop := ∀ b, o = some b → ∀ r, T b r → pmRn E d j c kc ks r
def pmAnd : List Prop → Prop
  | [] => True
  | [p] => p
  | p :: q :: ps => p ∧ pmAnd (q :: ps)
theorem pm1 {P : Prop} (h : P) : pmAnd [P] := h
theorem pmAnd_all : ∀ {ps : List Prop}, pmAnd ps → ∀ P ∈ ps, P
  | [], _, _, h => absurd h List.not_mem_nil
  | [p], hp, P, h => by
    rcases List.mem_cons.mp h with rfl | h
    · exact hp
    · exact absurd h List.not_mem_nil
  | p :: q :: ps, hp, P, h => by
    rcases List.mem_cons.mp h with rfl | h
    · exact hp.1
    · exact pmAnd_all hp.2 P h
/-- k instructions that go straight on -/
def pmGL (E : pmEv0) (co : Nat → Option (Instr × Nat × Nat × Nat)) : Nat → pmC → Option (pmC × List Prop)
  | 0, c => some (c, [])
  | k + 1, c => match co c.1 with
    | some y => match pmStp E 0 y.1 y.2.2 c with
      | some z => match pmGL E co k z.1 with
        | some w => some (w.1, z.2 ++ w.2)
        | none => none
      | none => none
    | none => none
section XXS
variable {E : pmEv0} {d j : Nat} {β γ : Type} {T : β → pmR → Prop} {co : Nat → Option (Instr × Nat × Nat × Nat)} {rt : Option FieldType} {hd : List (Nat × Nat × Nat × Nat × Nat)} {mx kc ks : Nat} {c c' c0 c1 : pmC} {o o0 o1 : Option β}
theorem XX_none : XX E d j c kc ks (none : Option β) T := fun _ h => nomatch h
theorem xs_one {i : Instr} {ln : Nat} {x : Nat × Nat} {b : Nat} {ps : List Prop} {r : pmR} (hm : pmCo (Pg j) = co) (hc : co c.1 = some (i, ln, x)) (hs : pmStp E b i x c = some (c', ps)) (hp : ∀ P ∈ ps, P) (h : pmRn E d j c' kc ks r) : pmRn E d j c kc ks r := by
  obtain ⟨n, h⟩ := h
  exact ⟨n + 1, i, ln, x, by rw [hm]; exact hc, Or.inl ⟨b, c', ps, hs, hp, h⟩⟩
theorem xs_gl (hm : pmCo (Pg j) = co) {r : pmR} : ∀ (k : Nat) (c c' : pmC) (ps : List Prop), pmGL E co k c = some (c', ps) → (∀ P ∈ ps, P) → pmRn E d j c' kc ks r → pmRn E d j c kc ks r
  | 0, c, c', ps, h, _, hX => by
    cases h
    exact hX
  | k + 1, c, c', ps, h, hp, hX => by
    unfold pmGL at h
    split at h
    · rename_i y hy
      split at h
      · rename_i z hz
        split at h
        · rename_i w hw
          cases h
          exact xs_one (i := y.1) (ln := y.2.1) (x := y.2.2) hm hy hz (fun P h => hp P (List.mem_append_left _ h)) (xs_gl hm k _ _ _ hw (fun P h => hp P (List.mem_append_right _ h)) hX)
        · cases h
      · cases h
    · cases h
/-- straight on, nothing to be seen to -/
theorem x_go (hM : MM j co rt hd mx) (k : Nat) (c' : pmC) (hg : pmGL E co k c = some (c', [])) (h : XX E d j c' kc ks o T) : XX E d j c kc ks o T :=
  fun b hb r hr => xs_gl hM.1 k _ _ _ hg (fun _ h => absurd h List.not_mem_nil) (h b hb r hr)
/-- straight on, what is to be seen to holds -/
theorem x_gp (hM : MM j co rt hd mx) (k : Nat) (c' : pmC) (ps : List Prop) (hg : pmGL E co k c = some (c', ps)) (hp : pmAnd ps) (h : XX E d j c' kc ks o T) : XX E d j c kc ks o T :=
  fun b hb r hr => xs_gl hM.1 k _ _ _ hg (pmAnd_all hp) (h b hb r hr)
/-- straight on, under a guard -/
theorem x_gd {P : Prop} [Decidable P] (hM : MM j co rt hd mx) (k : Nat) (c' : pmC) (ps : List Prop) (hg : pmGL E co k c = some (c', ps)) (hp : P → pmAnd ps) (h : P → XX E d j c' kc ks o T) : XX E d j c kc ks (if P then o else none) T := by
  intro b hb r hr
  split at hb
  · rename_i hP
    exact xs_gl hM.1 k _ _ _ hg (pmAnd_all (hp hP)) (h hP b hb r hr)
  · cases hb
/-- a branch -/
theorem x_br {P : Prop} [Decidable P] (hM : MM j co rt hd mx) (c1 c0 : pmC) {i : Instr} {ln : Nat} {x : Nat × Nat} (hc : co c.1 = some (i, ln, x)) (h1 : pmStp E 1 i x c = some (c1, [P])) (h0 : pmStp E 0 i x c = some (c0, [¬ P])) (X1 : P → XX E d j c1 kc ks o1 T) (X0 : ¬ P → XX E d j c0 kc ks o0 T) : XX E d j c kc ks (if P then o1 else o0) T := by
  intro b hb r hr
  split at hb
  · rename_i hP
    exact xs_one hM.1 hc h1 (fun Q h => by rw [List.mem_singleton.mp h]; exact hP) (X1 hP b hb r hr)
  · rename_i hP
    exact xs_one hM.1 hc h0 (fun Q h => by rw [List.mem_singleton.mp h]; exact hP) (X0 hP b hb r hr)
/-- .. the other way round -/
theorem x_rb {P : Prop} [Decidable P] (hM : MM j co rt hd mx) (c1 c0 : pmC) {i : Instr} {ln : Nat} {x : Nat × Nat} {P' : Prop} (hc : co c.1 = some (i, ln, x)) (h1 : pmStp E 1 i x c = some (c1, [P'])) (h0 : pmStp E 0 i x c = some (c0, [¬ P'])) (hp : P ↔ ¬ P') (X0 : P → XX E d j c0 kc ks o0 T) (X1 : ¬ P → XX E d j c1 kc ks o1 T) : XX E d j c kc ks (if P then o0 else o1) T := by
  intro b hb r hr
  split at hb
  · rename_i hP
    exact xs_one hM.1 hc h0 (fun Q h => by rw [List.mem_singleton.mp h]; exact hp.mp hP) (X0 hP b hb r hr)
  · rename_i hP
    exact xs_one hM.1 hc h1 (fun Q h => by rw [List.mem_singleton.mp h]; exact Classical.byContradiction fun h => hP (hp.mpr h)) (X1 hP b hb r hr)
/-- a case of a switch -/
theorem x_sw {P : Prop} [Decidable P] (hM : MM j co rt hd mx) (b9 : Nat) (c1 : pmC) {i : Instr} {ln : Nat} {x : Nat × Nat} {ps : List Prop} (hc : co c.1 = some (i, ln, x)) (h1 : pmStp E b9 i x c = some (c1, ps)) (hp : P → pmAnd ps) (X1 : P → XX E d j c1 kc ks o1 T) (X0 : ¬ P → XX E d j c kc ks o0 T) : XX E d j c kc ks (if P then o1 else o0) T := by
  intro b hb r hr
  split at hb
  · rename_i hP
    exact xs_one hM.1 hc h1 (pmAnd_all (hp hP)) (X1 hP b hb r hr)
  · rename_i hP
    exact X0 hP b hb r hr
theorem x_sd (hM : MM j co rt hd mx) (b9 : Nat) (c1 : pmC) {i : Instr} {ln : Nat} {x : Nat × Nat} {ps : List Prop} (hc : co c.1 = some (i, ln, x)) (h1 : pmStp E b9 i x c = some (c1, ps)) (hp : pmAnd ps) (X1 : XX E d j c1 kc ks o T) : XX E d j c kc ks o T :=
  fun b hb r hr => xs_one hM.1 hc h1 (pmAnd_all hp) (X1 b hb r hr)
/-- case by case of a value -/
theorem x_eq {α : Type} [DecidableEq α] (v k : α) (c : α → pmC) (o1 : α → Option β) (X1 : XX E d j (c k) kc ks (o1 k) T) (X0 : ¬ v = k → XX E d j (c v) kc ks o0 T) : XX E d j (c v) kc ks (if v = k then o1 k else o0) T := by
  intro b hb r hr
  split at hb
  · rename_i hP
    rw [hP]
    exact X1 b hb r hr
  · rename_i hP
    exact X0 hP b hb r hr
theorem xs_call {i : Instr} {ln : Nat} {x : Nat × Nat} {t : Nat} {as rest : List Value} {vv : Option Value} {S' : pmS} {r : pmR} (hm : pmCo (Pg j) = co) (hc : co c.1 = some (i, ln, x)) (ha : pmArg Pg i x c = some (t, as, rest)) (hr : pmRk (pmNm (Pg t)).cls x.1 as c.2.2.2)
    (he : pmEv Pg E d t as c.2.2.2 (.inl vv, S', 0, 0)) (h : pmRn E d j (c.1 + 3, c.2.1, vv.toList ++ rest, S') kc ks r) : pmRn E d j c kc ks r := by
  obtain ⟨n, h⟩ := h
  exact ⟨n + 1, i, ln, x, by rw [hm]; exact hc, Or.inr (Or.inr (Or.inr (Or.inl ⟨t, as, rest, vv, S', 0, 0, ha, hr, Or.inl he, h⟩)))⟩
/-- a receiver is there -/
def pmRx (S : pmS) (t x1 : Nat) (as : List Value) : Prop := pmRk (pmNm (Pg t)).cls x1 as S
theorem rx_s {S : pmS} {t : Nat} {as : List Value} : pmRx S t 0 as := ⟨fun h => absurd h (by decide), fun h => absurd h (by decide), fun h => absurd h (by decide)⟩
theorem rx_s1 {S : pmS} {t : Nat} {as : List Value} : pmRx S t 1 as := ⟨fun h => absurd h (by decide), fun h => absurd h (by decide), fun h => absurd h (by decide)⟩
theorem rx_s6 {S : pmS} {t : Nat} {as : List Value} : pmRx S t 6 as := ⟨fun _ h => absurd h (by decide), fun h => absurd h (by decide), fun h => absurd h (by decide)⟩
theorem rx_o {S : pmS} {t x1 q : Nat} {as : List Value} (cl : Nat) (h : S.1[q]? = some (.inl cl)) (h1 : cl < 11) (h2 : pmCN cl = (pmNm (Pg t)).cls) (hx : x1 ≤ 5 := by decide) : pmRx S t x1 (.ref q :: as) := ⟨fun _ _ => ⟨.ref q, rfl, q, rfl, Or.inl ⟨cl, h, h1, h2⟩⟩, fun h => by omega, fun h => by omega⟩
theorem rx_j {S : pmS} {t x1 q : Nat} {as : List Value} (h1 : 100000 ≤ q) (h2 : q - 100000 < pmSt0.length) (h3 : (pmNm (Pg t)).cls = "java/lang/String") (hx : x1 ≤ 5 := by decide) : pmRx S t x1 (.ref q :: as) := ⟨fun _ _ => ⟨.ref q, rfl, q, rfl, Or.inr ⟨h1, h2, h3⟩⟩, fun h => by omega, fun h => by omega⟩
theorem rx_b {S : pmS} {t x1 q : Nat} {as : List Value} (h : S.1[q]? = some (.inl 10)) (hx : 8 ≤ x1 := by decide) : pmRx S t x1 (.ref q :: as) := ⟨fun _ _ => by omega, fun _ _ => ⟨.ref q, rfl, q, rfl, Or.inl ⟨10, h, by decide, rfl⟩⟩, fun h => by omega⟩
theorem rx_7 {S : pmS} {t q : Nat} {as : List Value} : pmRx S t 7 (.ref q :: as) := ⟨fun _ h => absurd h (by decide), fun h => absurd h (by decide), fun _ => ⟨q, rfl⟩⟩
/-- a call that returns -/
theorem x_call (hM : MM j co rt hd mx) {oc : Option γ} {k : γ → Option β} {i : Instr} {ln : Nat} {x : Nat × Nat} {t : Nat} {as rest : List Value} (vv : γ → Option Value) (S' : γ → pmS) (hc : co c.1 = some (i, ln, x)) (ha : pmArg Pg i x c = some (t, as, rest)) (hr : pmRx c.2.2.2 t x.1 as)
    (he : ∀ v, oc = some v → pmEv Pg E d t as c.2.2.2 (.inl (vv v), S' v, 0, 0)) (h : ∀ v, oc = some v → XX E d j (c.1 + 3, c.2.1, (vv v).toList ++ rest, S' v) kc ks (k v) T) : XX E d j c kc ks (oc.bind k) T := by
  intro b hb r hT
  cases ho : oc with
  | none => rw [ho] at hb; cases hb
  | some v =>
    rw [ho] at hb
    exact xs_call hM.1 hc ha hr (he v ho) (h v ho b hb r hT)
/-- a call that returns or throws, with nothing to catch it -/
theorem x_callt (hM : MM j co rt [] mx) {oc : Option ((γ ⊕ Nat) × pmI)} {kl : γ → pmI → Option β} {kr : Nat → pmI → Option β} {i : Instr} {ln : Nat} {x : Nat × Nat} {t : Nat} {as rest : List Value} (vv : γ → Option Value) (D : Nat → Nat → UInt64) (hc : co c.1 = some (i, ln, x)) (ha : pmArg Pg i x c = some (t, as, rest)) (hr : pmRx c.2.2.2 t x.1 as)
    (he : ∀ v, oc = some v → pmEv Pg E d t as c.2.2.2 (gT vv D v)) (h : ∀ v m, XX E d j (c.1 + 3, c.2.1, (vv v).toList ++ rest, sst m D) kc ks (kl v m) T)
    (ht : ∀ e m, ∀ b, kr e m = some b → ∀ r, T b r → r = (.inr e, sst m D, kc + 1, ks + 6)) : XX E d j c kc ks (oc.bind (oT kl kr)) T := by
  intro b hb r hT
  cases ho : oc with
  | none => rw [ho] at hb; cases hb
  | some v =>
    rw [ho] at hb
    have h1 := he v ho
    obtain ⟨v1, m1⟩ := v
    cases v1 with
    | inl z => exact xs_call hM.1 hc ha hr h1 (h z m1 b hb r hT)
    | inr e =>
      have h2 := ht e m1 b hb r hT
      subst h2
      exact ⟨1, i, ln, x, by rw [hM.1]; exact hc, Or.inr (Or.inr (Or.inr (Or.inr (Or.inl ⟨t, as, rest, e, sst m1 D, 1, 6, ha, hr, Or.inl h1, hM.2.2.1, rfl⟩))))⟩
/-- what handlers there are -/
def CH {β : Type} (hd : List (Nat × Nat × Nat × Nat × Nat)) (j pc : Nat) (E : pmEv0) (d : Nat) (L : List (Option Value)) (S : pmS) (kc ks : Nat) (T : β → pmR → Prop) (e : Nat) (o o9 : Option β) : Prop :=
  ∀ b, o = some b → ∃ h c2, pmCt hd pc e = some h ∧ pmHan (Pg j) h L S = some c2 ∧ XX E d j c2 (kc + 1) (ks + 6) o T
theorem ch_no {L : List (Option Value)} {S : pmS} {e pc : Nat} {o9 : Option β} : CH hd j pc E d L S kc ks T e none o9 := fun _ h => nomatch h
theorem ch_if {L : List (Option Value)} {S : pmS} {e k pc : Nat} {o9 : Option β} (h1 : e = k → ∃ h c2, pmCt hd pc e = some h ∧ pmHan (Pg j) h L S = some c2 ∧ XX E d j c2 (kc + 1) (ks + 6) o1 T) (h2 : CH hd j pc E d L S kc ks T e o0 o9) : CH hd j pc E d L S kc ks T e (if e = k then o1 else o0) o9 := by
  intro b hb
  by_cases he : e = k
  · rw [if_pos he] at hb ⊢
    exact h1 he
  · rw [if_neg he] at hb ⊢
    exact h2 b hb
/-- .. with handlers -/
theorem x_callh (hM : MM j co rt hd mx) {oc : Option ((γ ⊕ Nat) × pmI)} {kl : γ → pmI → Option β} {kr : Nat → pmI → Option β} {i : Instr} {ln : Nat} {x : Nat × Nat} {t : Nat} {as rest : List Value} (vv : γ → Option Value) (D : Nat → Nat → UInt64) (hc : co c.1 = some (i, ln, x)) (ha : pmArg Pg i x c = some (t, as, rest)) (hr : pmRx c.2.2.2 t x.1 as)
    (he : ∀ v, oc = some v → pmEv Pg E d t as c.2.2.2 (gT vv D v)) (h : ∀ v m, XX E d j (c.1 + 3, c.2.1, (vv v).toList ++ rest, sst m D) kc ks (kl v m) T)
    (ht : ∀ e m, CH hd j c.1 E d c.2.1 (sst m D) kc ks T e (kr e m) (kr e m)) : XX E d j c kc ks (oc.bind (oT kl kr)) T := by
  intro b hb r hT
  cases ho : oc with
  | none => rw [ho] at hb; cases hb
  | some v =>
    rw [ho] at hb
    have h1 := he v ho
    obtain ⟨v1, m1⟩ := v
    cases v1 with
    | inl z => exact xs_call hM.1 hc ha hr h1 (h z m1 b hb r hT)
    | inr e =>
      obtain ⟨h9, c2, g1, g2, g3⟩ := ht e m1 b hb
      obtain ⟨n, g4⟩ := g3 b hb r hT
      exact ⟨n + 1, i, ln, x, by rw [hM.1]; exact hc, Or.inr (Or.inr (Or.inr (Or.inr (Or.inr (Or.inl ⟨t, as, rest, e, sst m1 D, 1, 6, h9, c2, ha, hr, Or.inl h1, by rw [hM.2.2.1]; exact g1, g2, g4⟩)))))⟩
/-- a call of a helper of the law's -/
theorem x_callL (hM : MM j co rt hd mx) {oc : Option (Int32 × pmI × Nat)} {w : Nat} {k : Int32 × pmI × Nat → Option β} {i : Instr} {ln : Nat} {x : Nat × Nat} {t : Nat} {as rest : List Value} (D : Nat → Nat → UInt64) (hc : co c.1 = some (i, ln, x)) (ha : pmArg Pg i x c = some (t, as, rest)) (hr : pmRx c.2.2.2 t x.1 as)
    (he : ∀ v, oc = some v → pmEv Pg E d t as c.2.2.2 (gL D v)) (h : ∀ v, XX E d j (c.1 + 3, c.2.1, .int v.1 :: rest, sst v.2.1 D) (w + v.2.2) (6 * (w + v.2.2)) (k v) T) : XX E d j c w (6 * w) (oc.bind k) T := by
  intro b hb r hT
  cases ho : oc with
  | none => rw [ho] at hb; cases hb
  | some v =>
    rw [ho] at hb
    obtain ⟨n, g⟩ := h v b hb r hT
    rw [Nat.mul_add] at g
    exact ⟨n + 1, i, ln, x, by rw [hM.1]; exact hc, Or.inr (Or.inr (Or.inr (Or.inl ⟨t, as, rest, some (.int v.1), sst v.2.1 D, v.2.2, 6 * v.2.2, ha, hr, Or.inl (he v ho), g⟩)))⟩
/-- a call that must not throw -/
theorem x_calln (hM : MM j co rt hd mx) {oc : Option ((γ ⊕ Nat) × pmI)} {kl : γ → pmI → Option β} {i : Instr} {ln : Nat} {x : Nat × Nat} {t : Nat} {as rest : List Value} (vv : γ → Option Value) (D : Nat → Nat → UInt64) (hc : co c.1 = some (i, ln, x)) (ha : pmArg Pg i x c = some (t, as, rest)) (hr : pmRx c.2.2.2 t x.1 as)
    (he : ∀ v, oc = some v → pmEv Pg E d t as c.2.2.2 (gT vv D v)) (h : ∀ v m, XX E d j (c.1 + 3, c.2.1, (vv v).toList ++ rest, sst m D) kc ks (kl v m) T) : XX E d j c kc ks (oc.bind (oT kl (fun _ _ => none))) T := by
  intro b hb r hT
  cases ho : oc with
  | none => rw [ho] at hb; cases hb
  | some v =>
    rw [ho] at hb
    have h1 := he v ho
    obtain ⟨v1, m1⟩ := v
    cases v1 with
    | inl z => exact xs_call hM.1 hc ha hr h1 (h z m1 b hb r hT)
    | inr e => cases hb
/-- a return -/
theorem x_ret (hM : MM j co rt hd mx) {b : β} {i : Instr} {ln : Nat} {x : Nat × Nat} {v : Option Value} {p2 : List Prop} (hc : co c.1 = some (i, ln, x)) (hr : pmRet rt i c.2.2.1 = some (v, p2)) (hp : pmAnd p2) (hT : ∀ r, T b r → r = (.inl v, c.2.2.2, kc, ks)) : XX E d j c kc ks (some b) T := by
  intro b9 hb r h
  cases hb
  have e := hT r h
  subst e
  refine ⟨1, i, ln, x, by rw [hM.1]; exact hc, Or.inr (Or.inr (Or.inr (Or.inr (Or.inr (Or.inr (Or.inl ⟨v, p2, ?_, pmAnd_all hp, rfl⟩))))))⟩
  rw [hM.2.1]
  exact hr
theorem x_retd (hM : MM j co rt hd mx) {P : Prop} [Decidable P] {b : β} {i : Instr} {ln : Nat} {x : Nat × Nat} {v : Option Value} {p2 : List Prop} (hc : co c.1 = some (i, ln, x)) (hr : pmRet rt i c.2.2.1 = some (v, p2)) (hp : P → pmAnd p2) (hT : ∀ r, T b r → r = (.inl v, c.2.2.2, kc, ks)) : XX E d j c kc ks (if P then some b else none) T := by
  intro b9 hb r h
  split at hb
  · rename_i hP
    exact x_ret hM hc hr (hp hP) hT b9 hb r h
  · cases hb
/-- a throw -/
theorem x_thr (hM : MM j co rt [] mx) {b : β} {i : Instr} {ln : Nat} {x : Nat × Nat} {k : Nat} (hc : co c.1 = some (i, ln, x)) (ht : pmThr (Pg j) c.1 i x = some k) (hs : c.2.2.1 = []) (hT : ∀ r, T b r → r = (.inr k, c.2.2.2, kc + 1, ks + 6)) : XX E d j c kc ks (some b) T := by
  intro b9 hb r h
  cases hb
  have e := hT r h
  subst e
  exact ⟨1, i, ln, x, by rw [hM.1]; exact hc, Or.inr (Or.inr (Or.inr (Or.inr (Or.inr (Or.inr (Or.inr (Or.inl ⟨k, ht, hM.2.2.1, by rw [hs]; exact Nat.zero_le _, rfl⟩)))))))⟩
/-- less is known of the locals -/
theorem x_le (hM : MM j co rt hd mx) {L' : List (Option Value)} (hc : (co c.1).isSome = true) (hl : pmLe L' c.2.1) (h : XX E d j (c.1, L', c.2.2.1, c.2.2.2) kc ks o T) : XX E d j c kc ks o T := by
  intro b hb r hT
  obtain ⟨n, g⟩ := h b hb r hT
  obtain ⟨y, hy⟩ := Option.isSome_iff_exists.mp hc
  exact ⟨n + 1, y.1, y.2.1, y.2.2, by rw [hM.1]; exact hy, Or.inr (Or.inr (Or.inr (Or.inr (Or.inr (Or.inr (Or.inr (Or.inr ⟨L', hl, g⟩)))))))⟩
/-- a piece, and what comes behind it -/
theorem x_seq {oc : Option γ} {k : γ → Option β} (cf : γ → pmC) (h1 : XX E d j c kc ks oc (fun v => pmRn E d j (cf v) kc ks)) (h2 : ∀ v, XX E d j (cf v) kc ks (k v) T) : XX E d j c kc ks (oc.bind k) T := by
  intro b hb r hT
  cases ho : oc with
  | none => rw [ho] at hb; cases hb
  | some v =>
    rw [ho] at hb
    exact h1 v ho r (h2 v b hb r hT)
theorem x_seqs {oc : Option (γ ⊕ β)} {k : γ → Option β} (cf : γ → pmC) (h1 : XX E d j c kc ks oc (sT (fun v => pmRn E d j (cf v) kc ks) T)) (h2 : ∀ v, XX E d j (cf v) kc ks (k v) T) : XX E d j c kc ks (oc.bind (oS k)) T := by
  intro b hb r hT
  cases ho : oc with
  | none => rw [ho] at hb; cases hb
  | some v =>
    rw [ho] at hb
    cases v with
    | inl v => exact h1 (.inl v) ho r (h2 v b hb r hT)
    | inr v9 =>
      cases hb
      exact h1 (.inr _) ho r hT
theorem x_seqr {δ : Type} {T0 : δ → pmR → Prop} {oc : Option (γ ⊕ β)} {k : γ → Option (δ ⊕ β)} (cf : γ → pmC) (h1 : XX E d j c kc ks oc (sT (fun v => pmRn E d j (cf v) kc ks) T)) (h2 : ∀ v, XX E d j (cf v) kc ks (k v) (sT T0 T)) : XX E d j c kc ks (oc.bind (oR k)) (sT T0 T) := by
  intro b hb r hT
  cases ho : oc with
  | none => rw [ho] at hb; cases hb
  | some v =>
    rw [ho] at hb
    cases v with
    | inl v => exact h1 (.inl v) ho r (h2 v b hb r hT)
    | inr v9 =>
      cases hb
      exact h1 (.inr _) ho r hT
theorem x_let (e : pmI) (cf : pmI → pmC) {k : pmI → Option β} (h : ∀ m, XX E d j (cf m) kc ks (k m) T) : XX E d j (cf e) kc ks (pmLet e k) T := h e
/-- the end of a piece -/
theorem x_end {b : β} (h : ∀ r, T b r → pmRn E d j c kc ks r) : XX E d j c kc ks (some b) T := fun b9 hb r hr => by
  cases hb
  exact h r hr
/-- a call is a run from the entry -/
theorem x_ev (hM : MM j co rt hd mx) {as : List Value} {S : pmS} {L : List (Option Value)} {g : β → pmR} (hl : (pmArgs as).length ≤ mx) (hL : pmL0 mx as = L) (h : XX E d j (0, L, [], S) 0 0 o (fun b r => r = g b)) : ∀ b, o = some b → pmEv Pg E (d + 1) j as S (g b) := by
  intro b hb
  subst hL
  have h9 := h b hb (g b) rfl
  rw [← hM.2.2.2] at hl h9
  exact ⟨hl, h9⟩
end XXS
/-- deeper is no harm -/
theorem pmX_cal {E : pmEv0} {cal cal' : Nat → List Value → pmS → pmR → Prop} {j : Nat} {r : pmR} (h : ∀ t as S r, cal t as S r → cal' t as S r) : ∀ (n : Nat) (c : pmC) (kc ks : Nat), pmX Pg E cal j n c kc ks r → pmX Pg E cal' j n c kc ks r
  | 0, _, _, _, hX => absurd hX id
  | n + 1, c, kc, ks, hX => by
    obtain ⟨i, ln, x, hc, hX⟩ := hX
    refine ⟨i, ln, x, hc, ?_⟩
    rcases hX with ⟨b, c', ps, h1, h2, h3⟩ | ⟨c', ps, h1, h2, h3⟩ | ⟨c', a, b, h1, h2⟩ | ⟨t, as, rest, v, S', a, b, h1, h2, h3, h4⟩ | ⟨t, as, rest, k, S', a, b, h1, h2, h3, h4, h5⟩ | ⟨t, as, rest, k, S', a, b, h9, c', h1, h2, h3, h4, h5, h6⟩ | hX | hX | ⟨L', h1, h2⟩
    · exact Or.inl ⟨b, c', ps, h1, h2, pmX_cal h n _ _ _ h3⟩
    · exact Or.inr (Or.inl ⟨c', ps, h1, h2, pmX_cal h n _ _ _ h3⟩)
    · exact Or.inr (Or.inr (Or.inl ⟨c', a, b, h1, pmX_cal h n _ _ _ h2⟩))
    · exact Or.inr (Or.inr (Or.inr (Or.inl ⟨t, as, rest, v, S', a, b, h1, h2, h _ _ _ _ h3, pmX_cal h n _ _ _ h4⟩)))
    · exact Or.inr (Or.inr (Or.inr (Or.inr (Or.inl ⟨t, as, rest, k, S', a, b, h1, h2, h _ _ _ _ h3, h4, h5⟩))))
    · exact Or.inr (Or.inr (Or.inr (Or.inr (Or.inr (Or.inl ⟨t, as, rest, k, S', a, b, h9, c', h1, h2, h _ _ _ _ h3, h4, h5, pmX_cal h n _ _ _ h6⟩)))))
    · exact Or.inr (Or.inr (Or.inr (Or.inr (Or.inr (Or.inr (Or.inl hX))))))
    · exact Or.inr (Or.inr (Or.inr (Or.inr (Or.inr (Or.inr (Or.inr (Or.inl hX)))))))
    · exact Or.inr (Or.inr (Or.inr (Or.inr (Or.inr (Or.inr (Or.inr (Or.inr ⟨L', h1, pmX_cal h n _ _ _ h2⟩)))))))
theorem pmEv_up {E : pmEv0} : ∀ (d : Nat) (j : Nat) (as : List Value) (S : pmS) (r : pmR), pmEv Pg E d j as S r → pmEv Pg E (d + 1) j as S r
  | 0, _, _, _, _, h => absurd h id
  | d + 1, j, as, S, r, h => by
    obtain ⟨h1, n, h2⟩ := h
    refine ⟨h1, n, pmX_cal (fun t as S r h => h.imp (pmEv_up d t as S r) (fun h => ?_)) n _ _ _ h2⟩
    obtain ⟨ρ, ρ', as1, S1, r1, h3, h4⟩ := h
    exact ⟨ρ, ρ', as1, S1, r1, pmEv_up d _ _ _ _ h3, h4⟩
theorem pmEv_le {E : pmEv0} {d d' j : Nat} {as : List Value} {S : pmS} {r : pmR} (h : pmEv Pg E d j as S r) (hd : d ≤ d') : pmEv Pg E d' j as S r := by
  obtain ⟨k, rfl⟩ := Nat.le.dest hd
  clear hd
  induction k with
  | zero => exact h
  | succ k ih => exact pmEv_up _ _ _ _ _ ih
