/-! PM: what stands outside (constants, Strings, the script), calls, makes, throws; runs -/
/-- the script's length and ints, and what a static of the JDK's holds (null or a reference) -/
abbrev pmEv0 : Type := Nat × (Nat → Int32) × Option Nat
/-- the letters of the class's one static array -/
def pmLt (j : Nat) : Int32 := match j with | 0 => 85 | 1 => 68 | 2 => 76 | 3 => 82 | _ => 83
/-- String constants: class, entry of its pool, text, bytes -/
def pmSt0 : List (String × Nat × String × List Int32) := [("StageBallet$Program", 104, "prop ", [112, 114, 111, 112, 32]),
  ("StageBallet$Program", 106, "dancer ", [100, 97, 110, 99, 101, 114, 32]),
  ("StageBallet$Program", 108, "pair ", [112, 97, 105, 114, 32]),
  ("StageBallet$Program", 110, "figure ", [102, 105, 103, 117, 114, 101, 32]),
  ("StageBallet$Program", 112, "perform ", [112, 101, 114, 102, 111, 114, 109, 32]),
  ("StageBallet$Program", 114, "walk ", [119, 97, 108, 107, 32]),
  ("StageBallet$Program", 116, "exit ", [101, 120, 105, 116, 32]),
  ("StageBallet$Program", 118, "nails ", [110, 97, 105, 108, 115, 32]),
  ("StageBallet$Program", 120, "leave", [108, 101, 97, 118, 101]),
  ("StageBallet$Program", 122, "dd", [100, 100]),
  ("StageBallet$Program", 124, "dd*n", [100, 100, 42, 110]),
  ("StageBallet$Program", 126, "n&n", [110, 38, 110]),
  ("StageBallet$Program", 128, "d:m", [100, 58, 109]),
  ("StageBallet$Program", 130, "d n", [100, 32, 110]),
  ("StageBallet$Program", 132, "n>dd", [110, 62, 100, 100]),
  ("StageBallet$Program", 134, "n", [110]),
  ("StageBallet$Program", 136, "", []),
  ("StageBalletLaw", 142, "UDLRS", [85, 68, 76, 82, 83]),
  ("StageBalletLaw", 165, "UDLRSX", [85, 68, 76, 82, 83, 88]),
  ("StageBalletLaw", 182, "figure ", [102, 105, 103, 117, 114, 101, 32]),
  ("StageBalletLaw", 191, ":URL;perform ", [58, 85, 82, 76, 59, 112, 101, 114, 102, 111, 114, 109, 32]),
  ("StageBalletLaw", 193, " ", [32]),
  ("StageBalletLaw", 199, "walk ", [119, 97, 108, 107, 32]),
  ("StageBalletLaw", 201, ">", [62]),
  ("StageBalletLaw", 203, ";nails ", [59, 110, 97, 105, 108, 115, 32]),
  ("StageBalletLaw", 205, "prop ", [112, 114, 111, 112, 32]),
  ("StageBalletLaw", 207, ";dancer ", [59, 100, 97, 110, 99, 101, 114, 32]),
  ("StageBalletLaw", 209, "*", [42]),
  ("StageBalletLaw", 211, "exit ", [101, 120, 105, 116, 32]),
  ("StageBalletLaw", 213, ";perform ", [59, 112, 101, 114, 102, 111, 114, 109, 32])]
def pmStB (k : Nat) : List Int32 := match pmSt0[k]? with | some q => q.2.2.2 | none => []
/-- steps on what stands outside: places 99998 the script, 99999 the letters, 100000+k a String, 200000+k its bytes -/
def pmXs (E : pmEv0) (i : Instr) (x : Nat × Nat) (c : pmC) : pmQ := match i with
  | .getstatic _ => if x.1 = 20 then pmPush 3 (.ref 99999) c else if x.1 = 21 then pmPush 3 (.int 1) c else if x.1 = 22 then pmPush 3 (va_rf E.2.2) c else none
  | .ldc _ => if x.1 = 30 then (if x.2 < pmSt0.length then pmPush 2 (.ref (100000 + x.2)) c else none) else if x.1 = 31 then pmPush 2 (.int (Int32.ofNat x.2)) c else none
  | .ldc_w _ => if x.1 = 30 then (if x.2 < pmSt0.length then pmPush 3 (.ref (100000 + x.2)) c else none) else if x.1 = 31 then pmPush 3 (.int (Int32.ofNat x.2)) c else if x.1 = 32 then pmPush 3 (.float (UInt32.ofNat x.2)) c else none
  | .ldc2_w _ => if x.1 = 33 then pmPush 3 (.long (Int64.ofNat x.2)) c else if x.1 = 34 then pmPush 3 (.double (UInt64.ofNat x.2)) c else none
  | .getfield _ => match c.2.2.1 with
    | .ref q :: r => if 100000 ≤ q ∧ q - 100000 < pmSt0.length then
        (if x.1 = 40 then some (pmNx c 3 (.ref (q + 100000) :: r), []) else if x.1 = 41 then some (pmNx c 3 (.int 0 :: r), []) else none) else none
    | _ => none
  | .arraylength => match c.2.2.1 with
    | .ref q :: r => if q = 99998 then some (pmNx c 1 (.int (Int32.ofNat E.1) :: r), []) else if q = 99999 then some (pmNx c 1 (.int 5 :: r), []) else
        if 200000 ≤ q ∧ q - 200000 < pmSt0.length then some (pmNx c 1 (.int (Int32.ofNat (pmStB (q - 200000)).length) :: r), []) else none
    | _ => none
  | .iaload => match c.2.2.1 with
    | .int j :: .ref q :: r => if q = 99998 then some (pmNx c 1 (.int (E.2.1 j.toNatClampNeg) :: r), [vp_in j E.1]) else none
    | _ => none
  | .caload => match c.2.2.1 with
    | .int j :: .ref q :: r => if q = 99999 then some (pmNx c 1 (.int (pmLt j.toNatClampNeg) :: r), [vp_in j 5]) else none
    | _ => none
  | .baload => match c.2.2.1 with
    | .int j :: .ref q :: r => if 200000 ≤ q ∧ q - 200000 < pmSt0.length then some (pmNx c 1 (.int ((pmStB (q - 200000)).getD j.toNatClampNeg 0) :: r), [vp_in j (pmStB (q - 200000)).length]) else none
    | _ => none
  | .invokestatic _ => match c.2.2.1 with
    | .int n :: .int dp :: .ref q :: .int sp :: .ref q0 :: r => if x.1 = 50 then
        match c.2.2.2.1[q0]?, c.2.2.2.1[q]? with
        | some (.inr a0), some (.inr a) => if a0.1 = 0 ∧ a.1 = 0 ∧ (r.map fun v => v.category).sum ≤ 8 then
            some ((c.1 + 3, c.2.1, r, c.2.2.2.1, (fun i => if i = q then va_cpy (c.2.2.2.2.1 q0) (c.2.2.2.2.1 q) sp.toNatClampNeg dp.toNatClampNeg n.toNatClampNeg else c.2.2.2.2.1 i), c.2.2.2.2.2),
              [¬ sp < 0, ¬ dp < 0, ¬ n < 0, sp.toNatClampNeg + n.toNatClampNeg ≤ a0.2, dp.toNatClampNeg + n.toNatClampNeg ≤ a.2]) else none
        | _, _ => none
      else none
    | .double b :: r => if x.1 = 51 ∧ (r.map fun v => v.category).sum ≤ 8 then some (pmNx c 3 (.long b.toInt64 :: r), []) else none
    | .float b :: r => if x.1 = 52 ∧ (r.map fun v => v.category).sum ≤ 8 then some (pmNx c 3 (.int b.toInt32 :: r), []) else none
    | _ => none
  | .invokespecial _ => match c.2.2.1 with
    | .ref q :: r => if x.1 = 53 ∧ (r.map fun v => v.category).sum ≤ 8 then some (pmNx c 3 r, []) else none
    | _ => none
  | .aconst_null => pmPush 1 .null c
  | _ => none
/-- the digits' bytes (static rows of Integer): 99996 the ones, 99995 the tens -/
def pmDo (j : Nat) : Int32 := Int32.ofNat (48 + j % 10)
def pmDt (j : Nat) : Int32 := Int32.ofNat (48 + j / 10)
/-- steps on Strings that were made, rows of bytes, the digits -/
def pmXt (i : Instr) (x : Nat × Nat) (c : pmC) : pmQ := match i with
  | .getstatic _ => if x.1 = 23 then pmPush 3 (.ref 99996) c else if x.1 = 24 then pmPush 3 (.ref 99995) c else none
  | .getfield _ => match c.2.2.1 with
    | .ref q :: r => match c.2.2.2.1[q]? with
      | some (.inl ci) => if ci = 9 then
          (if x.1 = 40 then some (pmNx c 3 (va_rf (c.2.2.2.2.2.2.1 q 0) :: r), []) else if x.1 = 41 then some (pmNx c 3 (.int (c.2.2.2.2.1 q 1) :: r), []) else none) else none
      | _ => none
    | _ => none
  | .baload => match c.2.2.1 with
    | .int j :: .ref q :: r => if q = 99996 then some (pmNx c 1 (.int (pmDo j.toNatClampNeg) :: r), [vp_in j 100]) else if q = 99995 then some (pmNx c 1 (.int (pmDt j.toNatClampNeg) :: r), [vp_in j 100]) else none
    | _ => none
  | .invokestatic _ => match c.2.2.1 with
    | .int n :: .int dp :: .ref q :: .int sp :: .ref q0 :: r => if x.1 = 50 then
        match c.2.2.2.1[q]? with
        | some (.inr a) => if a.1 = 1 ∧ (r.map fun v => v.category).sum ≤ 8 then
            (if 200000 ≤ q0 ∧ q0 - 200000 < pmSt0.length then
              some ((c.1 + 3, c.2.1, r, c.2.2.2.1, (fun i => if i = q then va_cpy (fun j => (pmStB (q0 - 200000)).getD j 0) (c.2.2.2.2.1 q) sp.toNatClampNeg dp.toNatClampNeg n.toNatClampNeg else c.2.2.2.2.1 i), c.2.2.2.2.2),
                [¬ sp < 0, ¬ dp < 0, ¬ n < 0, sp.toNatClampNeg + n.toNatClampNeg ≤ (pmStB (q0 - 200000)).length, dp.toNatClampNeg + n.toNatClampNeg ≤ a.2, ∀ i : Nat, i < n.toNatClampNeg → fits .byte (.int ((pmStB (q0 - 200000)).getD (sp.toNatClampNeg + i) 0)) = true])
            else match c.2.2.2.1[q0]? with
              | some (.inr a0) => if a0.1 = 1 then
                  some ((c.1 + 3, c.2.1, r, c.2.2.2.1, (fun i => if i = q then va_cpy (c.2.2.2.2.1 q0) (c.2.2.2.2.1 q) sp.toNatClampNeg dp.toNatClampNeg n.toNatClampNeg else c.2.2.2.2.1 i), c.2.2.2.2.2),
                    [¬ sp < 0, ¬ dp < 0, ¬ n < 0, sp.toNatClampNeg + n.toNatClampNeg ≤ a0.2, dp.toNatClampNeg + n.toNatClampNeg ≤ a.2, ∀ i : Nat, i < n.toNatClampNeg → fits .byte (.int (c.2.2.2.2.1 q0 (sp.toNatClampNeg + i))) = true]) else none
              | _ => none) else none
        | _ => none
      else none
    | _ => none
  | _ => none
def pmStp (E : pmEv0) (b : Nat) (i : Instr) (x : Nat × Nat) (c : pmC) : pmQ := match pmStep b i x c with
  | some r => some r
  | none => match pmXs E i x c with
    | some r => some r
    | none => pmXt i x c
/-- nothing stands yet in a new thing -/
def pmZ (q : Nat) (μ : pmM) : pmM := (fun i k => if i = q then 0 else μ.1 i k, fun i k => if i = q then 0 else μ.2.1 i k, fun i k => if i = q then none else μ.2.2.1 i k, fun i k => if i = q then 0 else μ.2.2.2 i k)
def pmMk (e : Nat ⊕ (Nat × Nat)) (n : Nat) (st : List Value) (c : pmC) : pmC := (c.1 + n, c.2.1, .ref c.2.2.2.1.length :: st, c.2.2.2.1 ++ [e], pmZ c.2.2.2.1.length c.2.2.2.2)
/-- makes; x: the class's number, or the array's kind -/
def pmAl (i : Instr) (x : Nat × Nat) (c : pmC) : Option (pmC × Nat × Nat) := if c.2.2.2.1.length < 90000 then match i with
  | .new _ => if x.1 = 60 ∧ x.2 < 11 then some (pmMk (.inl x.2) 3 c.2.2.1 c, 1, pmN x.2) else none
  | .newarray _ => match c.2.2.1 with
    | .int n :: r => if x.1 = 61 ∧ x.2 < 4 ∧ ¬ n < 0 ∧ n.toNatClampNeg ≤ 10000 then some (pmMk (.inr (x.2, n.toNatClampNeg)) 2 r c, 1, n.toNatClampNeg) else none
    | _ => none
  | .anewarray _ => match c.2.2.1 with
    | .int n :: r => if x.1 = 61 ∧ x.2 = 4 ∧ ¬ n < 0 ∧ n.toNatClampNeg ≤ 10000 then some (pmMk (.inr (4, n.toNatClampNeg)) 3 r c, 1, n.toNatClampNeg) else none
    | _ => none
  | _ => none
  else none
/-- a row of references gets one: only ours -/
def pmAas (i : Instr) (c : pmC) : pmQ := match i with
  | .aastore => match c.2.2.1 with
    | .ref v :: .int j :: .ref q :: r => match c.2.2.2.1[q]?, c.2.2.2.1[v]? with
      | some (.inr a), some (.inl ci) => if a.1 = 4 ∧ ci = 6 then some ((c.1 + 1, c.2.1, r, c.2.2.2.1, c.2.2.2.2.1, c.2.2.2.2.2.1, pmU c.2.2.2.2.2.2.1 q j.toNatClampNeg (some v), c.2.2.2.2.2.2.2), [vp_in j a.2]) else none
      | _, _ => none
    | _ => none
  | _ => none
/-- a method: name, bytes, locals, return type, handlers (start, end, handler, its type's entry, the exception's number), arguments (the receiver counted), code: pc to (instruction, length, what its entry means) -/
abbrev pmMe : Type := MethodName × ByteArray × Nat × Option FieldType × List (Nat × Nat × Nat × Nat × Nat) × Nat × (Nat → Option (Instr × Nat × Nat × Nat))
abbrev pmNm (m : pmMe) : MethodName := m.1
abbrev pmBy (m : pmMe) : ByteArray := m.2.1
abbrev pmMx (m : pmMe) : Nat := m.2.2.1
abbrev pmRt (m : pmMe) : Option FieldType := m.2.2.2.1
abbrev pmHd (m : pmMe) : List (Nat × Nat × Nat × Nat × Nat) := m.2.2.2.2.1
abbrev pmNa (m : pmMe) : Nat := m.2.2.2.2.2.1
abbrev pmCo (m : pmMe) : Nat → Option (Instr × Nat × Nat × Nat) := m.2.2.2.2.2.2
/-- a call's target: kinds 0 static, 1 static of a nest mate, 2 virtual, 3 virtual of a nest mate, 4 a constructor, 5 a nest mate's, 6 a static with handlers, 7 a superclass's constructor, 8 a superclass's method, 9 an inherited one, 10 length(), overridden (8, 9, 10: on a StringBuilder) -/
def pmTg (i : Instr) (x : Nat × Nat) : Option Nat := match i with
  | .invokestatic _ => if x.1 = 0 ∨ x.1 = 1 ∨ x.1 = 6 then some x.2 else none
  | .invokevirtual _ => if x.1 = 2 ∨ x.1 = 3 ∨ x.1 = 9 ∨ x.1 = 10 then some x.2 else none
  | .invokespecial _ => if x.1 = 4 ∨ x.1 = 5 ∨ x.1 = 7 ∨ x.1 = 8 then some x.2 else none
  | _ => none
/-- a receiver: an object of the class of that name -/
def pmRv (S : pmS) (cls : String) (v : Value) : Prop := ∃ q, v = .ref q ∧ ((∃ c, S.1[q]? = some (.inl c) ∧ c < 11 ∧ pmCN c = cls) ∨ (100000 ≤ q ∧ q - 100000 < pmSt0.length ∧ cls = "java/lang/String"))
/-- .. of a call of kind k -/
def pmRk (cls : String) (k : Nat) (as : List Value) (S : pmS) : Prop := (2 ≤ k → k ≤ 5 → ∃ w, as[0]? = some w ∧ pmRv S cls w) ∧ (8 ≤ k → k ≤ 10 → ∃ w, as[0]? = some w ∧ pmRv S RJ4 w) ∧ (k = 7 → ∃ q : Nat, as[0]? = some (.ref q))
def pmArg (Pg : Nat → pmMe) (i : Instr) (x : Nat × Nat) (c : pmC) : Option (Nat × List Value × List Value) := match pmTg i x with
  | some t => if pmNa (Pg t) ≤ c.2.2.1.length ∧ ((c.2.2.1.drop (pmNa (Pg t))).map fun v => v.category).sum ≤ 8 then some (t, (c.2.2.1.take (pmNa (Pg t))).reverse, c.2.2.1.drop (pmNa (Pg t))) else none
  | none => none
/-- which handler takes the exception k thrown at pc -/
def pmCt (hd : List (Nat × Nat × Nat × Nat × Nat)) (pc k : Nat) : Option Nat := match hd with
  | [] => none
  | q :: r => if q.1 ≤ pc ∧ pc < q.2.1 ∧ q.2.2.2.2 = k then some q.2.2.1 else pmCt r pc k
/-- a handler stores the exception first -/
def pmHan (m : pmMe) (h : Nat) (L : List (Option Value)) (S : pmS) : Option pmC := match pmCo m h with
  | some (.astore_n k, _) => if k.val < L.length then some (h + 1, (pmCut L k.val).set k.val none, [], S) else none
  | some (.astore k, _) => if k < L.length then some (h + 2, (pmCut L k).set k none, [], S) else none
  | _ => none
def pmRet (rt : Option FieldType) (i : Instr) (st : List Value) : Option (Option Value × List Prop) := match i with
  | .return_ => match st with | [] => (match rt with | none => some (none, []) | _ => none) | _ => none
  | .ireturn => match st with
    | [.int v] => match rt with
      | some .int => some (some (.int v), [])
      | some .boolean => some (some (.int v), [v = 0 ∨ v = 1])
      | some .char => some (some (.int v), [vp_nar .char v = v])
      | some .byte => some (some (.int v), [v = 0])
      | _ => none
    | _ => none
  | .lreturn => match st with | [.long v] => (match rt with | some .long => some (some (.long v), []) | _ => none) | _ => none
  | .freturn => match st with | [.float v] => (match rt with | some .float => some (some (.float v), []) | _ => none) | _ => none
  | .dreturn => match st with | [.double v] => (match rt with | some .double => some (some (.double v), []) | _ => none) | _ => none
  | .areturn => match st with
    | [.ref v] => match rt with | some (.object _) => some (some (.ref v), []) | some (.array _) => some (some (.ref v), []) | _ => none
    | [.null] => match rt with | some (.object _) => some (some .null, []) | _ => none
    | _ => none
  | _ => none
/-- 'throw new E()' begins here: new, dup, the constructor, athrow -/
def pmThr (m : pmMe) (pc : Nat) (i : Instr) (x : Nat × Nat) : Option Nat := match i with
  | .new _ => if x.1 = 70 then match pmCo m (pc + 3), pmCo m (pc + 4), pmCo m (pc + 7) with
      | some (.dup, _), some (.invokespecial _, _), some (.athrow, _) => some x.2
      | _, _, _ => none
    else none
  | _ => none
/-- less is known of the locals -/
def pmLe : List (Option Value) → List (Option Value) → Prop
  | [], [] => True
  | none :: a, _ :: b => pmLe a b
  | some v :: a, w :: b => w = some v ∧ pmLe a b
  | _, _ => False
/-- a run of a method's body from a configuration to its end -/
def pmX (Pg : Nat → pmMe) (E : pmEv0) (cal : Nat → List Value → pmS → pmR → Prop) (j : Nat) : Nat → pmC → Nat → Nat → pmR → Prop
  | 0, _, _, _, _ => False
  | n + 1, c, kc, ks, r => ∃ i ln x, pmCo (Pg j) c.1 = some (i, ln, x) ∧ (
      (∃ b c' ps, pmStp E b i x c = some (c', ps) ∧ (∀ P ∈ ps, P) ∧ pmX Pg E cal j n c' kc ks r) ∨
      (∃ c' ps, pmAas i c = some (c', ps) ∧ (∀ P ∈ ps, P) ∧ pmX Pg E cal j n c' kc ks r) ∨
      (∃ c' a b, pmAl i x c = some (c', a, b) ∧ pmX Pg E cal j n c' (kc + a) (ks + b) r) ∨
      (∃ t as rest v S' a b, pmArg Pg i x c = some (t, as, rest) ∧ pmRk (pmNm (Pg t)).cls x.1 as c.2.2.2 ∧ cal t as c.2.2.2 (.inl v, S', a, b) ∧ pmX Pg E cal j n (c.1 + 3, c.2.1, v.toList ++ rest, S') (kc + a) (ks + b) r) ∨
      (∃ t as rest k S' a b, pmArg Pg i x c = some (t, as, rest) ∧ pmRk (pmNm (Pg t)).cls x.1 as c.2.2.2 ∧ cal t as c.2.2.2 (.inr k, S', a, b) ∧ pmHd (Pg j) = [] ∧ r = (.inr k, S', kc + a, ks + b)) ∨
      (∃ t as rest k S' a b h c', pmArg Pg i x c = some (t, as, rest) ∧ pmRk (pmNm (Pg t)).cls x.1 as c.2.2.2 ∧ cal t as c.2.2.2 (.inr k, S', a, b) ∧ pmCt (pmHd (Pg j)) c.1 k = some h ∧ pmHan (Pg j) h c.2.1 S' = some c' ∧ pmX Pg E cal j n c' (kc + a) (ks + b) r) ∨
      (∃ v ps, pmRet (pmRt (Pg j)) i c.2.2.1 = some (v, ps) ∧ (∀ P ∈ ps, P) ∧ r = (.inl v, c.2.2.2, kc, ks)) ∨
      (∃ k, pmThr (Pg j) c.1 i x = some k ∧ pmHd (Pg j) = [] ∧ (c.2.2.1.map fun v => v.category).sum ≤ 8 ∧ r = (.inr k, c.2.2.2, kc + 1, ks + 6)) ∨
      (∃ L', pmLe L' c.2.1 ∧ pmX Pg E cal j n (c.1, L', c.2.2.1, c.2.2.2) kc ks r))
def pmArgs : List Value → List (Option Value)
  | [] => []
  | v :: r => if v.category = 2 then some v :: none :: pmArgs r else some v :: pmArgs r
def pmL0 (n : Nat) (as : List Value) : List (Option Value) := pmArgs as ++ List.replicate (n - (pmArgs as).length) none
/-- the things of S stand in T, at the places ρ -/
def pmRen (ρ : Nat → Nat) (S T : pmS) : Prop :=
  (∀ i, 90000 ≤ i → ρ i = i) ∧ (∀ i j, i < S.1.length → j < S.1.length → ρ i = ρ j → i = j) ∧
  ∀ i, i < S.1.length → ρ i < T.1.length ∧ T.1[ρ i]? = S.1[i]? ∧ T.2.1 (ρ i) = S.2.1 i ∧ T.2.2.1 (ρ i) = S.2.2.1 i ∧ (∀ k, T.2.2.2.1 (ρ i) k = (S.2.2.2.1 i k).map ρ) ∧ T.2.2.2.2 (ρ i) = S.2.2.2.2 i
/-- a call over T that is a call over S, its things at ρ; what it makes comes behind T's -/
def pmCalR (ev : Nat → List Value → pmS → pmR → Prop) (t : Nat) (as2 : List Value) (T : pmS) (r2 : pmR) : Prop :=
  ∃ (ρ ρ' : Nat → Nat) (as : List Value) (S : pmS) (r : pmR), ev t as S r ∧ as2 = as.map (pmRe ρ) ∧ (∀ v ∈ as, pmVv S.1.length v) ∧ pmVm S.1.length S.2 ∧ S.1.length ≤ 90000 ∧ pmRen ρ S T ∧
    (r2.1 = match r.1 with | .inl v => .inl (v.map (pmRe ρ')) | .inr k => .inr k) ∧ r2.2.2 = r.2.2 ∧ (∀ i, i < S.1.length ∨ 90000 ≤ i → ρ' i = ρ i) ∧ pmRen ρ' r.2.1 r2.2.1 ∧
    (r2.2.1.1.length + S.1.length = T.1.length + r.2.1.1.length) ∧ r2.2.1.1.length ≤ 90000 ∧ (∀ i, i < T.1.length → r2.2.1.1[i]? = T.1[i]?) ∧ pmVm r2.2.1.1.length r2.2.1.2 ∧
    (∀ i, S.1.length ≤ i → i < r.2.1.1.length → ρ' i + S.1.length = i + T.1.length) ∧
    (∀ i, i < T.1.length → (∀ k, k < S.1.length → ρ k ≠ i) → r2.2.1.2.1 i = T.2.1 i ∧ r2.2.1.2.2.1 i = T.2.2.1 i ∧ r2.2.1.2.2.2.1 i = T.2.2.2.1 i ∧ r2.2.1.2.2.2.2 i = T.2.2.2.2 i)
/-- a call, plain or so -/
def pmCl2 (ev : Nat → List Value → pmS → pmR → Prop) (t : Nat) (as : List Value) (S : pmS) (r : pmR) : Prop := ev t as S r ∨ pmCalR ev t as S r
/-- a call of a method, at most d deep -/
def pmEv (Pg : Nat → pmMe) (E : pmEv0) : Nat → Nat → List Value → pmS → pmR → Prop
  | 0 => fun _ _ _ _ => False
  | d + 1 => fun j as S r => (pmArgs as).length ≤ pmMx (Pg j) ∧ ∃ n, pmX Pg E (pmCl2 (pmEv Pg E d)) j n (0, pmL0 (pmMx (Pg j)) as, [], S) 0 0 r
