/-! PM: a small pure machine over the decoded instructions. A reference is a place in a list of things ('shape'); what the things hold stands in four functions. -/
/-- what the things hold: whole numbers (int, boolean, char), longs, references, doubles; by the thing's place and the place in it -/
abbrev pmM : Type := (Nat → Nat → Int32) × (Nat → Nat → Int64) × (Nat → Nat → Option Nat) × (Nat → Nat → UInt64)
/-- the shape: an object of a class by its number, or an array of a kind with its length -/
abbrev pmG : Type := List (Nat ⊕ (Nat × Nat))
abbrev pmS : Type := pmG × pmM
/-- pc, locals, stack, store -/
abbrev pmC : Type := Nat × List (Option Value) × List Value × pmS
/-- how a method ends: it returned, or threw an exception of a number -/
abbrev pmO : Type := Option Value ⊕ Nat
/-- .. with the store behind it, and the cells and slots that it took -/
abbrev pmR : Type := pmO × pmS × Nat × Nat
def pmU {α : Type} (f : Nat → Nat → α) (i k : Nat) (x : α) : Nat → Nat → α := fun a b => if a = i then (if b = k then x else f a b) else f a b
def pmCl : List vw_C := [(RX0, TX0, 2), (RX1, TX1, 10), (RX2, TX2, 3), (RX3, TX3, 2), (RX4, TX4, 7), (RX5, TX5, 8), (RX6, TX6, 15), (RX7, TX7, 2), (RX8, TX8, 13), (RJ0, TJ0, 4), (RJ4, TJ4, 4)]
def pmCN (c : Nat) : String := match c with | 0 => RX0 | 1 => RX1 | 2 => RX2 | 3 => RX3 | 4 => RX4 | 5 => RX5 | 6 => RX6 | 7 => RX7 | 8 => RX8 | 9 => RJ0 | 10 => RJ4 | _ => RL
def pmT (c : Nat) : u_T := match c with | 0 => TX0 | 1 => TX1 | 2 => TX2 | 3 => TX3 | 4 => TX4 | 5 => TX5 | 6 => TX6 | 7 => TX7 | 8 => TX8 | 9 => TJ0 | _ => TJ4
def pmTy (c : Nat) : Nat → FieldType := match c with | 0 => tyX0 | 1 => tyX1 | 2 => tyX2 | 3 => tyX3 | 4 => tyX4 | 5 => tyX5 | 6 => tyX6 | 7 => tyX7 | 8 => tyX8 | 9 => tyJ0 | _ => tyJ4
def pmN (c : Nat) : Nat := match c with | 0 => 2 | 1 => 10 | 2 => 3 | 3 => 2 | 4 => 7 | 5 => 8 | 6 => 15 | 7 => 2 | 8 => 13 | _ => 4
theorem pmCl_at {c : Nat} (h : c < 11) : pmCl[c]? = some (pmCN c, pmT c, pmN c) := by
  rcases (show c = 0 ∨ c = 1 ∨ c = 2 ∨ c = 3 ∨ c = 4 ∨ c = 5 ∨ c = 6 ∨ c = 7 ∨ c = 8 ∨ c = 9 ∨ c = 10 by omega) with rfl | rfl | rfl | rfl | rfl | rfl | rfl | rfl | rfl | rfl | rfl <;> rfl
def pmRe (ad : Nat → Nat) (v : Value) : Value := match v with | .ref i => .ref (ad i) | w => w
/-- a field's value -/
def pmRd (t : FieldType) (μ : pmM) (i k : Nat) : Value := match t with
  | .long => .long (μ.2.1 i k)
  | .double => .double (μ.2.2.2 i k)
  | .object _ => va_rf (μ.2.2.1 i k)
  | .array _ => va_rf (μ.2.2.1 i k)
  | _ => .int (μ.1 i k)
/-- a field's new value -/
def pmWr (t : FieldType) (v : Value) (μ : pmM) (i k : Nat) : Option pmM := match t with
  | .long => match v with | .long x => some (μ.1, pmU μ.2.1 i k x, μ.2.2) | _ => none
  | .int => match v with | .int x => some (pmU μ.1 i k x, μ.2) | _ => none
  | .boolean => match v with | .int x => if x = 0 ∨ x = 1 then some (pmU μ.1 i k x, μ.2) else none | _ => none
  | .byte => match v with | .int x => if x = 0 then some (pmU μ.1 i k x, μ.2) else none | _ => none
  | .object _ => match v with | .ref q => some (μ.1, μ.2.1, pmU μ.2.2.1 i k (some q), μ.2.2.2) | _ => none
  | .array _ => match v with | .ref q => some (μ.1, μ.2.1, pmU μ.2.2.1 i k (some q), μ.2.2.2) | _ => none
  | _ => none
/-- an array's payload, by its kind: 0 int, 1 byte, 2 char, 4 references (3: none) -/
def pmPay (ad : Nat → Nat) (μ : pmM) (i t : Nat) : (Nat → Int32) ⊕ (Nat → Int64) ⊕ (Nat → UInt32) ⊕ (Nat → UInt64) ⊕ (Nat → Option Nat) := match t with
  | 0 => .inl (μ.1 i)
  | 1 => .inl (μ.1 i)
  | 2 => .inl (μ.1 i)
  | 3 => .inl (μ.1 i)
  | _ => .inr (.inr (.inr (.inr (fun k => (μ.2.2.1 i k).map ad))))
def pmE (ad : Nat → Nat) (cA : Nat → ClassId) (μ : pmM) (i : Nat) (e : Nat ⊕ (Nat × Nat)) : va_E := match e with
  | .inl c => .inr (c, (List.range (pmN c)).map (fun k => pmRe ad (pmRd (pmTy c k) μ i k)))
  | .inr a => .inl (cA a.1, a.2, pmPay ad μ i a.1)
def pmW (ad : Nat → Nat) (cA : Nat → ClassId) (S : pmS) : va_W := S.1.mapIdx (fun i e => (ad i, pmE ad cA S.2 i e))
def pmAt (t : Nat) : FieldType := match t with | 0 => .int | 1 => .byte | 2 => .char | 3 => .int | _ => .object RX6
def pmTs (cA : Nat → ClassId) : List (ClassId × FieldType) := [(cA 0, .int), (cA 1, .byte), (cA 2, .char), (cA 3, .int), (cA 4, .object RX6)]
-- locals
def pmLv (ad : Nat → Nat) (L : List (Option Value)) : List (Nat × Value) := (List.range L.length).filterMap (fun i => match L[i]? with | some (some v) => some (i, pmRe ad v) | _ => none)
/-- a new value of a local; a value of two words ahead of it, and the word behind it, are lost -/
def pmSet (L : List (Option Value)) (k : Nat) (v : Value) : List (Option Value) :=
  let L1 := match k with
    | 0 => L
    | j + 1 => match L[j]? with
      | some (some w) => if w.category = 2 then L.set j none else L
      | _ => L
  let L2 := L1.set k (some v)
  if v.category = 2 then L2.set (k + 1) none else L2
-- steps
def pmNx (c : pmC) (n : Nat) (st : List Value) : pmC := (c.1 + n, c.2.1, st, c.2.2.2)
abbrev pmQ : Type := Option (pmC × List Prop)
def pmPush (n : Nat) (v : Value) (c : pmC) : pmQ := some (pmNx c n (v :: c.2.2.1), [])
def pmI1 (n : Nat) (f : Int32 → Value) (c : pmC) : pmQ := match c.2.2.1 with | .int x :: r => some (pmNx c n (f x :: r), []) | _ => none
def pmI2 (n : Nat) (f : Int32 → Int32 → Value) (c : pmC) : pmQ := match c.2.2.1 with | .int y :: .int x :: r => some (pmNx c n (f x y :: r), []) | _ => none
def pmI2p (n : Nat) (f : Int32 → Int32 → Value) (c : pmC) : pmQ := match c.2.2.1 with | .int y :: .int x :: r => some (pmNx c n (f x y :: r), [¬ y = 0]) | _ => none
def pmJ1 (n : Nat) (f : Int64 → Value) (c : pmC) : pmQ := match c.2.2.1 with | .long x :: r => some (pmNx c n (f x :: r), []) | _ => none
def pmJ2 (n : Nat) (f : Int64 → Int64 → Value) (c : pmC) : pmQ := match c.2.2.1 with | .long y :: .long x :: r => some (pmNx c n (f x y :: r), []) | _ => none
def pmJ2p (n : Nat) (f : Int64 → Int64 → Value) (c : pmC) : pmQ := match c.2.2.1 with | .long y :: .long x :: r => some (pmNx c n (f x y :: r), [¬ y = 0]) | _ => none
def pmJI (n : Nat) (f : Int64 → Int32 → Value) (c : pmC) : pmQ := match c.2.2.1 with | .int y :: .long x :: r => some (pmNx c n (f x y :: r), []) | _ => none
def pmF1 (n : Nat) (f : UInt32 → Value) (P : UInt32 → List Prop) (c : pmC) : pmQ := match c.2.2.1 with | .float x :: r => some (pmNx c n (f x :: r), P x) | _ => none
def pmF2 (n : Nat) (f : UInt32 → UInt32 → Value) (P : UInt32 → UInt32 → List Prop) (c : pmC) : pmQ := match c.2.2.1 with | .float y :: .float x :: r => some (pmNx c n (f x y :: r), P x y) | _ => none
def pmD1 (n : Nat) (f : UInt64 → Value) (c : pmC) : pmQ := match c.2.2.1 with | .double x :: r => some (pmNx c n (f x :: r), []) | _ => none
def pmD2 (n : Nat) (f : UInt64 → UInt64 → Value) (P : UInt64 → UInt64 → List Prop) (c : pmC) : pmQ := match c.2.2.1 with | .double y :: .double x :: r => some (pmNx c n (f x y :: r), P x y) | _ => none
/-- the kind of a value: 0 int, 1 long, 2 float, 3 double, 4 reference, 5 null -/
def pmKd (v : Value) : Nat := match v with | .int _ => 0 | .long _ => 1 | .float _ => 2 | .double _ => 3 | .ref _ => 4 | .null => 5 | .retAddr _ => 6
def pmLd (n k t : Nat) (c : pmC) : pmQ := match c.2.1[k]? with
  | some (some v) => if pmKd v = t then some (pmNx c n (v :: c.2.2.1), []) else none
  | _ => none
def pmSt (n k t : Nat) (c : pmC) : pmQ := match c.2.2.1 with
  | v :: r => if pmKd v = t ∧ k + (v.category - 1) < c.2.1.length then some ((c.1 + n, pmSet c.2.1 k v, r, c.2.2.2), []) else none
  | _ => none
def pmInc (n k : Nat) (d : Int) (c : pmC) : pmQ := match c.2.1[k]? with
  | some (some (.int x)) => some ((c.1 + n, pmSet c.2.1 k (.int (x + Int32.ofInt d)), c.2.2.1, c.2.2.2), [])
  | _ => none
def pmTgt (c : pmC) (off : Int) (st : List Value) (P : List Prop) : pmQ :=
  if 0 ≤ (c.1 : Int) + off then some ((((c.1 : Int) + off).toNat, c.2.1, st, c.2.2.2), P) else none
def pmBr (b : Nat) (off : Int) (n : Nat) (c : pmC) (st : List Value) (P : Prop) : pmQ :=
  if 0 ≤ (c.1 : Int) + off then (if b = 0 then some (pmNx c n st, [¬ P]) else some ((((c.1 : Int) + off).toNat, c.2.1, st, c.2.2.2), [P])) else none
def pmCd (k : Jvm.ClassFile.Cond) (x y : Int32) : Prop := match k with | .eq => x = y | .ne => ¬ x = y | .lt => x < y | .ge => y ≤ x | .gt => y < x | .le => x ≤ y
def pmIf (b : Nat) (k : Jvm.ClassFile.Cond) (off : Int) (c : pmC) : pmQ := match c.2.2.1 with | .int x :: r => pmBr b off 3 c r (pmCd k x 0) | _ => none
def pmIc (b : Nat) (k : Jvm.ClassFile.Cond) (off : Int) (c : pmC) : pmQ := match c.2.2.1 with | .int y :: .int x :: r => pmBr b off 3 c r (pmCd k x y) | _ => none
/-- ifnull, ifnonnull: no choice -/
def pmNu (off : Int) (c : pmC) : pmQ := match c.2.2.1 with
  | .ref _ :: r => some (pmNx c 3 r, [])
  | .null :: r => pmTgt c off r []
  | _ => none
def pmNn (off : Int) (c : pmC) : pmQ := match c.2.2.1 with
  | .ref _ :: r => pmTgt c off r []
  | .null :: r => some (pmNx c 3 r, [])
  | _ => none
def pmTb (b : Nat) (dflt lo hi : Int) (offs : Array Int) (c : pmC) : pmQ := match c.2.2.1 with
  | .int x :: r => match offs[b]? with
    | some off => if lo + b ≤ hi then pmTgt c off r [x.toInt = lo + b] else none
    | none => pmTgt c dflt r [x.toInt < lo ∨ hi < x.toInt]
  | _ => none
def pmLk (b : Nat) (dflt : Int) (ps : Array (Int × Int)) (c : pmC) : pmQ := match c.2.2.1 with
  | .int x :: r => if (ps.toList.zip (ps.toList.drop 1)).all (fun (a, next) => a.1 < next.1) = true then
      match ps[b]? with
      | some q => pmTgt c q.2 r [x.toInt = q.1, Op.lookupswitch.offset ps.toList dflt q.1 = q.2]
      | none => pmTgt c dflt r [Op.lookupswitch.offset ps.toList dflt x.toInt = dflt]
    else none
  | _ => none
def pmDup (c : pmC) : pmQ := match c.2.2.1 with | v :: r => if v.category = 1 then some (pmNx c 1 (v :: v :: r), []) else none | _ => none
def pmDup2 (c : pmC) : pmQ := match c.2.2.1 with | v :: w :: r => if v.category = 1 ∧ w.category = 1 then some (pmNx c 1 (v :: w :: v :: w :: r), []) else none | _ => none
def pmPop (c : pmC) : pmQ := match c.2.2.1 with | v :: r => if v.category = 1 then some (pmNx c 1 r, []) else none | _ => none
def pmGet (x : Nat × Nat) (c : pmC) : pmQ := match c.2.2.1 with
  | .ref q :: r => match c.2.2.2.1[q]? with
    | some (.inl ci) => if (ci = x.1 ∧ ci < 11) ∧ x.2 < pmN ci then some (pmNx c 3 (pmRd (pmTy ci x.2) c.2.2.2.2 q x.2 :: r), []) else none
    | _ => none
  | _ => none
def pmPut (x : Nat × Nat) (c : pmC) : pmQ := match c.2.2.1 with
  | v :: .ref q :: r => match c.2.2.2.1[q]? with
    | some (.inl ci) => if ci = x.1 ∧ x.2 < pmN ci then
        match pmWr (pmTy ci x.2) v c.2.2.2.2 q x.2 with
        | some μ => some ((c.1 + 3, c.2.1, r, c.2.2.2.1, μ), [])
        | none => none
      else none
    | _ => none
  | _ => none
def pmLen (c : pmC) : pmQ := match c.2.2.1 with
  | .ref q :: r => match c.2.2.2.1[q]? with
    | some (.inr a) => if a.1 < 5 then some (pmNx c 1 (.int (Int32.ofNat a.2) :: r), []) else none
    | _ => none
  | _ => none
def pmAld (t : Nat) (f : Nat → Int32 → Value) (c : pmC) : pmQ := match c.2.2.1 with
  | .int j :: .ref q :: r => match c.2.2.2.1[q]? with
    | some (.inr a) => if a.1 = t then some (pmNx c 1 (f q j :: r), [vp_in j a.2]) else none
    | _ => none
  | _ => none
def pmAst (t : Nat) (f : Nat → Int32 → Value → Option pmM) (c : pmC) : pmQ := match c.2.2.1 with
  | v :: .int j :: .ref q :: r => match c.2.2.2.1[q]? with
    | some (.inr a) => if a.1 = t then
        match f q j v with
        | some μ => some ((c.1 + 1, c.2.1, r, c.2.2.2.1, μ), [vp_in j a.2])
        | none => none
      else none
    | _ => none
  | _ => none
def pmIst (μ : pmM) (q : Nat) (j : Int32) (v : Value) : Option pmM := match v with | .int x => some (pmU μ.1 q j.toNatClampNeg x, μ.2) | _ => none
def pmCst (μ : pmM) (q : Nat) (j : Int32) (v : Value) : Option pmM := match v with | .int x => some (pmU μ.1 q j.toNatClampNeg (vp_nar .char x), μ.2) | _ => none
def pmBst (μ : pmM) (q : Nat) (j : Int32) (v : Value) : Option pmM := match v with | .int x => some (pmU μ.1 q j.toNatClampNeg (vp_nar .byte x), μ.2) | _ => none
/-- an instruction that neither calls, makes, returns nor throws; b: which way it goes, x: what its entry of the pool means -/
def pmStep (b : Nat) (i : Instr) (x : Nat × Nat) (c : pmC) : pmQ := match i with
  | .aload_n k => pmLd 1 k.val 4 c
  | .aload k => pmLd 2 k 4 c
  | .iload_n k => pmLd 1 k.val 0 c
  | .iload k => pmLd 2 k 0 c
  | .lload_n k => pmLd 1 k.val 1 c
  | .lload k => pmLd 2 k 1 c
  | .fload_n k => pmLd 1 k.val 2 c
  | .fload k => pmLd 2 k 2 c
  | .dload_n k => pmLd 1 k.val 3 c
  | .dload k => pmLd 2 k 3 c
  | .astore_n k => pmSt 1 k.val 4 c
  | .astore k => pmSt 2 k 4 c
  | .istore_n k => pmSt 1 k.val 0 c
  | .istore k => pmSt 2 k 0 c
  | .lstore_n k => pmSt 1 k.val 1 c
  | .lstore k => pmSt 2 k 1 c
  | .fstore_n k => pmSt 1 k.val 2 c
  | .fstore k => pmSt 2 k 2 c
  | .dstore_n k => pmSt 1 k.val 3 c
  | .dstore k => pmSt 2 k 3 c
  | .iinc k d => pmInc 3 k d c
  | .iconst n => pmPush 1 (.int (Int32.ofInt n)) c
  | .bipush n => pmPush 2 (.int (Int8.ofInt n).toInt32) c
  | .sipush n => pmPush 3 (.int (Int16.ofInt n).toInt32) c
  | .lconst n => pmPush 1 (.long (Int64.ofNat n.val)) c
  | .fconst n => if n.val = 0 then pmPush 1 (.float FP.fconst0) c else if n.val = 1 then pmPush 1 (.float FP.fconst1) c else pmPush 1 (.float FP.fconst2) c
  | .dconst n => if n.val = 0 then pmPush 1 (.double FP.dconst0) c else pmPush 1 (.double FP.dconst1) c
  | .iadd => pmI2 1 (fun x y => .int (x + y)) c
  | .isub => pmI2 1 (fun x y => .int (x - y)) c
  | .imul => pmI2 1 (fun x y => .int (x * y)) c
  | .iand => pmI2 1 (fun x y => .int (x &&& y)) c
  | .ior => pmI2 1 (fun x y => .int (x ||| y)) c
  | .ixor => pmI2 1 (fun x y => .int (x ^^^ y)) c
  | .ineg => pmI1 1 (fun x => .int (-x)) c
  | .ishl => pmI2 1 (fun x y => .int (x <<< (y &&& 31))) c
  | .ishr => pmI2 1 (fun x y => .int (x >>> (y &&& 31))) c
  | .iushr => pmI2 1 (fun x y => .int (x.toUInt32 >>> (y.toUInt32 &&& Int32.toUInt32 31)).toInt32) c
  | .idiv => pmI2p 1 (fun x y => .int (x / y)) c
  | .irem => pmI2p 1 (fun x y => .int (x - x / y * y)) c
  | .ladd => pmJ2 1 (fun x y => .long (x + y)) c
  | .lsub => pmJ2 1 (fun x y => .long (x - y)) c
  | .ldiv => pmJ2p 1 (fun x y => .long (x / y)) c
  | .land => pmJ2 1 (fun x y => .long (x &&& y)) c
  | .lor => pmJ2 1 (fun x y => .long (x ||| y)) c
  | .lxor => pmJ2 1 (fun x y => .long (x ^^^ y)) c
  | .lcmp => pmJ2 1 (fun x y => .int (lg_cmp x y)) c
  | .lshl => pmJI 1 (fun x y => .long (x <<< (y.toInt64 &&& 63))) c
  | .lushr => pmJI 1 (fun x y => .long (x.toUInt64 >>> (y.toInt64.toUInt64 &&& Int64.toUInt64 63)).toInt64) c
  | .i2l => pmI1 1 (fun x => .long x.toInt64) c
  | .l2i => pmJ1 1 (fun x => .int x.toInt32) c
  | .i2c => pmI1 1 (fun x => .int (x.toUInt32 % 65536).toInt32) c
  | .i2f => pmI1 1 (fun x => .float (FP.i2f x)) c
  | .i2d => pmI1 1 (fun x => .double (FP.i2d x)) c
  | .f2d => pmF1 1 (fun x => .double (FP.f2d x)) (fun x => [vf_n64 (FP.f2d x)]) c
  | .f2i => pmF1 1 (fun x => .int (FP.f2i x)) (fun _ => []) c
  | .d2l => pmD1 1 (fun x => .long (FP.d2l x)) c
  | .fdiv => pmF2 1 (fun x y => .float (FP.fdiv x y)) (fun x y => [vf_n32 (FP.fdiv x y)]) c
  | .fmul => pmF2 1 (fun x y => .float (FP.fmul x y)) (fun x y => [vf_n32 (FP.fmul x y)]) c
  | .fsub => pmF2 1 (fun x y => .float (FP.fsub x y)) (fun x y => [vf_n32 (FP.fsub x y)]) c
  | .fcmp op => pmF2 1 (fun x y => .int (Op.cmpValue (FP.fcmp x y) op)) (fun _ _ => []) c
  | .ddiv => pmD2 1 (fun x y => .double (FP.ddiv x y)) (fun x y => [vf_n64 (FP.ddiv x y)]) c
  | .dmul => pmD2 1 (fun x y => .double (FP.dmul x y)) (fun x y => [vf_n64 (FP.dmul x y)]) c
  | .dsub => pmD2 1 (fun x y => .double (FP.dsub x y)) (fun x y => [vf_n64 (FP.dsub x y)]) c
  | .dcmp op => pmD2 1 (fun x y => .int (Op.cmpValue (FP.dcmp x y) op)) (fun _ _ => []) c
  | .ifCond k off => pmIf b k off c
  | .if_icmp k off => pmIc b k off c
  | .ifnull off => pmNu off c
  | .ifnonnull off => pmNn off c
  | .goto off => pmTgt c off c.2.2.1 []
  | .tableswitch dflt lo hi offs => pmTb b dflt lo hi offs c
  | .lookupswitch dflt ps => pmLk b dflt ps c
  | .dup => pmDup c
  | .dup2 => pmDup2 c
  | .pop => pmPop c
  | .getfield _ => pmGet x c
  | .putfield _ => pmPut x c
  | .arraylength => pmLen c
  | .iaload => pmAld 0 (fun q j => .int (c.2.2.2.2.1 q j.toNatClampNeg)) c
  | .baload => pmAld 1 (fun q j => .int (c.2.2.2.2.1 q j.toNatClampNeg)) c
  | .caload => pmAld 2 (fun q j => .int (c.2.2.2.2.1 q j.toNatClampNeg)) c
  | .aaload => pmAld 4 (fun q j => va_rf (c.2.2.2.2.2.2.1 q j.toNatClampNeg)) c
  | .iastore => pmAst 0 (pmIst c.2.2.2.2) c
  | .bastore => pmAst 1 (pmBst c.2.2.2.2) c
  | .castore => pmAst 2 (pmCst c.2.2.2.2) c
  | _ => none
