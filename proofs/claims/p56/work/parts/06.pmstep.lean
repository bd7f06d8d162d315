/-! PM: one step of it is one step of the machine -/
def pmIl (i : Instr) (n : Nat) : Nat := match i with
  | .aload _ => 2 | .iload _ => 2 | .lload _ => 2 | .fload _ => 2 | .dload _ => 2
  | .astore _ => 2 | .istore _ => 2 | .lstore _ => 2 | .fstore _ => 2 | .dstore _ => 2
  | .iinc _ _ => 3 | .bipush _ => 2 | .sipush _ => 3
  | .ifCond _ _ => 3 | .if_icmp _ _ => 3 | .ifnull _ => 3 | .ifnonnull _ => 3 | .goto _ => 3
  | .getfield _ => 3 | .putfield _ => 3 | .getstatic _ => 3
  | .invokevirtual _ => 3 | .invokestatic _ => 3 | .invokespecial _ => 3
  | .new _ => 3 | .newarray _ => 2 | .anewarray _ => 3
  | .ldc _ => 2 | .ldc_w _ => 3 | .ldc2_w _ => 3
  | .tableswitch _ _ _ _ => n | .lookupswitch _ _ => n
  | _ => 1
/-- the store of a configuration is the heap's, its locals the frame's -/
def pmRel (D : va_G) (A : Nat → Prop) (H0 : Heap) (nL : Nat) (ad : Nat → Nat) (cA : Nat → ClassId) (c : pmC) (H : Heap) (locs : List Loc) (ls : Array Slot) : Prop :=
  va_P D pmCl (pmW ad cA c.2.2.2) H ∧ va_D A (pmW ad cA c.2.2.2) ∧ va_S A H0 H locs ∧ lv_has ls nL (pmLv ad c.2.1) ∧ c.2.1.length = nL
/-- the words that an instruction needs -/
def pmWs (own : String) (i : Instr) (x : Nat × Nat) : List Cond := match i with
  | .getfield k => if x.1 < 11 then .fieldLink own k (pmT x.1 x.2).1 (pmT x.1 x.2).2.1 (pmT x.1 x.2).2.2.1 :: u_ws (pmCN x.1) (pmT x.1) (pmN x.1) else if x.1 = 40 then .fieldLink own k "java/lang/String" "value" "[B" :: u_ws (pmCN 9) (pmT 9) (pmN 9) else .fieldLink own k "java/lang/String" "coder" "B" :: u_ws (pmCN 9) (pmT 9) (pmN 9)
  | .putfield k => .fieldLink own k (pmT x.1 x.2).1 (pmT x.1 x.2).2.1 (pmT x.1 x.2).2.2.1 :: u_ws (pmCN x.1) (pmT x.1) (pmN x.1)
  | .getstatic k => if x.1 = 20 then [.fieldLink own k "StageBallet" "MOVE_LETTERS" "[C"] else if x.1 = 21 then [.fieldLink own k "java/lang/String" "COMPACT_STRINGS" "Z"] else if x.1 = 22 then [.fieldLink own k "jdk/internal/util/Preconditions" "SIOOBE_FORMATTER" "Ljava/util/function/BiFunction;"] else if x.1 = 23 then [.fieldLink own k "java/lang/Integer" "DigitOnes" "[B"] else [.fieldLink own k "java/lang/Integer" "DigitTens" "[B"]
  | .ldc k => if x.1 = 31 then [.constant own k (Int32.ofNat x.2)] else []
  | .ldc_w k => if x.1 = 31 then [.constant own k (Int32.ofNat x.2)] else if x.1 = 32 then [.constantFloat own k (UInt32.ofNat x.2)] else []
  | .ldc2_w k => if x.1 = 33 then [.constantLong own k (Int64.ofNat x.2)] else [.constantDouble own k (UInt64.ofNat x.2)]
  | .invokestatic k => if x.1 = 50 then [.methodLink own k arraycopyName, .native arraycopyName, .static arraycopyName, .initialized "java/lang/System"]
      else if x.1 = 51 then [.methodLink own k ⟨"java/lang/Double", "doubleToRawLongBits", "(D)J"⟩, .native ⟨"java/lang/Double", "doubleToRawLongBits", "(D)J"⟩, .static ⟨"java/lang/Double", "doubleToRawLongBits", "(D)J"⟩, .initialized "java/lang/Double"]
      else if x.1 = 52 then [.methodLink own k ⟨"java/lang/Float", "floatToRawIntBits", "(F)I"⟩, .native ⟨"java/lang/Float", "floatToRawIntBits", "(F)I"⟩, .static ⟨"java/lang/Float", "floatToRawIntBits", "(F)I"⟩, .initialized "java/lang/Float"]
      else []
  | .invokespecial k => if x.1 = 53 then [.methodLink own k Lib.objectInit, .instanceMethod Lib.objectInit, .code Lib.objectInit ⟨#[0xb1]⟩ 1 none] else []
  | .new k => if x.1 = 60 then [.classLink own k (pmCN x.2), .instantiable (pmCN x.2) (pmN x.2), .initialized (pmCN x.2)] ++ u_ws (pmCN x.2) (pmT x.2) (pmN x.2) else []
  | .newarray _ => [.arrayClass (pmAt x.2)]
  | .anewarray k => [.classLink own k RX6]
  | _ => []
/-- what else must hold of the entry: its class is one of ours, its name is the class's own -/
def pmOk (ini : Bool) (own : String) (i : Instr) (x : Nat × Nat) : Bool := match i with
  | .putfield _ => decide (x.1 < 11) && ((pmT x.1 x.2).2.2.2 == false || (ini && decide (own = (pmT x.1 x.2).1)))
  | _ => true
theorem pmKd_0 {v : Value} (h : pmKd v = 0) : ∃ x, v = .int x := by cases v <;> first | exact ⟨_, rfl⟩ | simp [pmKd] at h
theorem pmKd_1 {v : Value} (h : pmKd v = 1) : ∃ x, v = .long x := by cases v <;> first | exact ⟨_, rfl⟩ | simp [pmKd] at h
theorem pmKd_2 {v : Value} (h : pmKd v = 2) : ∃ x, v = .float x := by cases v <;> first | exact ⟨_, rfl⟩ | simp [pmKd] at h
theorem pmKd_3 {v : Value} (h : pmKd v = 3) : ∃ x, v = .double x := by cases v <;> first | exact ⟨_, rfl⟩ | simp [pmKd] at h
theorem pmKd_4 {v : Value} (h : pmKd v = 4) : ∃ x, v = .ref x := by cases v <;> first | exact ⟨_, rfl⟩ | simp [pmKd] at h
section PMS
variable {p : Program} {l : Launch} {e : Env} {R : Room} {s : State} {m : MethodId} {args : Array Value} {below : List Frame} {meth : Method} {c0 : Code} {H H0 : Heap} {locs : List Loc} {cells slots : Nat} {Q : State → Prop}
variable {cc : ByteArray} {ls : Array Slot} {A : Nat → Prop} {D : va_G} {nL : Nat} {ad : Nat → Nat} {cA : Nat → ClassId} {pc : Nat} {L : List (Option Value)} {S : pmS} {st rest : List Value}
theorem pmRel.nx {st : List Value} {pc' : Nat} {st' : List Value} (h : pmRel D A H0 nL ad cA (pc, L, st, S) H locs ls) : pmRel D A H0 nL ad cA (pc', L, st', S) H locs ls := h
theorem pmRel.loc {k : Nat} {v : Value} (h : pmRel D A H0 nL ad cA (pc, L, st, S) H locs ls) (hk : L[k]? = some (some v)) : ls[k]? = some (.val (pmRe ad v)) := h.2.2.2.1.2.2 _ (pmLv_mem hk)
theorem pmRel.st1 {k : Nat} {v : Value} {ls' : Array Slot} {pc' : Nat} {st' : List Value} (h : pmRel D A H0 nL ad cA (pc, L, st, S) H locs ls) (hc : v.category = 1)
    (h' : lv_has ls' nL ((k, pmRe ad v) :: (pmLv ad L).filter (fun q => !(q.1 == k) && !(q.1 + 1 == k && q.2.category == 2)))) : pmRel D A H0 nL ad cA (pc', pmSet L k v, st', S) H locs ls' :=
  ⟨h.1, h.2.1, h.2.2.1, lv_has_of h' (pmLv_set1 hc), (pmSet_len L k v).trans h.2.2.2.2⟩
theorem pmRel.st2 {k : Nat} {v : Value} {ls' : Array Slot} {pc' : Nat} {st' : List Value} (h : pmRel D A H0 nL ad cA (pc, L, st, S) H locs ls) (hc : v.category = 2)
    (h' : lv_has ls' nL ((k, pmRe ad v) :: (pmLv ad L).filter (fun q => !(q.1 == k) && (!(q.1 == k + 1) && !(q.1 + 1 == k && q.2.category == 2))))) : pmRel D A H0 nL ad cA (pc', pmSet L k v, st', S) H locs ls' :=
  ⟨h.1, h.2.1, h.2.2.1, lv_has_of h' (pmLv_set2 hc), (pmSet_len L k v).trans h.2.2.2.2⟩
-- what a step says of its configuration
theorem pmI1_inv {n : Nat} {f : Int32 → Value} {c' : pmC} {ps : List Prop} (h : pmI1 n f (pc, L, st, S) = some (c', ps)) : ∃ x r, st = .int x :: r ∧ c' = (pc + n, L, f x :: r, S) := by
  unfold pmI1 at h
  split at h
  · rename_i x r hs
    cases h
    exact ⟨x, r, hs, rfl⟩
  · cases h
theorem pmI2_inv {n : Nat} {f : Int32 → Int32 → Value} {c' : pmC} {ps : List Prop} (h : pmI2 n f (pc, L, st, S) = some (c', ps)) : ∃ x y r, st = .int y :: .int x :: r ∧ c' = (pc + n, L, f x y :: r, S) := by
  unfold pmI2 at h
  split at h
  · rename_i y x r hs
    cases h
    exact ⟨x, y, r, hs, rfl⟩
  · cases h
theorem pmI2p_inv {n : Nat} {f : Int32 → Int32 → Value} {c' : pmC} {ps : List Prop} (h : pmI2p n f (pc, L, st, S) = some (c', ps)) (hp : ∀ P ∈ ps, P) : ∃ x y r, st = .int y :: .int x :: r ∧ c' = (pc + n, L, f x y :: r, S) ∧ ¬ y = 0 := by
  unfold pmI2p at h
  split at h
  · rename_i y x r hs
    cases h
    exact ⟨x, y, r, hs, rfl, hp _ List.mem_cons_self⟩
  · cases h
theorem pmJ1_inv {n : Nat} {f : Int64 → Value} {c' : pmC} {ps : List Prop} (h : pmJ1 n f (pc, L, st, S) = some (c', ps)) : ∃ x r, st = .long x :: r ∧ c' = (pc + n, L, f x :: r, S) := by
  unfold pmJ1 at h
  split at h
  · rename_i x r hs
    cases h
    exact ⟨x, r, hs, rfl⟩
  · cases h
theorem pmJ2_inv {n : Nat} {f : Int64 → Int64 → Value} {c' : pmC} {ps : List Prop} (h : pmJ2 n f (pc, L, st, S) = some (c', ps)) : ∃ x y r, st = .long y :: .long x :: r ∧ c' = (pc + n, L, f x y :: r, S) := by
  unfold pmJ2 at h
  split at h
  · rename_i y x r hs
    cases h
    exact ⟨x, y, r, hs, rfl⟩
  · cases h
theorem pmJ2p_inv {n : Nat} {f : Int64 → Int64 → Value} {c' : pmC} {ps : List Prop} (h : pmJ2p n f (pc, L, st, S) = some (c', ps)) (hp : ∀ P ∈ ps, P) : ∃ x y r, st = .long y :: .long x :: r ∧ c' = (pc + n, L, f x y :: r, S) ∧ ¬ y = 0 := by
  unfold pmJ2p at h
  split at h
  · rename_i y x r hs
    cases h
    exact ⟨x, y, r, hs, rfl, hp _ List.mem_cons_self⟩
  · cases h
theorem pmJI_inv {n : Nat} {f : Int64 → Int32 → Value} {c' : pmC} {ps : List Prop} (h : pmJI n f (pc, L, st, S) = some (c', ps)) : ∃ x y r, st = .int y :: .long x :: r ∧ c' = (pc + n, L, f x y :: r, S) := by
  unfold pmJI at h
  split at h
  · rename_i y x r hs
    cases h
    exact ⟨x, y, r, hs, rfl⟩
  · cases h
theorem pmF1_inv {n : Nat} {f : UInt32 → Value} {P : UInt32 → List Prop} {c' : pmC} {ps : List Prop} (h : pmF1 n f P (pc, L, st, S) = some (c', ps)) (hp : ∀ P ∈ ps, P) : ∃ x r, st = .float x :: r ∧ c' = (pc + n, L, f x :: r, S) ∧ ∀ q ∈ P x, q := by
  unfold pmF1 at h
  split at h
  · rename_i x r hs
    cases h
    exact ⟨x, r, hs, rfl, hp⟩
  · cases h
theorem pmF2_inv {n : Nat} {f : UInt32 → UInt32 → Value} {P : UInt32 → UInt32 → List Prop} {c' : pmC} {ps : List Prop} (h : pmF2 n f P (pc, L, st, S) = some (c', ps)) (hp : ∀ P ∈ ps, P) : ∃ x y r, st = .float y :: .float x :: r ∧ c' = (pc + n, L, f x y :: r, S) ∧ ∀ q ∈ P x y, q := by
  unfold pmF2 at h
  split at h
  · rename_i y x r hs
    cases h
    exact ⟨x, y, r, hs, rfl, hp⟩
  · cases h
theorem pmD1_inv {n : Nat} {f : UInt64 → Value} {c' : pmC} {ps : List Prop} (h : pmD1 n f (pc, L, st, S) = some (c', ps)) : ∃ x r, st = .double x :: r ∧ c' = (pc + n, L, f x :: r, S) := by
  unfold pmD1 at h
  split at h
  · rename_i x r hs
    cases h
    exact ⟨x, r, hs, rfl⟩
  · cases h
theorem pmD2_inv {n : Nat} {f : UInt64 → UInt64 → Value} {P : UInt64 → UInt64 → List Prop} {c' : pmC} {ps : List Prop} (h : pmD2 n f P (pc, L, st, S) = some (c', ps)) (hp : ∀ P ∈ ps, P) : ∃ x y r, st = .double y :: .double x :: r ∧ c' = (pc + n, L, f x y :: r, S) ∧ ∀ q ∈ P x y, q := by
  unfold pmD2 at h
  split at h
  · rename_i y x r hs
    cases h
    exact ⟨x, y, r, hs, rfl, hp⟩
  · cases h
theorem pmLd_inv {n k t : Nat} {c' : pmC} {ps : List Prop} (h : pmLd n k t (pc, L, st, S) = some (c', ps)) : ∃ v, L[k]? = some (some v) ∧ pmKd v = t ∧ c' = (pc + n, L, v :: st, S) := by
  unfold pmLd at h
  split at h
  · rename_i v hv
    split at h
    · rename_i ht
      cases h
      exact ⟨v, hv, ht, rfl⟩
    · cases h
  · cases h
theorem pmSt_inv {n k t : Nat} {c' : pmC} {ps : List Prop} (h : pmSt n k t (pc, L, st, S) = some (c', ps)) : ∃ v r, st = v :: r ∧ pmKd v = t ∧ k + (v.category - 1) < L.length ∧ c' = (pc + n, pmSet L k v, r, S) := by
  unfold pmSt at h
  split at h
  · rename_i v r hv
    split at h
    · rename_i ht
      cases h
      exact ⟨v, r, hv, ht.1, ht.2, rfl⟩
    · cases h
  · cases h
theorem pmTgt_inv {off : Int} {st' : List Value} {P ps : List Prop} {c' : pmC} (h : pmTgt (pc, L, st, S) off st' P = some (c', ps)) : ∃ tgt : Nat, (pc : Int) + off = (tgt : Int) ∧ c' = (tgt, L, st', S) ∧ ps = P := by
  unfold pmTgt at h
  split at h
  · rename_i ht
    cases h
    exact ⟨((pc : Int) + off).toNat, (Int.toNat_of_nonneg ht).symm, rfl, rfl⟩
  · cases h
theorem pmBr_inv {b : Nat} {off : Int} {n : Nat} {st' : List Value} {P : Prop} {ps : List Prop} {c' : pmC} (h : pmBr b off n (pc, L, st, S) st' P = some (c', ps)) (hp : ∀ P ∈ ps, P) :
    ∃ tgt : Nat, (pc : Int) + off = (tgt : Int) ∧ ((¬ P ∧ c' = (pc + n, L, st', S)) ∨ (P ∧ c' = (tgt, L, st', S))) := by
  unfold pmBr at h
  split at h
  · rename_i ht
    refine ⟨((pc : Int) + off).toNat, (Int.toNat_of_nonneg ht).symm, ?_⟩
    split at h
    · cases h
      exact Or.inl ⟨hp _ List.mem_cons_self, rfl⟩
    · cases h
      exact Or.inr ⟨hp _ List.mem_cons_self, rfl⟩
  · cases h
end PMS
