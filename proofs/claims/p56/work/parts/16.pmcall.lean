/-! PM: calls -/
def pmHh (hd : List (Nat × Nat × Nat × Nat × Nat)) : List (Nat × Nat × Nat × Nat) := hd.map (fun q => (q.1, q.2.1, q.2.2.1, q.2.2.2.1))
/-- the word of a method's own code -/
def pmHw (m : pmMe) : Cond := if pmHd m = [] then .code (pmNm m) (pmBy m) (pmMx m) (pmRt m) else .codeWith (pmNm m) (pmBy m) (pmMx m) (pmRt m) (pmHh (pmHd m))
/-- the room of a call d deep -/
def pmRm (d : Nat) (r : pmR) : Room := { frames := 8 + 2 * d, cells := r.2.2.1, slots := r.2.2.2, locals := 200 + 60 * d }
/-- a store's picture in a heap, its things apart and of a kind -/
def pmBp (D : va_G) (cA : Nat → ClassId) (ad : Nat → Nat) (A : Nat → Prop) (S : pmS) (H : Heap) : Prop :=
  va_P D pmCl (pmW ad cA S) H ∧ va_D A (pmW ad cA S) ∧ pmVm S.1.length S.2 ∧ S.1.length ≤ 90000
def pmQc (D : va_G) (cA : Nat → ClassId) (ad : Nat → Nat) (S : pmS) (sz : Nat) (r : pmR) : Array Value → State → Outcome → State → Prop := fun _ st oc t =>
  ∃ v ad', r.1 = .inl v ∧ oc = .returned (v.map (pmRe ad')) ∧ (∀ w, v = some w → pmVv r.2.1.1.length w) ∧ pmEx ad ad' S.1.length ∧ S.1.length ≤ r.2.1.1.length ∧ pmBp D cA ad' (va_A (pmW ad cA S) sz) r.2.1 t.heap ∧ va_F (va_A (pmW ad cA S) sz) st t
def pmXC (D : va_G) (cA : Nat → ClassId) (ad : Nat → Nat) (S : pmS) (sz : Nat) (r : pmR) : String → State → State → Prop := fun X st t =>
  ∃ k ad', r.1 = .inr k ∧ X = pmXn k ∧ pmEx ad ad' S.1.length ∧ S.1.length ≤ r.2.1.1.length ∧ pmBp D cA ad' (va_A (pmW ad cA S) sz) r.2.1 t.heap ∧ va_F (va_A (pmW ad cA S) sz) st t
/-- a method's contract: this call, over this store, ends so -/
def pmCon (l : Launch) (Pg : Nat → pmMe) (TB : List Cond) (E : pmEv0) (D : va_G) (cA : Nat → ClassId) (d t : Nat) (as : List Value) (S : pmS) (r : pmR) : Prop :=
  ∀ (ad : Nat → Nat) (sz : Nat), (∀ v ∈ as, pmVv S.1.length v) → vx_Met l (pmNm (Pg t)) (pmHw (Pg t) :: TB) (pmRm d r) (va_Pc (as.map (pmRe ad)) (fun U => U.heap.size = sz ∧ pmBw E D cA ad S U)) (pmQc D cA ad S sz r) (pmXC D cA ad S sz r) r.2.2.1 r.2.2.2 (va_A (pmW ad cA S) sz)
/-- the words of a call -/
def pmWc (Pg : Nat → pmMe) (own : String) (i : Instr) (x : Nat × Nat) : List Cond := match i with
  | .invokestatic k => if x.1 = 0 then [.methodLink own k (pmNm (Pg x.2)), .static (pmNm (Pg x.2)), .initialized (pmNm (Pg x.2)).cls, pmHw (Pg x.2)] else if x.1 = 1 then [.static (pmNm (Pg x.2)), .initialized (pmNm (Pg x.2)).cls, pmHw (Pg x.2)] else if x.1 = 6 then [.methodLink own k (pmNm (Pg x.2)), .static (pmNm (Pg x.2)), .initialized (pmNm (Pg x.2)).cls, pmHw (Pg x.2)] else []
  | .invokevirtual k => if x.1 = 2 then [.methodLink own k (pmNm (Pg x.2)), .instanceMethod (pmNm (Pg x.2)), .selects (pmNm (Pg x.2)).cls (pmNm (Pg x.2)) (pmNm (Pg x.2)), .initialized (pmNm (Pg x.2)).cls, pmHw (Pg x.2)] else if x.1 = 3 then [.instanceMethod (pmNm (Pg x.2)), .selects (pmNm (Pg x.2)).cls (pmNm (Pg x.2)) (pmNm (Pg x.2)), .initialized (pmNm (Pg x.2)).cls, pmHw (Pg x.2)] else if x.1 = 9 then [.methodLink own k (pmNm (Pg x.2)), .sameMethod (pmNm (Pg x.2)).cls (pmNm (Pg x.2)).cls (pmNm (Pg x.2)).name (pmNm (Pg x.2)).desc, .selects RJ4 (pmNm (Pg x.2)) (pmNm (Pg x.2)), .instanceMethod (pmNm (Pg x.2)), .initialized (pmNm (Pg x.2)).cls, pmHw (Pg x.2)] else if x.1 = 10 then [.methodLink own k yJ5_length_8abf5, .sameMethod RJ5 RJ5 yJ5_length_8abf5.name yJ5_length_8abf5.desc, .instanceMethod yJ5_length_8abf5, .code yJ5_length_8abf5 cJ5_length_8abf5 1 (some .int), .selects RJ4 yJ5_length_8abf5 (pmNm (Pg x.2)), .instanceMethod (pmNm (Pg x.2)), .initialized (pmNm (Pg x.2)).cls, pmHw (Pg x.2)] else []
  | .invokespecial k => if x.1 = 4 then [.methodLink own k (pmNm (Pg x.2)), .instanceMethod (pmNm (Pg x.2)), .initialized (pmNm (Pg x.2)).cls, pmHw (Pg x.2)] else if x.1 = 5 then [.instanceMethod (pmNm (Pg x.2)), .initialized (pmNm (Pg x.2)).cls, pmHw (Pg x.2)] else if x.1 = 7 then [.methodLink own k (pmNm (Pg x.2)), .instanceMethod (pmNm (Pg x.2)), .initialized (pmNm (Pg x.2)).cls, pmHw (Pg x.2)] else if x.1 = 8 then [.methodLink own k (pmNm (Pg x.2)), .sameMethod (pmNm (Pg x.2)).cls (pmNm (Pg x.2)).cls (pmNm (Pg x.2)).name (pmNm (Pg x.2)).desc, .superclass own (pmNm (Pg x.2)).cls, .instanceMethod (pmNm (Pg x.2)), .initialized (pmNm (Pg x.2)).cls, pmHw (Pg x.2)] else []
  | _ => []
/-- .. across the nest -/
def pmWn (Pg : Nat → pmMe) (own : String) (i : Instr) (x : Nat × Nat) : List Cond := match i with
  | .invokestatic k => if x.1 = 1 then [.methodLinkNest own k (pmNm (Pg x.2)) "StageBallet"] else []
  | .invokevirtual k => if x.1 = 3 then [.methodLinkNest own k (pmNm (Pg x.2)) "StageBallet"] else []
  | .invokespecial k => if x.1 = 5 then [.methodLinkNest own k (pmNm (Pg x.2)) "StageBallet"] else []
  | _ => []
/-- the plain checks of a call's entry -/
def pmOc (Pg : Nat → pmMe) (i : Instr) (x : Nat × Nat) : Bool := match pmTg i x with
  | none => true
  | some t => decide ((pmNm (Pg t)).cls ≠ "java/lang/invoke/MethodHandle") && decide ((pmNm (Pg t)).cls ≠ "java/lang/invoke/VarHandle") && decide (pmMx (Pg t) ≤ 20)
      && (match i with | .invokestatic _ => decide ((parseMethodDescriptor (pmNm (Pg t)).desc).map (fun d => d.parameters.length) = some (pmNa (Pg t))) | _ => decide ((parseMethodDescriptor (pmNm (Pg t)).desc).map (fun d => d.parameters.length + 1) = some (pmNa (Pg t))))
      && (match i with | .invokespecial _ => if x.1 = 8 then decide ((pmNm (Pg t)).name ≠ "<init>") else decide ((pmNm (Pg t)).name = "<init>") && decide (pmRt (Pg t) = none) | _ => true)
      && (if x.1 = 6 then decide (pmHd (Pg t) ≠ []) else decide (pmHd (Pg t) = []))
      && (if x.1 = 10 then decide ((pmNm (Pg t)).desc = yJ5_length_8abf5.desc) else true)
section PMC
variable {p : Program} {l : Launch} {e : Env} {R : Room} {s : State} {m : MethodId} {args : Array Value} {below : List Frame} {meth : Method} {c0 : Code} {H H0 : Heap} {locs : List Loc} {cells slots : Nat} {Q : State → Prop}
variable {cc : ByteArray} {ls : Array Slot} {A : Nat → Prop} {D : va_G} {nL : Nat} {ad : Nat → Nat} {cA : Nat → ClassId} {pc : Nat} {L : List (Option Value)} {S : pmS} {st rest : List Value} {Pg : Nat → pmMe} {TB : List Cond} {E : pmEv0}
/-- behind a call: it returned, or threw -/
theorem pm_after {st0 rest : List Value} {a : Array Value} {r : pmR} {mc ms : Nat} (hr : vx_Run p l e R s m args below meth c0 H locs cells slots mc ms (F0 m pc ls st0) rest (pmQc D cA ad S H.size r a) (pmXC D cA ad S H.size r) (va_A (pmW ad cA S) H.size)) (hS : va_S A H0 H locs) (hF : ∀ q, va_A (pmW ad cA S) H.size q → A q)
    (kx : ∀ (k : Nat) (ad' : Nat → Nat) (ce : Cell) (q9 : Addr) (H1 : Heap) (locs1 : List Loc), r.1 = .inr k → pmEx ad ad' S.1.length → S.1.length ≤ r.2.1.1.length → pmBp D cA ad' A r.2.1 H1 → va_S A H0 H1 locs1 → H1[q9]? = some ce → ce.vm = .none → s.vm.findClass (pmXn k) = some ce.cls → vx_W p l e R s m args below meth c0 H1 locs1 (cells + mc) (slots + ms) Q (F0 m pc ls rest) q9)
    (kk : ∀ (v : Option Value) (ad' : Nat → Nat) (H1 : Heap) (locs1 : List Loc), r.1 = .inl v → (∀ w, v = some w → pmVv r.2.1.1.length w) → pmEx ad ad' S.1.length → S.1.length ≤ r.2.1.1.length → pmBp D cA ad' A r.2.1 H1 → va_S A H0 H1 locs1 → W p l e R s m args below meth c0 H1 locs1 (cells + mc) (slots + ms) Q (F0 m (pc + 3) ls ((v.map (pmRe ad')).toList ++ rest))) :
    W p l e R s m args below meth c0 H locs cells slots Q (F0 m pc ls st0) := by
  intro T hT X
  rcases hr T hT X with ⟨v, st₀, t, T', L, h0, X', hL, e1, e2, ⟨v9, ad', hv, hoc, hvv, hx, hle, ⟨b1, b2, b3⟩, hFr⟩, st⟩ | ⟨q, st₀, t, T', L, En, ce, h0, X', hL, e1, e2, ⟨k9, ad', hv, hE, hx, hle, ⟨b1, b2, b3⟩, hFr⟩, hce, hcv, hcl, st⟩
  · obtain ⟨k1, k2, k3⟩ := vx_keep h0 e1 hS (fun q _ h => hF q h) hF hL hFr
    cases hoc
    obtain ⟨t2, a1, c1⟩ := kk v9 ad' T'.heap (locs ++ L) hv hvv hx hle ⟨by rw [e1]; exact b1, b2.weaken (fun _ q _ h => hF q.1 h), b3⟩ k3 T' rfl X'
    exact ⟨t2, st t2 a1, c1⟩
  · obtain ⟨k1, k2, k3⟩ := vx_keep h0 e1 hS (fun q _ h => hF q h) hF hL hFr
    subst hE
    obtain ⟨t2, a1, c1⟩ := kx k9 ad' ce q T'.heap (locs ++ L) hv hx hle ⟨by rw [e1]; exact b1, b2.weaken (fun _ q _ h => hF q.1 h), b3⟩ k3 (by rw [e1]; exact hce) hcv hcl T' rfl X'
    exact ⟨t2, st.trans a1, c1⟩
/-- the world that a callee starts with -/
theorem pm_pre (hK : va_K D pmCl (pmTs cA) s) (hP : va_P D pmCl (pmW ad cA S) H) (hD : va_D A (pmW ad cA S)) (hS : va_S A s.heap H locs) (hF : ∀ q, va_A (pmW ad cA S) H.size q → A q) (hEn : pmEn E ad A s s.heap) (hV : pmVm S.1.length S.2) (hl : S.1.length ≤ 90000) (as : List Value) :
    PreS s H (va_Pc (as.map (pmRe ad)) (fun U => U.heap.size = H.size ∧ pmBw E D cA ad S U)) (as.map (pmRe ad)) := by
  refine ⟨fun a U g mk q => ?_, fun U hU hW => ⟨rfl, by rw [hU], by rw [hU]; exact hP, va_K.moved hW.alike hK, hD.weaken (fun _ _ _ _ => trivial), ?_, hV, hl⟩⟩
  · obtain ⟨q0, q1, qP, qK, qD, qE, qV⟩ := q
    exact ⟨q0, q1, qP, va_K.moved (u := U) (U := U.calling g mk a) (Vm.Alike.refl U.vm) qK, qD, pmEn.same (u := U) (U := U.calling g mk a) rfl qE, qV⟩
  · rw [hU]
    exact hEn.go hW (fun _ _ => rfl) hS.2.1 hS.1 hF
end PMC
