/-! PM: what a frame knows of the world outside, and how it is handed on -/
/-- links across the nest: what the tables say of them (not among the good words) -/
def pmNs : List Cond := tables_1.filter (fun w => match w with | .methodLinkNest _ _ _ _ => true | _ => false)
def pmXn (k : Nat) : String := match k with | 0 => "java/lang/IndexOutOfBoundsException" | 1 => "java/lang/IllegalArgumentException" | 2 => "java/lang/IllegalStateException" | 3 => "java/util/NoSuchElementException" | 4 => "java/lang/UnsupportedOperationException" | _ => "java/lang/ArithmeticException"
/-- a throw's words, but the constructor's link -/
def vxT (X : String) (ns : List String) : List Cond := (Bundle.throwableAtoms ++ Bundle.chain0Atoms X ns) ++ ((Bundle.ownAtoms0 "" 0 X ns).drop (Bundle.throwableAtoms ++ Bundle.chain0Atoms X ns).length).tail
theorem vx_split {own X : String} {ic : Nat} {ns : List String} {w : Cond} (h : w ∈ vx_at0 own ic X ns) : w = .methodLink own ic (Bundle.init0 X) ∨ (w ∈ vxT X ns ∧ vx_no w = true) := by
  unfold vx_at0 at h
  obtain ⟨hb, hc⟩ := List.mem_filter.mp h
  have e : vxT X ns = (Bundle.throwableAtoms ++ Bundle.chain0Atoms X ns) ++ ((Bundle.ownAtoms0 "" 0 X ns).drop (Bundle.throwableAtoms ++ Bundle.chain0Atoms X ns).length).tail := rfl
  unfold Bundle.ownAtoms0 at hb e
  rw [List.drop_left] at e
  rcases List.mem_append.mp hb with hb | hb
  · exact Or.inr ⟨by rw [e]; exact List.mem_append_left _ hb, hc⟩
  · rcases List.mem_cons.mp hb with rfl | hb
    · exact Or.inl rfl
    · exact Or.inr ⟨by rw [e]; exact List.mem_append_right _ hb, hc⟩
def pmUp : List String := ["java/lang/RuntimeException", "java/lang/Exception"]
/-- .. of them those that aren't good words -/
def pmTw : List Cond := (List.range 6).flatMap (fun k => (vxT (pmXn k) pmUp).filter (fun w => vx_no w && !goodWord w))
def isCD (w : Cond) : Bool := match w with | .castable _ _ => true | .declares _ => true | _ => false
set_option maxRecDepth 1000000 in
theorem pmTw_kind : pmTw.all isCD = true := by decide +kernel
theorem pm_warmCD {w : Cond} {s U : State} (hk : isCD w = true) (hW : s.WarmedH U.vm) (hZ : va_Nw w s) : va_Nw w U := by
  cases w with
  | castable C T => exact va_Nw.warmC hW hZ
  | declares x => exact va_tabs rfl (rfl : (s.setVm U.vm).vm = U.vm) (by rw [Cond.declares_setVm hW.alike]; exact hZ)
  | _ => cases hk
theorem pm_sameCD {w : Cond} {u U : State} (hk : isCD w = true) (hv : u.vm = U.vm) (hZ : va_Nw w u) : va_Nw w U := by
  cases w with
  | castable C T => exact va_Nw.same rfl hv hZ
  | declares x => exact va_Nw.same rfl hv hZ
  | _ => cases hk
def pmStT (k : Nat) : String × Nat × String × List Int32 := match pmSt0[k]? with | some q => q | none => ("", 0, "", [])
/-- the digits stand -/
def pmDg (ad : Nat → Nat) (A : Nat → Prop) (U : State) (H : Heap) : Prop :=
  (va_Z "java/lang/Integer" "DigitOnes" "[B" (.ref (ad 99996)) A U H ∧ va_T .byte (ad 99996) 100 (fun j => .int (pmDo j)) A U H) ∧
  (va_Z "java/lang/Integer" "DigitTens" "[B" (.ref (ad 99995)) A U H ∧ va_T .byte (ad 99995) 100 (fun j => .int (pmDt j)) A U H)
def pmEn (E : pmEv0) (ad : Nat → Nat) (A : Nat → Prop) (U : State) (H : Heap) : Prop :=
  (va_AO RX6 U ∧ ∀ w ∈ pmNs, va_Nw w U) ∧ ((∀ a b, a < 6 → b < 5 → a ≠ b → va_Nc (pmXn a) (pmXn b) U) ∧ (∀ k, k < 6 → va_Nw (.castable (pmXn k) (pmXn k)) U) ∧ ∀ w ∈ pmTw, va_Nw w U) ∧
  (vx_Zq Bundle.tN "UNASSIGNED_STACK" Bundle.steD A U H ∧ vx_Zq Bundle.tN "SUPPRESSED_SENTINEL" Bundle.listD A U H) ∧
  (va_Z "StageBallet" "MOVE_LETTERS" "[C" (.ref (ad 99999)) A U H ∧ va_T .char (ad 99999) 5 (fun j => .int (pmLt j)) A U H) ∧
  (va_Z "java/lang/String" "COMPACT_STRINGS" "Z" (.int 1) A U H ∧ va_Z "jdk/internal/util/Preconditions" "SIOOBE_FORMATTER" "Ljava/util/function/BiFunction;" (pmRe ad (va_rf E.2.2)) A U H) ∧
  (∀ k, k < pmSt0.length → vk_R (pmStT k).1 (pmStT k).2.1 (pmStT k).2.2.1 (ad (100000 + k)) U ∧ va_O "java/lang/String" (ad (100000 + k)) A U H ∧ va_OF "java/lang/String" "coder" "B" (.int 0) (ad (100000 + k)) A U H ∧
    va_OF "java/lang/String" "value" "[B" (.ref (ad (200000 + k))) (ad (100000 + k)) A U H ∧ va_T .byte (ad (200000 + k)) (pmStB k).length (fun j => .int ((pmStB k).getD j 0)) A U H) ∧
  (va_X (ad 99998) E.1 E.2.1 U H ∧ ¬ A (ad 99998) ∧ ad 99998 < H.size) ∧ pmVv 0 (va_rf E.2.2) ∧ pmDg ad A U H
theorem pmNs_kind {w : Cond} (h : w ∈ pmNs) : ∃ a i x o, w = .methodLinkNest a i x o := by
  have h1 := (List.mem_filter.mp h).2
  cases w <;> first | exact ⟨_, _, _, _, rfl⟩ | cases h1
/-- in another state of the tables, over another heap, for fewer cells -/
theorem pmEn.go {E : pmEv0} {ad ad' : Nat → Nat} {A B : Nat → Prop} {s U : State} {H H1 : Heap} (h : pmEn E ad A s H) (hW : s.WarmedH U.vm) (had : ∀ i, 90000 ≤ i → ad' i = ad i) (hq : ∀ a : Nat, a < H.size → ¬ A a → H1[a]? = H[a]?) (hz : H.size ≤ H1.size) (hBA : ∀ q, B q → A q) : pmEn E ad' B U H1 := by
  obtain ⟨h1, h2, ⟨h3, h4⟩, ⟨h5, h6⟩, ⟨h7, h8⟩, h9, ⟨h10, h11, h12⟩, h13, ⟨h15, h16⟩, h17, h18⟩ := h
  have hvm := hW.alike
  refine ⟨⟨h1.1.moved hvm, fun w hw => ?_⟩, ⟨fun a b ha hb hn => (h2.1 a b ha hb hn).moved hvm, fun k hk => va_Nw.warmC hW (h2.2.1 k hk), fun w hw => pm_warmCD (List.all_eq_true.mp pmTw_kind w hw) hW (h2.2.2 w hw)⟩, ⟨((h3.moved hvm).kept hq).narrow hBA, ((h4.moved hvm).kept hq).narrow hBA⟩, ⟨?_, ?_⟩, ⟨((h7.moved hvm).kept hq).narrow hBA, ?_⟩, fun k hk => ?_, ⟨?_, ?_, ?_⟩, h13, ⟨?_, ?_⟩, ?_, ?_⟩
  · obtain ⟨a, i, x, o, rfl⟩ := pmNs_kind hw
    exact va_Nw.warmM hW (h1.2 _ hw)
  · rw [had _ (by omega)]
    exact ((h5.moved hvm).kept hq).narrow hBA
  · rw [had _ (by omega)]
    exact ((h6.moved hvm).kept hq).narrow hBA
  · have e : pmRe ad' (va_rf E.2.2) = pmRe ad (va_rf E.2.2) := by
      cases hv : (va_rf E.2.2) with
      | ref i =>
        rw [hv] at h13
        have h14 : i < 0 ∨ 90000 ≤ i := h13
        show Value.ref (ad' i) = Value.ref (ad i)
        rw [had i (h14.elim (fun z => absurd z (Nat.not_lt_zero _)) id)]
      | _ => rfl
    rw [e]
    exact ((h8.moved hvm).kept hq).narrow hBA
  · rw [had (100000 + k) (by omega), had (200000 + k) (by omega)]
    obtain ⟨g1, g2, g3, g4, g5⟩ := h9 k hk
    exact ⟨g1.warm hW, ((g2.moved hvm).kept hq).narrow hBA, ((g3.moved hvm).kept hq).narrow hBA, ((g4.moved hvm).kept hq).narrow hBA, ((g5.moved hvm).kept hq).narrow hBA⟩
  · rw [had _ (by omega)]
    exact (h10.moved hvm).kept (hq _ h12 h11)
  · rw [had _ (by omega)]
    exact fun z => h11 (hBA _ z)
  · rw [had _ (by omega)]
    omega
  · rw [had _ (by omega)]
    exact ((h15.moved hvm).kept hq).narrow hBA
  · rw [had _ (by omega)]
    exact ((h16.moved hvm).kept hq).narrow hBA
  · rw [had _ (by omega)]
    exact ((h17.moved hvm).kept hq).narrow hBA
  · rw [had _ (by omega)]
    exact ((h18.moved hvm).kept hq).narrow hBA
/-- the same tables -/
theorem pmEn.same {E : pmEv0} {ad : Nat → Nat} {A : Nat → Prop} {u U : State} {H : Heap} (hv : u.vm = U.vm) (h : pmEn E ad A u H) : pmEn E ad A U H := by
  have hvm : u.vm.Alike U.vm := by rw [hv]; exact Vm.Alike.refl _
  obtain ⟨h1, h2, ⟨h3, h4⟩, ⟨h5, h6⟩, ⟨h7, h8⟩, h9, ⟨h10, h11, h12⟩, h13, ⟨h15, h16⟩, h17, h18⟩ := h
  refine ⟨⟨h1.1.moved hvm, fun w hw => ?_⟩, ⟨fun a b ha hb hn => (h2.1 a b ha hb hn).moved hvm, fun k hk => va_Nw.same rfl hv (h2.2.1 k hk), fun w hw => pm_sameCD (List.all_eq_true.mp pmTw_kind w hw) hv (h2.2.2 w hw)⟩, ⟨h3.moved hvm, h4.moved hvm⟩, ⟨h5.moved hvm, h6.moved hvm⟩, ⟨h7.moved hvm, h8.moved hvm⟩, fun k hk => ?_, ⟨h10.moved hvm, h11, h12⟩, h13, ⟨h15.moved hvm, h16.moved hvm⟩, h17.moved hvm, h18.moved hvm⟩
  · obtain ⟨a, i, x, o, rfl⟩ := pmNs_kind hw
    exact va_Nw.same rfl hv (h1.2 _ hw)
  · obtain ⟨g1, g2, g3, g4, g5⟩ := h9 k hk
    exact ⟨g1.same hv.symm, g2.moved hvm, g3.moved hvm, g4.moved hvm, g5.moved hvm⟩
/-- the world that a call needs -/
def pmBw (E : pmEv0) (D : va_G) (cA : Nat → ClassId) (ad : Nat → Nat) (S : pmS) (U : State) : Prop :=
  va_P D pmCl (pmW ad cA S) U.heap ∧ va_K D pmCl (pmTs cA) U ∧ va_D (fun _ => True) (pmW ad cA S) ∧ pmEn E ad (va_A (pmW ad cA S) U.heap.size) U U.heap ∧ pmVm S.1.length S.2 ∧ S.1.length ≤ 90000
def pmEx (ad ad' : Nat → Nat) (n : Nat) : Prop := ∀ i, i < n ∨ 90000 ≤ i → ad' i = ad i
theorem pmEx.rf {ad : Nat → Nat} {n : Nat} : pmEx ad ad n := fun _ _ => rfl
theorem pmEx.re {ad ad' : Nat → Nat} {n : Nat} (h : pmEx ad ad' n) {v : Value} (hv : pmVv n v) : pmRe ad' v = pmRe ad v := by
  cases v with
  | ref i => exact congrArg Value.ref (h i hv)
  | _ => rfl
theorem pmEx.map {ad ad' : Nat → Nat} {n : Nat} (h : pmEx ad ad' n) {l : List Value} (hv : ∀ v ∈ l, pmVv n v) : l.map (pmRe ad') = l.map (pmRe ad) := List.map_congr_left fun v hm => h.re (hv v hm)
theorem pmEx.lv {ad ad' : Nat → Nat} {n : Nat} (h : pmEx ad ad' n) {L : List (Option Value)} (hv : pmVl n L) : pmLv ad' L = pmLv ad L := by
  unfold pmLv
  have e : (fun i : Nat => match L[i]? with | some (some v) => some (i, pmRe ad' v) | _ => none) = (fun i : Nat => match L[i]? with | some (some v) => some (i, pmRe ad v) | _ => none) := by
    funext i
    cases hi : L[i]? with
    | none => rfl
    | some o => cases o with
      | none => rfl
      | some v => exact congrArg (fun z => some (i, z)) (h.re (hv i v hi))
  exact congrArg (fun f => List.filterMap f (List.range L.length)) e
theorem pmEx.w {ad ad' : Nat → Nat} {cA : Nat → ClassId} {S : pmS} (h : pmEx ad ad' S.1.length) (hv : pmVm S.1.length S.2) : pmW ad' cA S = pmW ad cA S := by
  unfold pmW
  refine List.ext_getElem? fun i => ?_
  rw [List.getElem?_mapIdx, List.getElem?_mapIdx]
  cases hi : S.1[i]? with
  | none => rfl
  | some e =>
    have hl : i < S.1.length := (List.getElem?_eq_some_iff.mp hi).1
    show some (ad' i, pmE ad' cA S.2 i e) = some (ad i, pmE ad cA S.2 i e)
    rw [h i (Or.inl hl)]
    have e1 : pmE ad' cA S.2 i e = pmE ad cA S.2 i e := by
      cases e with
      | inl c =>
        unfold pmE
        have e2 : ∀ k, pmRe ad' (pmRd (pmTy c k) S.2 i k) = pmRe ad (pmRd (pmTy c k) S.2 i k) := fun k => h.re (pmVv_rd hv _ _ _)
        simp only [e2]
      | inr a =>
        unfold pmE pmPay
        have e2 : (fun k => (S.2.2.2.1 i k).map ad') = fun k => (S.2.2.2.1 i k).map ad := by
          funext k
          cases hq : S.2.2.2.1 i k with
          | none => rfl
          | some q => exact congrArg some (h q (hv i k q hq))
        simp only [e2]
    rw [e1]
theorem pmEx.trans {ad ad' ad2 : Nat → Nat} {n m : Nat} (h : pmEx ad ad' n) (h2 : pmEx ad' ad2 m) (hn : n ≤ m) : pmEx ad ad2 n := fun i hi => (h2 i (by omega)).trans (h i hi)
