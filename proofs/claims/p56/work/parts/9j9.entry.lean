/-! the world outside, at the law's entry -/
set_option maxRecDepth 1000000 in
theorem tw_t : (pmTw.all inTabs) = true := by decide +kernel
section ENTRY
variable {s : State} {b L : Nat} {xs : Nat → Int32} {A : Nat → Prop}
theorem hk_mem {W : List Cond} {w : Cond} {args : Array Value} (h : ∀ w ∈ W, w.before args s = true) (i : Nat) (e : W[i]? = some w) : w.before args s = true := h w (List.mem_of_getElem? e)
/-- a String constant -/
theorem str_of {args : Array Value} {t : Term} {N : Nat} {f : Nat → Int32} (hN : N < 2 ^ 31) (h1 : (Cond.exactly t "java/lang/String").before args s = true) (h2 : (Cond.eq (.field t "java/lang/String" "coder" "B") (.int 0)).before args s = true) (h3 : (Cond.arrayOf (.field t "java/lang/String" "value" "[B") .byte).before args s = true) (h4 : (Cond.eq (.length (.field t "java/lang/String" "value" "[B")) (.int (Int32.ofNat N))).before args s = true) (h5 : ∀ j, j < N → (Cond.eq (.elem (.field t "java/lang/String" "value" "[B") (.int (Int32.ofNat j))) (.int (f j))).before args s = true) (hA : ∀ a : Nat, a < s.heap.size → ¬ A a) :
    ∃ a v : Nat, t.eval args s none [] s = some (.ref a) ∧ va_O "java/lang/String" a A s s.heap ∧ va_OF "java/lang/String" "coder" "B" (.int 0) a A s s.heap ∧ va_OF "java/lang/String" "value" "[B" (.ref v) a A s s.heap ∧ va_T .byte v N (fun j => .int (f j)) A s s.heap := by
  obtain ⟨a, c, cA, kA, q1, q2, q3, q4, q5, q6, -⟩ := Cond.exactly_spec (args := args) (first := s) (o := none) (s := s) (idx := []) (t := t) (cls := "java/lang/String") h1
  obtain ⟨v, hv, hT⟩ := va_Tof (f := fun j => .int (f j)) (A := A) hN h3 (va_eqt h4) (fun j hj => va_eqt (h5 j hj)) hA
  exact ⟨a, v, q1, va_Oof h1 q1 hA, vk_OFof q1 (va_eqt h2) hA, vk_OFof q1 hv hA, hT⟩
theorem arr_of {args : Array Value} {ty : FieldType} (h : (Cond.arrayClass ty).before args s = true) : ∃ cA, ArrOfT s cA ty ∧ s.vm.findClass ("[" ++ ty.toString) = some cA := by
  obtain ⟨cA, kA, comp, hfind, hk, hkind⟩ := Cond.arrayClass_spec h
  exact ⟨cA, fun N z => ⟨(fun k h => by cases h), kA, hk, comp, hkind⟩, hfind⟩
theorem arr_ofO {args : Array Value} {C : String} (h : (Cond.arrayOver (.object C)).before args s = true) : ∃ cA, ArrOfT s cA (.object C) ∧ va_RA s cA (.object C) := by
  obtain ⟨comp, cA, kA, h1, -, h3, h4, h5⟩ := Cond.arrayOver_spec h
  exact ⟨cA, fun N z => ⟨(fun k h => by cases h), kA, h3, comp, h4⟩, kA, comp, h3, h4, h1, h5⟩
theorem entry_K {args : Array Value} (hts : ∀ w ∈ lw_tb2, w.before args s = true) : ∃ (D : va_G) (cA : Nat → ClassId), va_K D pmCl (pmTs cA) s := by
  have hin : ∀ c, ∃ x : ClassId × (Nat → Nat), c < 11 → u_Kn s (pmCN c) (pmT c) (pmN c) x.1 x.2 := fun c => by
    by_cases hc : c < 11
    · obtain ⟨cC, iS, h⟩ := u_known (C := pmCN c) (T := pmT c) (N := pmN c) (n := pmN c) (ws := pmTB) (args := args) (fun w hw => hts w (List.mem_filter.mp hw).1) (chk_u c hc) (hts _ (hkT_ok inW_t _ (List.mem_map.mpr ⟨c, List.mem_range.mpr hc, rfl⟩)))
      exact ⟨(cC, iS), fun _ => h⟩
    · exact ⟨(0, fun _ => 0), fun h => absurd h hc⟩
  obtain ⟨f, hf⟩ := Classical.axiomOfChoice hin
  have tb : ∀ w ∈ tbW2, w.before args s = true := fun w hw => hts w (hkT_ok tbW2_t w hw)
  obtain ⟨c0, g0, e0⟩ := arr_of (ty := .int) (hk_mem tb 9 rfl)
  obtain ⟨c1, g1, e1⟩ := arr_of (ty := .byte) (hk_mem tb 10 rfl)
  obtain ⟨c2, g2, e2⟩ := arr_of (ty := .char) (hk_mem tb 11 rfl)
  obtain ⟨c3, g3, e3⟩ := arr_of (ty := .int) (hk_mem tb 12 rfl)
  obtain ⟨c4, g4, e4⟩ := arr_ofO (C := RX6) (hk_mem tb 13 rfl)
  refine ⟨(fun c => (f c).1, fun c => (f c).2), fun i => if i = 0 then c0 else if i = 1 then c1 else if i = 2 then c2 else if i = 3 then c3 else c4, fun c q hq => ?_, fun k q hq => ?_⟩
  · have hc : c < 11 := (List.getElem?_eq_some_iff.mp hq).1
    rw [pmCl_at hc] at hq
    cases hq
    exact hf c hc
  · have hk : k < 5 := (List.getElem?_eq_some_iff.mp hq).1
    rcases (show k = 0 ∨ k = 1 ∨ k = 2 ∨ k = 3 ∨ k = 4 by omega) with rfl | rfl | rfl | rfl | rfl
    · cases hq; exact ⟨g0, e0⟩
    · cases hq; exact ⟨g1, e1⟩
    · cases hq; exact ⟨g2, e2⟩
    · cases hq; exact ⟨g3, e3⟩
    · cases hq; exact ⟨g4, e4⟩
theorem entry_En {args : Array Value} (hts : ∀ w ∈ lw_tb2, w.before args s = true) (hfc : ∀ w ∈ FC, w.before args s = true) (hX : va_X b L xs s s.heap) (hb : b < s.heap.size) (hA : ∀ a : Nat, a < s.heap.size → ¬ A a) : ∃ (E : pmEv0) (ad : Nat → Nat), (E.1 = L ∧ ad 99998 = b) ∧ pmVv 0 (va_rf E.2.2) ∧ pmEn E ad A s s.heap := by
  have tb : ∀ w ∈ tbW2, w.before args s = true := fun w hw => hts w (hkT_ok tbW2_t w hw)
  have fc : ∀ w ∈ fcW2, w.before args s = true := fun w hw => hfc w (hkF_ok fcW2_t w hw)
  -- the letters
  obtain ⟨tL, eL, hL⟩ := va_Tof (f := fun j => .int (pmLt j)) (A := A) (N := 5) (tm := ltTm) (ty := .char) (args := args) (s := s) (by decide) (hk_mem fc 0 rfl) (va_eqt (hk_mem fc 1 rfl)) (fun j hj => va_eqt (fc _ (List.mem_append_right _ (List.mem_map.mpr ⟨j, List.mem_range.mpr hj, rfl⟩)))) hA
  -- the digits
  have fd : ∀ w ∈ fcD, w.before args s = true := fun w hw => hfc w (hkF_ok fcD_t w hw)
  obtain ⟨tO, eO, hO⟩ := va_Tof (f := fun j => .int (pmDo j)) (A := A) (N := 100) (tm := doTm) (ty := .byte) (args := args) (s := s) (by decide) (hk_mem fd 0 rfl) (va_eqt (hk_mem fd 1 rfl)) (fun j hj => va_eqt (hfc _ (hkF_ok fcDo_t _ (List.mem_map.mpr ⟨j, List.mem_range.mpr hj, rfl⟩)))) hA
  obtain ⟨tT, eT, hT⟩ := va_Tof (f := fun j => .int (pmDt j)) (A := A) (N := 100) (tm := dtTm) (ty := .byte) (args := args) (s := s) (by decide) (hk_mem fd 2 rfl) (va_eqt (hk_mem fd 3 rfl)) (fun j hj => va_eqt (hfc _ (hkF_ok fcDt_t _ (List.mem_map.mpr ⟨j, List.mem_range.mpr hj, rfl⟩)))) hA
  -- the strings
  have hst : ∀ k, ∃ q : Nat × Nat, k < 30 → (stTm k).eval args s none [] s = some (.ref q.1) ∧ va_O "java/lang/String" q.1 A s s.heap ∧ va_OF "java/lang/String" "coder" "B" (.int 0) q.1 A s s.heap ∧ va_OF "java/lang/String" "value" "[B" (.ref q.2) q.1 A s s.heap ∧ va_T .byte q.2 (pmStB k).length (fun j => .int ((pmStB k).getD j 0)) A s s.heap := fun k => by
    by_cases hk : k < 30
    · have sw : ∀ w ∈ stW k, w.before args s = true := fun w hw => hfc w (stF_at hk w hw)
      have hlen : ∀ k, k < 30 → (pmStB k).length < 2 ^ 31 := by decide
      obtain ⟨a, v, h⟩ := str_of (t := stTm k) (N := (pmStB k).length) (f := fun j => (pmStB k).getD j 0) (hlen k hk) (hk_mem sw 0 rfl) (hk_mem sw 1 rfl) (hk_mem sw 2 rfl) (hk_mem sw 3 rfl) (fun j hj => sw _ (List.mem_append_right _ (List.mem_map.mpr ⟨j, List.mem_range.mpr hj, rfl⟩))) hA
      exact ⟨(a, v), fun _ => h⟩
    · exact ⟨(0, 0), fun h => absurd h hk⟩
  obtain ⟨st, hst⟩ := Classical.axiomOfChoice hst
  -- the formatter: null, or a reference
  obtain ⟨o, tF, ho⟩ : ∃ (o : Option Nat) (tF : Nat), (o = none ∨ o = some 99997) ∧ va_Z "jdk/internal/util/Preconditions" "SIOOBE_FORMATTER" "Ljava/util/function/BiFunction;" (match o with | none => .null | some _ => .ref tF) A s s.heap := by
    rcases va_Zqof (A := A) (hk_mem tb 7 rfl) (hk_mem tb 8 rfl) (hk_mem fc 5 rfl) hA with h | ⟨t, h⟩
    · exact ⟨none, 0, Or.inl rfl, h⟩
    · exact ⟨some 99997, t, Or.inr rfl, h⟩
  refine ⟨(L, xs, o), fun i => if i = 99998 then b else if i = 99999 then tL else if i = 99997 then tF else if i = 99996 then tO else if i = 99995 then tT else if i < 200000 then (st (i - 100000)).1 else (st (i - 200000)).2, ⟨rfl, if_pos rfl⟩, ?_, ?_⟩
  · rcases ho.1 with e | e
    · rw [show ((L, xs, o) : pmEv0).2.2 = none from e]
      exact trivial
    · rw [show ((L, xs, o) : pmEv0).2.2 = some 99997 from e]
      exact Or.inr (by decide)
  · have hvv : pmVv 0 (va_rf ((L, xs, o) : pmEv0).2.2) := by
      rcases ho.1 with e | e
      · rw [show ((L, xs, o) : pmEv0).2.2 = none from e]
        exact trivial
      · rw [show ((L, xs, o) : pmEv0).2.2 = some 99997 from e]
        exact Or.inr (by decide)
    refine ⟨⟨va_AO.of (hk_mem tb 13 rfl), fun w hw => ?_⟩, ⟨fun a c ha hc hn => va_Nc.of (hfc _ (hkF_ok prW_t _ (prW_at ha hc hn))), fun k hk => va_Nw.of rfl (hts _ (hkT_ok sfW_t _ (List.mem_map.mpr ⟨k, List.mem_range.mpr hk, rfl⟩))), fun w hw => ?_⟩, ⟨vx_Zqof (hk_mem tb 0 rfl) (hk_mem tb 2 rfl) (hk_mem fc 2 rfl) hA, vx_Zqof (hk_mem tb 1 rfl) (hk_mem tb 2 rfl) (hk_mem fc 3 rfl) hA⟩, ⟨?_, ?_⟩, ⟨va_Zof (hk_mem tb 5 rfl) (hk_mem tb 6 rfl) (va_eqi (hk_mem fc 4 rfl)) hA, ?_⟩, fun k hk => ?_, ⟨?_, ?_, ?_⟩, hvv, ⟨?_, ?_⟩, ?_, ?_⟩
    · obtain ⟨a, i, x, o, rfl⟩ := pmNs_kind hw
      exact va_Nw.of rfl (hts _ (List.mem_append_right _ (List.mem_filter.mp hw).1))
    · have hk := List.all_eq_true.mp pmTw_kind w hw
      have hi := inTabs_ok (List.all_eq_true.mp tw_t w hw)
      cases w with
      | castable C T => exact va_Nw.of rfl (hts _ hi)
      | declares x => exact va_Nw.of rfl (hts _ hi)
      | _ => cases hk
    · show va_Z "StageBallet" "MOVE_LETTERS" "[C" (.ref tL) A s s.heap
      exact va_Zref (hk_mem tb 3 rfl) (hk_mem tb 4 rfl) eL hA
    · show va_T .char tL 5 (fun j => .int (pmLt j)) A s s.heap
      exact hL
    · have hz := ho.2
      rcases ho.1 with e | e
      · rw [e] at hz ⊢
        exact hz
      · rw [e] at hz ⊢
        exact hz
    · have hk : k < 30 := hk
      obtain ⟨g1, g2, g3, g4, g5⟩ := hst k hk
      dsimp only
      rw [if_neg (show ¬ 100000 + k = 99998 by omega), if_neg (show ¬ 100000 + k = 99999 by omega), if_neg (show ¬ 100000 + k = 99997 by omega), if_neg (show ¬ 100000 + k = 99996 by omega), if_neg (show ¬ 100000 + k = 99995 by omega), if_pos (show 100000 + k < 200000 by omega), if_neg (show ¬ 200000 + k = 99998 by omega), if_neg (show ¬ 200000 + k = 99999 by omega), if_neg (show ¬ 200000 + k = 99997 by omega), if_neg (show ¬ 200000 + k = 99996 by omega), if_neg (show ¬ 200000 + k = 99995 by omega), if_neg (show ¬ 200000 + k < 200000 by omega), show 100000 + k - 100000 = k by omega, show 200000 + k - 200000 = k by omega]
      exact ⟨vk_R.of (hts _ (hkT_ok stR_t _ (List.mem_map.mpr ⟨k, List.mem_range.mpr hk, rfl⟩))) g1, g2, g3, g4, g5⟩
    · show va_X b L xs s s.heap
      exact hX
    · show ¬ A b
      exact hA b hb
    · show b < s.heap.size
      exact hb
    · show va_Z "java/lang/Integer" "DigitOnes" "[B" (.ref tO) A s s.heap
      exact va_Zref (hk_mem tb 14 rfl) (hk_mem tb 16 rfl) eO hA
    · show va_T .byte tO 100 (fun j => .int (pmDo j)) A s s.heap
      exact hO
    · show va_Z "java/lang/Integer" "DigitTens" "[B" (.ref tT) A s s.heap
      exact va_Zref (hk_mem tb 15 rfl) (hk_mem tb 16 rfl) eT hA
    · show va_T .byte tT 100 (fun j => .int (pmDt j)) A s s.heap
      exact hT
end ENTRY
