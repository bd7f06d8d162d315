/-! PM: throws, catches, returns -/
/-- the words of a throw -/
def pmWt (Pg : Nat → pmMe) (j pc : Nat) (i : Instr) (x : Nat × Nat) : List Cond := match i with
  | .new ik => if x.1 = 70 then (match pmCo (Pg j) (pc + 4) with
      | some (.invokespecial ic, _) => .classLink (pmNm (Pg j)).cls ik (pmXn x.2) :: .initialized (pmXn x.2) :: (vx_at0 (pmNm (Pg j)).cls ic (pmXn x.2) pmUp).filter goodWord
      | _ => []) else []
  | _ => []
/-- its plain checks -/
def pmOt (Pg : Nat → pmMe) (j pc : Nat) (i : Instr) (x : Nat × Nat) : Bool := match i with
  | .new ik => if x.1 = 70 then (match pmCo (Pg j) (pc + 4) with
      | some (.invokespecial ic, _) => decide (x.2 < 6) && Bundle.fit (pmXn x.2) && (Cond.classLink (pmNm (Pg j)).cls ik (pmXn x.2) :: Cond.initialized (pmXn x.2) :: vx_at0 (pmNm (Pg j)).cls ic (pmXn x.2) pmUp).all vx_ot
      | _ => false) else true
  | _ => true
section PMF
variable {p : Program} {l : Launch} {e : Env} {R : Room} {s : State} {m : MethodId} {args : Array Value} {below : List Frame} {meth : Method} {c0 : Code} {H H0 : Heap} {locs : List Loc} {cells slots : Nat} {Q : State → Prop}
variable {cc : ByteArray} {ls : Array Slot} {A : Nat → Prop} {D : va_G} {nL : Nat} {ad : Nat → Nat} {cA : Nat → ClassId} {pc : Nat} {L : List (Option Value)} {S : pmS} {st rest : List Value} {Pg : Nat → pmMe} {TB : List Cond} {E : pmEv0}
theorem pm_kept {H1 : Heap} (hr : pmRel D A s.heap nL ad cA (pc, L, st, S) H locs ls) (h : ∀ q : Nat, q < H.size → H1[q]? = H[q]?) (hz : H.size ≤ H1.size) : va_P D pmCl (pmW ad cA S) H1 ∧ va_S A s.heap H1 locs := by
  refine ⟨fun k q hk => (hr.1 k q hk).kept (h _ ((hr.1 k q hk).lt)), Nat.le_trans hr.2.2.1.1 hz, fun q h1 h2 => ?_, hr.2.2.1.2.2⟩
  rw [h q (Nat.lt_of_lt_of_le h1 hr.2.2.1.1)]
  exact hr.2.2.1.2.1 q h1 h2
theorem pm_throw {i : Instr} {n j k mc ms sz : Nat} {x : Nat × Nat} {own : String} {ad0 : Nat → Nat} {S0 : pmS} {Qc : Array Value → State → Outcome → State → Prop} {r : pmR} (hown9 : (pmNm (Pg j)).cls = own) (hco : ∀ q i n y, pmCo (Pg j) q = some (i, n, y) → decode cc q = .ok (i, pmIl i n)) (hc9 : decode cc pc = .ok (i, pmIl i n)) (hth : pmThr (Pg j) pc i x = some k) (hot : pmOt Pg j pc i x = true) (hwt : ∀ w ∈ pmWt Pg j pc i x, w ∈ TB)
    (hTB : ∀ w ∈ TB, w.before args s = true) (hexec : p.tables.exec = Jvm.exec) (hb : c0.code = cc) (hst : l.stackTraces = false) (hown : s.vm.findClass own = some m.cls) (hEn : pmEn E ad A s s.heap) (hml : c0.maxLocals = nL) (hout : ∀ x ∈ c0.exceptionTable.toList, False) (hlocks : meth.locks = false)
    (hsum : (st.map fun v => v.category).sum ≤ 8) (hRf : 8 ≤ R.frames) (hRl : 100 ≤ R.locals) (hc : cells + 1 ≤ R.cells) (hs : slots + 6 ≤ R.slots) (hmc : cells + 1 ≤ mc) (hms : slots + 6 ≤ ms)
    (hsz : s.heap.size = sz) (hA : A = va_A (pmW ad0 cA S0) sz) (hx : pmEx ad0 ad S0.1.length) (hl0 : S0.1.length ≤ S.1.length) (hl9 : S.1.length ≤ 90000) (hv : pmVd (pc, L, st, S)) (hr9 : r.1 = .inr k ∧ r.2.1 = S)
    (hr : pmRel D A s.heap nL ad cA (pc, L, st, S) H locs ls) :
    W p l e R s m args below meth c0 H locs cells slots (vx_MQ below Qc (pmXC D cA ad0 S0 sz r) args s mc ms (va_A (pmW ad0 cA S0) sz)) (F0 m pc ls (st.map (pmRe ad))) := by
  subst hown9
  unfold pmThr at hth
  split at hth
  · rename_i ik
    split at hth
    · rename_i hx1
      split at hth
      · rename_i y3 ic y4 y7 h3 h4 h7
        cases hth
        dsimp only [pmOt, pmWt] at hot hwt
        rw [if_pos hx1, h4] at hot hwt
        dsimp only at hot hwt
        simp only [Bool.and_eq_true, decide_eq_true_eq] at hot
        obtain ⟨⟨o1, o2⟩, o3⟩ := hot
        obtain ⟨n3, z3⟩ := y3
        obtain ⟨n4, z4⟩ := y4
        obtain ⟨n7, z7⟩ := y7
        have d3 := hco _ _ _ _ h3
        have d4 := hco _ _ _ _ h4
        have d7 := hco _ _ _ _ h7
        refine vx_throw0 (names := pmUp) (ik := ik) (ic := ic) (cls := pmXn x.2) hexec hb hst hown o2 (by decide +kernel) (hTB _ (hwt _ List.mem_cons_self)) (hTB _ (hwt _ (List.mem_cons_of_mem _ List.mem_cons_self))) ?_ (List.all_eq_true.mp o3) hEn.2.2.1.1 hEn.2.2.1.2 hr.2.2.1 (hr.2.2.2.1.1.trans hml.symm) hc9 d3 d4 d7 (fun z hz => absurd (hout z hz) id) (by show 2 + 3 < _; omega) (by rw [pm_cat8]; show _ + (13 * (2 + 1) + 42) ≤ _; omega) hc hs hlocks ?_ (by rw [← hA]; exact hr.2.2.1.2.2) hmc hms
        · intro w hw
          cases hg : goodWord w with
          | true => exact hTB _ (hwt _ (List.mem_cons_of_mem _ (List.mem_cons_of_mem _ (List.mem_filter.mpr ⟨hw, hg⟩))))
          | false =>
            rcases vx_split hw with h9 | ⟨h9, h10⟩
            · subst h9
              cases hg
            · exact (by
                have hk := List.all_eq_true.mp pmTw_kind w (List.mem_flatMap.mpr ⟨x.2, List.mem_range.mpr o1, List.mem_filter.mpr ⟨h9, by rw [h10, hg]; rfl⟩⟩)
                have hz := hEn.2.1.2.2 w (List.mem_flatMap.mpr ⟨x.2, List.mem_range.mpr o1, List.mem_filter.mpr ⟨h9, by rw [h10, hg]; rfl⟩⟩)
                cases w with
                | castable C T => exact va_Nw.use rfl hz
                | declares x => exact va_Nw.use rfl hz
                | _ => cases hk)
        · intro t hvm hz hq
          obtain ⟨g1, g2⟩ := pm_kept hr hq hz
          refine ⟨x.2, ad, hr9.1, rfl, hx, by rw [hr9.2]; exact hl0, ?_, g2.F rfl |> fun z => by rw [← hA]; exact z⟩
          rw [hr9.2, ← hA]
          exact ⟨g1, hr.2.1, hv.2.2, hl9⟩
      · cases hth
    · cases hth
  · cases hth
end PMF
