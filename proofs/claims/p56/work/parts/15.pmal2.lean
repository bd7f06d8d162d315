/-! PM: makes are the machine's -/
def pmTyOk (t : FieldType) : Bool := match t with | .int => true | .long => true | .boolean => true | .byte => true | .object _ => true | .array _ => true | _ => false
theorem pmTy_ok : ∀ c, c < 11 → ∀ k, k < pmN c → pmTyOk (pmTy c k) = true := by decide +kernel
theorem pmRd_z {t : FieldType} (h : pmTyOk t = true) (q k : Nat) (μ : pmM) : pmRd t (pmZ q μ) q k = defaultValue t := by
  cases t <;> first | (simp [pmRd, pmZ, defaultValue, va_rf]; done) | (simp [pmTyOk] at h)
theorem pm_dflt_re (ad : Nat → Nat) (t : FieldType) : pmRe ad (defaultValue t) = defaultValue t := by cases t <;> rfl
/-- a new array's kind is the entry's -/
def pmOa (i : Instr) (x : Nat × Nat) : Bool := match i with
  | .newarray t => decide (newarray.typeOf t = pmAt x.2)
  | _ => true
section PMA
variable {p : Program} {l : Launch} {e : Env} {R : Room} {s : State} {m : MethodId} {args : Array Value} {below : List Frame} {meth : Method} {c0 : Code} {H H0 : Heap} {locs : List Loc} {cells slots : Nat} {Q : State → Prop}
variable {cc : ByteArray} {ls : Array Slot} {A : Nat → Prop} {D : va_G} {nL : Nat} {ad : Nat → Nat} {cA : Nat → ClassId} {pc : Nat} {L : List (Option Value)} {S : pmS} {st rest : List Value}
/-- what goes on behind a make: over some addresses that agree with the old ones -/
def pmKa (p : Program) (l : Launch) (e : Env) (R : Room) (s : State) (m : MethodId) (args : Array Value) (below : List Frame) (meth : Method) (c0 : Code) (cells slots : Nat) (Q : State → Prop) (D : va_G) (A : Nat → Prop) (H0 : Heap) (nL : Nat) (ad : Nat → Nat) (n : Nat) (cA : Nat → ClassId) (c : pmC) : Prop :=
  ∀ (ad' : Nat → Nat), pmEx ad ad' n → pmKk p l e R s m args below meth c0 cells slots Q D A H0 nL ad' cA c
theorem pmMk_st {e0 : Nat ⊕ (Nat × Nat)} {n q : Nat} {r : List Value} (hr : ∀ w ∈ r, w ∈ st) (hlen : S.1.length < 90000) (hv : pmVd (pc, L, st, S)) : (pmMk e0 n r (pc, L, st, S)).2.2.1.map (pmRe (fun i => if i = S.1.length then q else ad i)) = .ref q :: r.map (pmRe ad) := by
  have hx : pmEx ad (fun i => if i = S.1.length then q else ad i) S.1.length := by
    intro i hi
    show (if i = S.1.length then q else ad i) = ad i
    rw [if_neg (by omega)]
  show Value.ref (if S.1.length = S.1.length then q else ad S.1.length) :: r.map (pmRe (fun i => if i = S.1.length then q else ad i)) = _
  rw [if_pos rfl, hx.map (fun v h => hv.2.1 v (hr v h))]
theorem pm_al_ok {i : Instr} {n : Nat} {x : Nat × Nat} {c' : pmC} {a b : Nat} {own : String} (hdg : decode cc pc = .ok (i, pmIl i n)) (h : pmAl i x (pc, L, st, S) = some (c', a, b)) (hws : ∀ w ∈ pmWs own i x, w.before args s = true) (hoa : pmOa i x = true) (hao : va_AO RX6 s) (hown : s.vm.findClass own = some m.cls) (hK : va_K D pmCl (pmTs cA) s) (hA : ∀ q, H0.size ≤ q → A q) (hc : cells + a ≤ R.cells) (hs : slots + b ≤ R.slots) (hv : pmVd (pc, L, st, S)) (hexec : p.tables.exec = Jvm.exec) (hb : c0.code = cc) (hr : pmRel D A H0 nL ad cA (pc, L, st, S) H locs ls) (kk : pmKa p l e R s m args below meth c0 (cells + a) (slots + b) Q D A H0 nL ad S.1.length cA c') : W p l e R s m args below meth c0 H locs cells slots Q (F0 m pc ls (st.map (pmRe ad))) := by
  unfold pmAl at h
  split at h
  · rename_i hlen
    split at h
    · rename_i k
      split at h
      · rename_i hx
        cases h
        dsimp only [pmWs] at hws
        rw [if_pos hx.1] at hws
        refine va_new (ci := x.2) (C := pmCN x.2) (T := pmT x.2) (N := pmN x.2) (fs := (List.range (pmN x.2)).map (fun k => defaultValue (pmTy x.2 k))) hexec hb hws (fun w hw => List.mem_append_right _ hw) (pmTy x.2) (pmCl_ty hx.2) hown (hws _ (List.mem_append_left _ List.mem_cons_self)) (hws _ (List.mem_append_left _ (List.mem_cons_of_mem _ List.mem_cons_self))) (hws _ (List.mem_append_left _ (List.mem_cons_of_mem _ (List.mem_cons_of_mem _ List.mem_cons_self)))) hK hr.1 hr.2.1 hr.2.2.1 hA (pmCl_at hx.2) ?_ hc hs hdg (fun q H1 g1 g2 g3 => ?_)
        · intro j hj
          unfold vp_V
          rw [List.getD_eq_getElem?_getD, List.getElem?_map, List.getElem?_range hj]
          rfl
        · have he : pmE (fun i => if i = S.1.length then q else ad i) cA (pmZ S.1.length S.2) S.1.length (.inl x.2) = .inr (x.2, (List.range (pmN x.2)).map (fun k => defaultValue (pmTy x.2 k))) := by
            have e1 : (List.range (pmN x.2)).map (fun k => pmRe (fun i => if i = S.1.length then q else ad i) (pmRd (pmTy x.2 k) (pmZ S.1.length S.2) S.1.length k)) = (List.range (pmN x.2)).map (fun k => defaultValue (pmTy x.2 k)) := by
              refine List.map_congr_left fun k hk => ?_
              rw [pmRd_z (pmTy_ok _ hx.2 _ (List.mem_range.mp hk)), pm_dflt_re]
            exact congrArg (fun z => Sum.inr (x.2, z)) e1
          obtain ⟨r1, r2⟩ := pmMk_rel (n := 3) (r := st) hv hr hlen he g1 g2 g3
          have k1 := kk _ r2 _ _ _ r1
          rw [pmMk_st (fun _ h => h) hlen hv] at k1
          exact k1
      · cases h
    · rename_i ty
      split at h
      · rename_i n9 r hs9
        dsimp only at hs9
        subst hs9
        split at h
        · rename_i hx
          cases h
          dsimp only [pmWs] at hws
          have hty : newarray.typeOf ty = pmAt x.2 := by simpa [pmOa] using hoa
          have hN : n9.toNatClampNeg ≤ 10000 := hx.2.2.2
          have key : ∀ (a0 : vp_A), (∀ cA : ClassId, vp_cell cA a0 = arrV cA n9.toNatClampNeg (fun _ => defaultValue (pmAt x.2))) → (∀ q, pmE (fun i => if i = S.1.length then q else ad i) cA (pmZ S.1.length S.2) S.1.length (.inr (x.2, n9.toNatClampNeg)) = .inl (cA x.2, a0)) → n9.toNatClampNeg * componentBytes (pmAt x.2) ≤ 536870912 → (pmAt x.2).toString = (pmAt x.2).toString → (∀ cB : ClassId, va_RA s cB (pmAt x.2) → cB = cA x.2) → W p l e R s m args below meth c0 H locs cells slots Q (F0 m pc ls ((Value.int n9 :: r).map (pmRe ad))) := by
            intro a0 h1 h2 h3 _ h5
            refine va_newa (a0 := a0) hexec hb (by rw [hty]; exact hws _ List.mem_cons_self) hty hK hr.1 hr.2.1 hr.2.2.1 hA h1 hx.2.2.1 rfl h3 hc hs hdg (fun q cB H1 gK g1 g2 g3 => ?_)
            have hB : cB = cA x.2 := h5 cB (gK.2 5 (cB, pmAt x.2) rfl).2
            subst hB
            obtain ⟨r1, r2⟩ := pmMk_rel (n := 2) (r := r) hv hr hlen (h2 q) g1 g2 g3
            have k1 := kk _ r2 _ _ _ r1
            rw [pmMk_st pm_in1 hlen hv] at k1
            exact k1
          have hz : ∀ (t : Nat), (hK.2 t (cA t, pmAt t)) = (hK.2 t (cA t, pmAt t)) := fun _ => rfl
          rcases (show x.2 = 0 ∨ x.2 = 1 ∨ x.2 = 2 ∨ x.2 = 3 by have := hx.2.1; omega) with h9 | h9 | h9 | h9
          · rw [h9] at key
            exact key (n9.toNatClampNeg, .inl (fun _ => 0)) (fun _ => rfl) (fun q => by unfold pmE pmPay pmZ; simp) (by simp [componentBytes, pmAt]; omega) rfl (fun cB hB => by have h0 := (hK.2 0 (cA 0, .int) rfl).2; exact Option.some.inj (hB.symm.trans h0))
          · rw [h9] at key
            exact key (n9.toNatClampNeg, .inl (fun _ => 0)) (fun _ => rfl) (fun q => by unfold pmE pmPay pmZ; simp) (by simp [componentBytes, pmAt]; omega) rfl (fun cB hB => by have h0 := (hK.2 1 (cA 1, .byte) rfl).2; exact Option.some.inj (hB.symm.trans h0))
          · rw [h9] at key
            exact key (n9.toNatClampNeg, .inl (fun _ => 0)) (fun _ => rfl) (fun q => by unfold pmE pmPay pmZ; simp) (by simp [componentBytes, pmAt]; omega) rfl (fun cB hB => by have h0 := (hK.2 2 (cA 2, .char) rfl).2; exact Option.some.inj (hB.symm.trans h0))
          · rw [h9] at key
            exact key (n9.toNatClampNeg, .inl (fun _ => 0)) (fun _ => rfl) (fun q => by unfold pmE pmPay pmZ; simp) (by simp [componentBytes, pmAt]; omega) rfl (fun cB hB => by have h0 := (hK.2 3 (cA 3, .int) rfl).2; exact Option.some.inj (hB.symm.trans h0))
        · cases h
      · cases h
    · rename_i k
      split at h
      · rename_i n9 r hs9
        dsimp only at hs9
        subst hs9
        split at h
        · rename_i hx
          cases h
          dsimp only [pmWs] at hws
          have hN : n9.toNatClampNeg ≤ 10000 := hx.2.2.2
          refine va_newq hexec hb hown (hws _ List.mem_cons_self) hao hK hr.1 hr.2.1 hr.2.2.1 hA hx.2.2.1 rfl (by omega) hc hs hdg (fun q cB H1 gK g1 g2 g3 => ?_)
          have hB : cB = cA 4 := by
            obtain ⟨k1, c1, -, -, -, j1⟩ := (gK.2 5 (cB, .object RX6) rfl).2
            obtain ⟨k2, c2, -, -, -, j2⟩ := (hK.2 4 (cA 4, .object RX6) rfl).2
            exact Option.some.inj (j1.symm.trans j2)
          subst hB
          have he : pmE (fun i => if i = S.1.length then q else ad i) cA (pmZ S.1.length S.2) S.1.length (.inr (4, n9.toNatClampNeg)) = .inl (cA 4, n9.toNatClampNeg, .inr (.inr (.inr (.inr (fun _ => none))))) := by
            unfold pmE pmPay pmZ
            simp
          obtain ⟨r1, r2⟩ := pmMk_rel (n := 3) (r := r) hv hr hlen he g1 g2 g3
          have k1 := kk _ r2 _ _ _ r1
          rw [pmMk_st pm_in1 hlen hv] at k1
          exact k1
        · cases h
      · cases h
    · cases h
  · cases h
end PMA
