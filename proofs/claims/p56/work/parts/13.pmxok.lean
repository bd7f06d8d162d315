/-! PM: steps on what stands outside -/
section PMX
variable {p : Program} {l : Launch} {e : Env} {R : Room} {s : State} {m : MethodId} {args : Array Value} {below : List Frame} {meth : Method} {c0 : Code} {H : Heap} {locs : List Loc} {cells slots : Nat} {Q : State → Prop}
variable {cc : ByteArray} {ls : Array Slot} {A : Nat → Prop} {D : va_G} {nL : Nat} {ad : Nat → Nat} {cA : Nat → ClassId} {pc : Nat} {L : List (Option Value)} {S : pmS} {st rest : List Value} {E : pmEv0}
theorem pm_ldcwS (hexec : p.tables.exec = Jvm.exec) (hb : c0.code = cc) {own tx : String} {index q : Nat} (hown : s.vm.findClass own = some m.cls) (hZ : vk_R own index tx q s) (hdg : decode cc pc = .ok (.ldc_w index, 3))
    (k : W p l e R s m args below meth c0 H locs cells slots Q (F0 m (pc + 3) ls (.ref q :: rest))) : W p l e R s m args below meth c0 H locs cells slots Q (F0 m pc ls rest) := by
  intro T hT X
  obtain ⟨t, a1, b1⟩ := k T hT X
  obtain ⟨k, cf, i, a', hk, hcf, hcp, -, hr, hev'⟩ := Cond.stringRef_spec hown hZ.1
  cases hZ.2.symm.trans hev'
  obtain ⟨k', hk', he⟩ := X.warmed.alike.2.2 _ _ hk
  have hr' : k'.resolved[index]? = some (some (.string q)) := by
    rcases X.warmed.entry hk hk' index with h | ⟨h, -⟩
    · rw [h]; exact hr
    · rw [hr] at h; cases h
  refine ⟨t, ?_, b1⟩
  jvm_step X.here [hexec, hb, hdg, ldc_w.wp_string (e := e) (s := T) (f := F0 m pc ls rest) X.here.top hk' (by rw [he]; exact hcf) hcp hr']
  exact a1
theorem pm_ldcwF (hexec : p.tables.exec = Jvm.exec) (hb : c0.code = cc) {own : String} {index : Nat} {v : UInt32} (hown : s.vm.findClass own = some m.cls) (hconst : (Jvm.Cond.constantFloat own index v).before args s = true) (hdg : decode cc pc = .ok (.ldc_w index, 3))
    (k : W p l e R s m args below meth c0 H locs cells slots Q (F0 m (pc + 3) ls (.float v :: rest))) : W p l e R s m args below meth c0 H locs cells slots Q (F0 m pc ls rest) := by
  intro T hT X
  obtain ⟨t, a1, b1⟩ := k T hT X
  obtain ⟨k, cf, hk, hcf, hcp⟩ := Cond.constantFloat_spec hown hconst
  obtain ⟨k', hk', he⟩ := X.warmed.alike.2.2 _ _ hk
  refine ⟨t, ?_, b1⟩
  jvm_step X.here [hexec, hb, hdg, ldc_w.wp_float (e := e) (s := T) (f := F0 m pc ls rest) X.here.top hk' (by rw [he]; exact hcf) hcp]
  exact a1
theorem pmW_set1 {G : pmG} {μ : pmM} {f : Nat → Nat → Int32} {q : Nat} {e : Nat ⊕ (Nat × Nat)} (h : G[q]? = some e) (ho : ∀ i, i ≠ q → f i = μ.1 i) : pmW ad cA (G, (f, μ.2)) = (pmW ad cA (G, μ)).set q (ad q, pmE ad cA (f, μ.2) q e) :=
  pmW_set (μ' := (f, μ.2)) h (fun i hi e => pmE_congr (μ := μ) (μ' := (f, μ.2)) (ho i hi) rfl rfl rfl e)
theorem pm_off {b q : Nat} (h : b ≤ q) : ∃ j : Nat, q = b + j := ⟨q - b, by omega⟩
theorem pm_offl {b j n : Nat} (h : b + j - b < n) : j < n := by omega
theorem pm_ofe (b j : Nat) : b + j - b = j := by omega
theorem pm_ofs (j : Nat) : 100000 + j + 100000 = 200000 + j := by omega
/-- a String constant's entry is the class's own -/
def pmOx (own : String) (i : Instr) (x : Nat × Nat) : Bool := match i with
  | .ldc k => x.1 != 30 || (decide ((pmStT x.2).1 = own) && decide ((pmStT x.2).2.1 = k))
  | .ldc_w k => x.1 != 30 || (decide ((pmStT x.2).1 = own) && decide ((pmStT x.2).2.1 = k))
  | _ => true
theorem pm_cat8 (ad : Nat → Nat) (r : List Value) : ((r.map (pmRe ad)).map fun v => v.category) = r.map fun v => v.category := by
  rw [List.map_map]
  exact List.map_congr_left fun v _ => pmRe_cat ad v
theorem pmRe_sp {ad : Nat → Nat} {v : Value} (h : v.isRef = true → ∃ i, v = .ref i) : True := trivial
set_option maxRecDepth 100000 in
theorem pm_xs_ok {b n : Nat} {i : Instr} {x : Nat × Nat} {c' : pmC} {ps : List Prop} {own : String} (hdg : decode cc pc = .ok (i, pmIl i n)) (h : pmXs E i x (pc, L, st, S) = some (c', ps)) (hp : ∀ P ∈ ps, P) (hws : ∀ w ∈ pmWs own i x, w.before args s = true) (hox : pmOx own i x = true) (hown : s.vm.findClass own = some m.cls) (hK : va_K D pmCl (pmTs cA) s) (hEn : pmEn E ad A s s.heap) (hml : c0.maxLocals = nL) (hRf : 1 ≤ R.frames) (hRl : 100 ≤ R.locals) (hexec : p.tables.exec = Jvm.exec) (hb : c0.code = cc) (hr : pmRel D A s.heap nL ad cA (pc, L, st, S) H locs ls) (kk : pmKk p l e R s m args below meth c0 cells slots Q D A s.heap nL ad cA c') : W p l e R s m args below meth c0 H locs cells slots Q (F0 m pc ls (st.map (pmRe ad))) := by
  obtain ⟨e1, e2, ⟨e3, e4⟩, ⟨e5, e6⟩, ⟨e7, e8⟩, e9, ⟨e10, e11, e12⟩, e13, -⟩ := hEn
  have hS := hr.2.2.1
  have hls : c0.maxLocals = ls.size := hml.trans hr.2.2.2.1.1.symm
  unfold pmXs at h
  split at h
  · rename_i k
    dsimp only [pmWs] at hws
    split at h
    · rename_i hx
      cases h
      rw [if_pos hx] at hws
      exact va_gets hexec hb e5 hS hown (hws _ List.mem_cons_self) (fun _ h => h) hdg (kk _ _ _ hr)
    · rename_i hx0
      split at h
      · rename_i hx
        cases h
        rw [if_neg hx0, if_pos hx] at hws
        exact va_gets hexec hb e7 hS hown (hws _ List.mem_cons_self) (fun _ h => h) hdg (kk _ _ _ hr)
      · rename_i hx1
        split at h
        · rename_i hx
          cases h
          rw [if_neg hx0, if_neg hx1, if_pos hx] at hws
          exact va_gets hexec hb e8 hS hown (hws _ List.mem_cons_self) (fun _ h => h) hdg (kk _ _ _ hr)
        · cases h
  · rename_i k
    split at h
    · rename_i hx
      split at h
      · rename_i hk
        cases h
        have hq := (e9 _ hk).1
        simp only [pmOx, hx, bne_self_eq_false, Bool.false_or, Bool.and_eq_true, decide_eq_true_eq] at hox
        rw [hox.1, hox.2] at hq
        exact va_ldcS hexec hb hown hq hdg (kk _ _ _ hr)
      · cases h
    · rename_i hx0
      split at h
      · rename_i hx
        cases h
        dsimp only [pmWs] at hws
        rw [if_pos hx] at hws
        exact lv_ldc hexec hb hown (hws _ List.mem_cons_self) hdg (kk _ _ _ hr)
      · cases h
  · rename_i k
    split at h
    · rename_i hx
      split at h
      · rename_i hk
        cases h
        have hq := (e9 _ hk).1
        simp only [pmOx, hx, bne_self_eq_false, Bool.false_or, Bool.and_eq_true, decide_eq_true_eq] at hox
        rw [hox.1, hox.2] at hq
        exact pm_ldcwS hexec hb hown hq hdg (kk _ _ _ hr)
      · cases h
    · rename_i hx0
      split at h
      · rename_i hx
        cases h
        dsimp only [pmWs] at hws
        rw [if_pos hx] at hws
        exact lv_ldcw hexec hb hown (hws _ List.mem_cons_self) hdg (kk _ _ _ hr)
      · rename_i hx1
        split at h
        · rename_i hx
          cases h
          dsimp only [pmWs] at hws
          rw [if_neg hx1, if_pos hx] at hws
          exact pm_ldcwF hexec hb hown (hws _ List.mem_cons_self) hdg (kk _ _ _ hr)
        · cases h
  · rename_i k
    dsimp only [pmWs] at hws
    split at h
    · rename_i hx
      cases h
      rw [if_pos hx] at hws
      exact lv_ldc2 hexec hb hown (hws _ List.mem_cons_self) hdg (kk _ _ _ hr)
    · rename_i hx0
      split at h
      · rename_i hx
        cases h
        rw [if_neg hx0] at hws
        exact lv_ldc2d hexec hb hown (hws _ List.mem_cons_self) hdg (kk _ _ _ hr)
      · cases h
  · rename_i k
    dsimp only [pmWs] at hws
    split at h
    · rename_i q r hs
      dsimp only at hs
      subst hs
      split at h
      · rename_i hq
        obtain ⟨j, rfl⟩ := pm_off hq.1
        have hj : j < pmSt0.length := pm_offl hq.2
        obtain ⟨g1, g2, g3, g4, g5⟩ := e9 j hj
        split at h
        · rename_i hx
          cases h
          rw [if_neg (by omega), if_pos hx] at hws
          have k1 := kk _ _ _ hr
          rw [pm_ofs] at k1
          exact vk_getf hexec hb g4 hS hown (hws _ List.mem_cons_self) (fun _ h => h) hdg k1
        · rename_i hx0
          split at h
          · rename_i hx
            cases h
            rw [if_neg (by omega), if_neg hx0] at hws
            exact vk_getf hexec hb g3 hS hown (hws _ List.mem_cons_self) (fun _ h => h) hdg (kk _ _ _ hr)
          · cases h
      · cases h
    · cases h
  · split at h
    · rename_i q r hs
      dsimp only at hs
      subst hs
      split at h
      · rename_i hq
        subst hq
        cases h
        exact va_slen hexec hb e10 e12 e11 hS hdg (kk _ _ _ hr)
      · split at h
        · rename_i hq
          subst hq
          cases h
          exact va_tlen hexec hb e6 hS rfl hdg (kk _ _ _ hr)
        · split at h
          · rename_i hq
            cases h
            obtain ⟨j, rfl⟩ := pm_off hq.1
            have hj : j < pmSt0.length := pm_offl hq.2
            have e20 := pm_ofe 200000 j
            have k1 := kk _ _ _ hr
            rw [e20] at k1
            exact va_tlen hexec hb (e9 j hj).2.2.2.2 hS rfl hdg k1
          · cases h
    · cases h
  · split at h
    · rename_i j q r hs
      dsimp only at hs
      subst hs
      split at h
      · rename_i hq
        subst hq
        cases h
        exact va_sld hexec hb e10 e12 e11 hS (hp _ List.mem_cons_self) hdg (kk _ _ _ hr)
      · cases h
    · cases h
  · split at h
    · rename_i j q r hs
      dsimp only at hs
      subst hs
      split at h
      · rename_i hq
        subst hq
        cases h
        exact va_tc hexec hb e6 hS (hp _ List.mem_cons_self) rfl hdg (kk _ _ _ hr)
      · cases h
    · cases h
  · split at h
    · rename_i j q r hs
      dsimp only at hs
      subst hs
      split at h
      · rename_i hq
        cases h
        obtain ⟨z, rfl⟩ := pm_off hq.1
        have hj : z < pmSt0.length := pm_offl hq.2
        have e20 := pm_ofe 200000 z
        have k1 := kk _ _ _ hr
        have hin := hp _ List.mem_cons_self
        rw [e20] at k1 hin
        exact va_tb hexec hb (e9 z hj).2.2.2.2 hS hin rfl hdg k1
      · cases h
    · cases h
  · rename_i k
    split at h
    · rename_i n9 dp q sp q0 r hs
      dsimp only at hs
      subst hs
      split at h
      · rename_i hx
        split at h
        · rename_i a0 a1 h0 h1
          split at h
          · rename_i ht
            obtain ⟨t0, t1, t2⟩ := ht
            cases h
            dsimp only [pmWs] at hws
            rw [if_pos hx] at hws
            obtain ⟨a01, a02⟩ := a0
            obtain ⟨a11, a12⟩ := a1
            dsimp only at t0 t1 hp
            subst t0 t1
            have hn9 : nativeFrameWords "java/lang/System" "arraycopy" 5 ≤ 60 := by decide
            have hE : pmW ad cA (S.1, ((fun i => if i = q then va_cpy (S.2.1 q0) (S.2.1 q) sp.toNatClampNeg dp.toNatClampNeg n9.toNatClampNeg else S.2.1 i), S.2.2)) = (pmW ad cA S).set q (ad q, .inl (cA 0, a12, .inl (va_cpy (S.2.1 q0) (S.2.1 q) sp.toNatClampNeg dp.toNatClampNeg n9.toNatClampNeg))) := by
              rw [pmW_set1 (ad := ad) (cA := cA) (G := S.1) (μ := S.2) h1 (fun i hi => if_neg hi)]
              unfold pmE pmPay
              simp
            refine va_copyi hexec hb hls hown (hws _ List.mem_cons_self) (hws _ (List.mem_cons_of_mem _ List.mem_cons_self)) (hws _ (List.mem_cons_of_mem _ (List.mem_cons_of_mem _ List.mem_cons_self))) (hws _ (List.mem_cons_of_mem _ (List.mem_cons_of_mem _ (List.mem_cons_of_mem _ List.mem_cons_self)))) hK hr.1 hr.2.1 hS q0 q 0 0 (pmW_at h0) (pmW_at h1) rfl rfl rfl (hp _ List.mem_cons_self) (hp _ (List.mem_cons_of_mem _ List.mem_cons_self)) (hp _ (List.mem_cons_of_mem _ (List.mem_cons_of_mem _ List.mem_cons_self))) (hp _ (List.mem_cons_of_mem _ (List.mem_cons_of_mem _ (List.mem_cons_of_mem _ List.mem_cons_self)))) (hp _ (List.mem_cons_of_mem _ (List.mem_cons_of_mem _ (List.mem_cons_of_mem _ (List.mem_cons_of_mem _ List.mem_cons_self))))) (fun _ _ => rfl) hRf (by rw [pm_cat8]; omega) hdg (fun H1 locs1 g1 g2 g3 => ?_)
            have g1 : va_P D pmCl ((pmW ad cA S).set q (ad q, .inl (cA 0, a12, .inl (va_cpy (S.2.1 q0) (S.2.1 q) sp.toNatClampNeg dp.toNatClampNeg n9.toNatClampNeg)))) H1 := g1
            have g2 : va_D A ((pmW ad cA S).set q (ad q, .inl (cA 0, a12, .inl (va_cpy (S.2.1 q0) (S.2.1 q) sp.toNatClampNeg dp.toNatClampNeg n9.toNatClampNeg)))) := g2
            rw [← hE] at g1 g2
            exact kk _ _ _ ⟨g1, g2, g3, hr.2.2.2⟩
          · cases h
        · cases h
      · cases h
    · rename_i b9 r hs
      dsimp only at hs
      subst hs
      split at h
      · rename_i hx
        cases h
        dsimp only [pmWs] at hws
        rw [if_neg (by omega), if_pos hx.1] at hws
        exact vn_d2l hexec hb hls hown (hws _ List.mem_cons_self) (hws _ (List.mem_cons_of_mem _ List.mem_cons_self)) (hws _ (List.mem_cons_of_mem _ (List.mem_cons_of_mem _ List.mem_cons_self))) (hws _ (List.mem_cons_of_mem _ (List.mem_cons_of_mem _ (List.mem_cons_of_mem _ List.mem_cons_self)))) hRf (by rw [pm_cat8]; have := hx.2; omega) hdg (kk _ _ _ hr)
      · cases h
    · rename_i b9 r hs
      dsimp only at hs
      subst hs
      split at h
      · rename_i hx
        cases h
        dsimp only [pmWs] at hws
        rw [if_neg (by omega), if_neg (by omega), if_pos hx.1] at hws
        exact vn_f2i hexec hb hls hown (hws _ List.mem_cons_self) (hws _ (List.mem_cons_of_mem _ List.mem_cons_self)) (hws _ (List.mem_cons_of_mem _ (List.mem_cons_of_mem _ List.mem_cons_self))) (hws _ (List.mem_cons_of_mem _ (List.mem_cons_of_mem _ (List.mem_cons_of_mem _ List.mem_cons_self)))) hRf (by rw [pm_cat8]; have := hx.2; omega) hdg (kk _ _ _ hr)
      · cases h
    · cases h
  · rename_i k
    split at h
    · rename_i q r hs
      dsimp only at hs
      subst hs
      split at h
      · rename_i hx
        cases h
        dsimp only [pmWs] at hws
        rw [if_pos hx.1] at hws
        exact W.objInit hexec hb hown (hws _ List.mem_cons_self) (hws _ (List.mem_cons_of_mem _ List.mem_cons_self)) (hws _ (List.mem_cons_of_mem _ (List.mem_cons_of_mem _ List.mem_cons_self))) rfl hls.symm rfl hdg hRf (by rw [pm_cat8]; have := hx.2; show 2 * 0 + _ + 12 ≤ _; omega) (kk _ _ _ hr)
      · cases h
    · cases h
  · cases h
    exact lv_null hexec hb hdg (kk _ _ _ hr)
  · cases h
set_option maxRecDepth 100000 in
theorem pm_xt_ok {b n : Nat} {i : Instr} {x : Nat × Nat} {c' : pmC} {ps : List Prop} {own : String} (hdg : decode cc pc = .ok (i, pmIl i n)) (h : pmXt i x (pc, L, st, S) = some (c', ps)) (hp : ∀ P ∈ ps, P) (hws : ∀ w ∈ pmWs own i x, w.before args s = true) (hown : s.vm.findClass own = some m.cls) (hK : va_K D pmCl (pmTs cA) s) (hEn : pmEn E ad A s s.heap) (hml : c0.maxLocals = nL) (hRf : 1 ≤ R.frames) (hRl : 100 ≤ R.locals) (hexec : p.tables.exec = Jvm.exec) (hb : c0.code = cc) (hr : pmRel D A s.heap nL ad cA (pc, L, st, S) H locs ls) (kk : pmKk p l e R s m args below meth c0 cells slots Q D A s.heap nL ad cA c') : W p l e R s m args below meth c0 H locs cells slots Q (F0 m pc ls (st.map (pmRe ad))) := by
  obtain ⟨e1, e2, ⟨e3, e4⟩, ⟨e5, e6⟩, ⟨e7, e8⟩, e9, ⟨e10, e11, e12⟩, e13, ⟨e15, e16⟩, e17, e18⟩ := hEn
  have hS := hr.2.2.1
  have hls : c0.maxLocals = ls.size := hml.trans hr.2.2.2.1.1.symm
  unfold pmXt at h
  split at h
  · rename_i k
    dsimp only [pmWs] at hws
    split at h
    · rename_i hx
      cases h
      rw [if_neg (by omega), if_neg (by omega), if_neg (by omega), if_pos hx] at hws
      exact va_gets hexec hb e15 hS hown (hws _ List.mem_cons_self) (fun _ h => h) hdg (kk _ _ _ hr)
    · rename_i hx0
      split at h
      · rename_i hx
        cases h
        rw [if_neg (by omega), if_neg (by omega), if_neg (by omega), if_neg (by omega)] at hws
        exact va_gets hexec hb e17 hS hown (hws _ List.mem_cons_self) (fun _ h => h) hdg (kk _ _ _ hr)
      · cases h
  · rename_i k
    dsimp only [pmWs] at hws
    split at h
    · rename_i q r hs
      dsimp only at hs
      subst hs
      split at h
      · rename_i ci hq
        split at h
        · rename_i hc
          subst hc
          split at h
          · rename_i hx
            cases h
            rw [if_neg (by omega), if_pos hx] at hws
            refine va_get (D := D) (ci := 9) (C := pmCN 9) (T := pmT 9) (N := pmN 9) (ref := (pmT 9 0).1) hexec hb hws (fun w hw => List.mem_cons_of_mem _ hw) hown hK hr.1 q (pmW_at hq) (pmCl_at (by decide)) 0 (by decide) (hws _ List.mem_cons_self) (fun _ hz => hz) (v := pmRe ad (va_rf (S.2.2.2.1 q 0))) ?_ hdg (kk _ _ _ hr)
            rw [List.getElem?_map, List.getElem?_range (by decide)]
            rfl
          · rename_i hx0
            split at h
            · rename_i hx
              cases h
              rw [if_neg (by omega), if_neg hx0] at hws
              refine va_get (D := D) (ci := 9) (C := pmCN 9) (T := pmT 9) (N := pmN 9) (ref := (pmT 9 1).1) hexec hb hws (fun w hw => List.mem_cons_of_mem _ hw) hown hK hr.1 q (pmW_at hq) (pmCl_at (by decide)) 1 (by decide) (hws _ List.mem_cons_self) (fun _ hz => hz) (v := pmRe ad (.int (S.2.1 q 1))) ?_ hdg (kk _ _ _ hr)
              rw [List.getElem?_map, List.getElem?_range (by decide)]
              rfl
            · cases h
        · cases h
      · cases h
    · cases h
  · split at h
    · rename_i j q r hs
      dsimp only at hs
      subst hs
      split at h
      · rename_i hq
        subst hq
        cases h
        exact va_tb hexec hb e16 hS (hp _ List.mem_cons_self) rfl hdg (kk _ _ _ hr)
      · split at h
        · rename_i hq
          subst hq
          cases h
          exact va_tb hexec hb e18 hS (hp _ List.mem_cons_self) rfl hdg (kk _ _ _ hr)
        · cases h
    · cases h
  · rename_i k
    split at h
    · rename_i n9 dp q sp q0 r hs
      dsimp only at hs
      subst hs
      split at h
      · rename_i hx
        dsimp only [pmWs] at hws
        rw [if_pos hx] at hws
        have hn9 : nativeFrameWords "java/lang/System" "arraycopy" 5 ≤ 60 := by decide
        split at h
        · rename_i a1 h1
          split at h
          · rename_i ht
            obtain ⟨t1, t2⟩ := ht
            obtain ⟨a11, a12⟩ := a1
            dsimp only at t1
            subst t1
            split at h
            · rename_i hq0
              cases h
              obtain ⟨z, rfl⟩ := pm_off hq0.1
              have hz : z < pmSt0.length := pm_offl hq0.2
              rw [pm_ofe 200000 z] at hp
              dsimp only at hp ⊢
              rw [pm_ofe 200000 z] at kk
              have hE : pmW ad cA (S.1, ((fun i => if i = q then va_cpy (fun j => (pmStB z).getD j 0) (S.2.1 q) sp.toNatClampNeg dp.toNatClampNeg n9.toNatClampNeg else S.2.1 i), S.2.2)) = (pmW ad cA S).set q (ad q, .inl (cA 1, a12, .inl (va_cpy (fun j => (pmStB z).getD j 0) (S.2.1 q) sp.toNatClampNeg dp.toNatClampNeg n9.toNatClampNeg))) := by
                rw [pmW_set1 (ad := ad) (cA := cA) (G := S.1) (μ := S.2) h1 (fun i hi => if_neg hi)]
                unfold pmE pmPay
                simp
              refine vk_copyt hexec hb hls hown (hws _ List.mem_cons_self) (hws _ (List.mem_cons_of_mem _ List.mem_cons_self)) (hws _ (List.mem_cons_of_mem _ (List.mem_cons_of_mem _ List.mem_cons_self))) (hws _ (List.mem_cons_of_mem _ (List.mem_cons_of_mem _ (List.mem_cons_of_mem _ List.mem_cons_self)))) hK hr.1 hr.2.1 hS (e9 z hz).2.2.2.2 q 1 (pmW_at h1) rfl (hp _ List.mem_cons_self) (hp _ (List.mem_cons_of_mem _ List.mem_cons_self)) (hp _ (List.mem_cons_of_mem _ (List.mem_cons_of_mem _ List.mem_cons_self))) (hp _ (List.mem_cons_of_mem _ (List.mem_cons_of_mem _ (List.mem_cons_of_mem _ List.mem_cons_self)))) (hp _ (List.mem_cons_of_mem _ (List.mem_cons_of_mem _ (List.mem_cons_of_mem _ (List.mem_cons_of_mem _ List.mem_cons_self))))) (hp _ (List.mem_cons_of_mem _ (List.mem_cons_of_mem _ (List.mem_cons_of_mem _ (List.mem_cons_of_mem _ (List.mem_cons_of_mem _ List.mem_cons_self)))))) hRf (by rw [pm_cat8]; omega) hdg (fun H1 locs1 g1 g2 g3 => ?_)
              have g1 : va_P D pmCl ((pmW ad cA S).set q (ad q, .inl (cA 1, a12, .inl (va_cpy (fun j => (pmStB z).getD j 0) (S.2.1 q) sp.toNatClampNeg dp.toNatClampNeg n9.toNatClampNeg)))) H1 := g1
              have g2 : va_D A ((pmW ad cA S).set q (ad q, .inl (cA 1, a12, .inl (va_cpy (fun j => (pmStB z).getD j 0) (S.2.1 q) sp.toNatClampNeg dp.toNatClampNeg n9.toNatClampNeg)))) := g2
              rw [← hE] at g1 g2
              exact kk _ _ _ ⟨g1, g2, g3, hr.2.2.2⟩
            · split at h
              · rename_i a0 h0
                split at h
                · rename_i t0
                  cases h
                  obtain ⟨a01, a02⟩ := a0
                  dsimp only at t0 hp
                  subst t0
                  have hE : pmW ad cA (S.1, ((fun i => if i = q then va_cpy (S.2.1 q0) (S.2.1 q) sp.toNatClampNeg dp.toNatClampNeg n9.toNatClampNeg else S.2.1 i), S.2.2)) = (pmW ad cA S).set q (ad q, .inl (cA 1, a12, .inl (va_cpy (S.2.1 q0) (S.2.1 q) sp.toNatClampNeg dp.toNatClampNeg n9.toNatClampNeg))) := by
                    rw [pmW_set1 (ad := ad) (cA := cA) (G := S.1) (μ := S.2) h1 (fun i hi => if_neg hi)]
                    unfold pmE pmPay
                    simp
                  refine va_copyi hexec hb hls hown (hws _ List.mem_cons_self) (hws _ (List.mem_cons_of_mem _ List.mem_cons_self)) (hws _ (List.mem_cons_of_mem _ (List.mem_cons_of_mem _ List.mem_cons_self))) (hws _ (List.mem_cons_of_mem _ (List.mem_cons_of_mem _ (List.mem_cons_of_mem _ List.mem_cons_self)))) hK hr.1 hr.2.1 hS q0 q 1 1 (pmW_at h0) (pmW_at h1) rfl rfl rfl (hp _ List.mem_cons_self) (hp _ (List.mem_cons_of_mem _ List.mem_cons_self)) (hp _ (List.mem_cons_of_mem _ (List.mem_cons_of_mem _ List.mem_cons_self))) (hp _ (List.mem_cons_of_mem _ (List.mem_cons_of_mem _ (List.mem_cons_of_mem _ List.mem_cons_self)))) (hp _ (List.mem_cons_of_mem _ (List.mem_cons_of_mem _ (List.mem_cons_of_mem _ (List.mem_cons_of_mem _ List.mem_cons_self))))) (hp _ (List.mem_cons_of_mem _ (List.mem_cons_of_mem _ (List.mem_cons_of_mem _ (List.mem_cons_of_mem _ (List.mem_cons_of_mem _ List.mem_cons_self)))))) hRf (by rw [pm_cat8]; omega) hdg (fun H1 locs1 g1 g2 g3 => ?_)
                  have g1 : va_P D pmCl ((pmW ad cA S).set q (ad q, .inl (cA 1, a12, .inl (va_cpy (S.2.1 q0) (S.2.1 q) sp.toNatClampNeg dp.toNatClampNeg n9.toNatClampNeg)))) H1 := g1
                  have g2 : va_D A ((pmW ad cA S).set q (ad q, .inl (cA 1, a12, .inl (va_cpy (S.2.1 q0) (S.2.1 q) sp.toNatClampNeg dp.toNatClampNeg n9.toNatClampNeg)))) := g2
                  rw [← hE] at g1 g2
                  exact kk _ _ _ ⟨g1, g2, g3, hr.2.2.2⟩
                · cases h
              · cases h
          · cases h
        · cases h
      · cases h
    · cases h
  · cases h
end PMX
