/-! PM: a call by its entry's kind -/
section PMD
variable {p : Program} {l : Launch} {e : Env} {R : Room} {s : State} {m : MethodId} {args : Array Value} {below : List Frame} {meth : Method} {c0 : Code} {H H0 : Heap} {locs : List Loc} {cells slots : Nat} {Q : State → Prop}
variable {cc : ByteArray} {ls : Array Slot} {A : Nat → Prop} {D : va_G} {nL : Nat} {ad : Nat → Nat} {cA : Nat → ClassId} {pc : Nat} {L : List (Option Value)} {S : pmS} {st rest : List Value} {Pg : Nat → pmMe} {TB : List Cond} {E : pmEv0}
/-- all words of the list are such as a callee keeps -/
def pmGood (TB : List Cond) : Prop := ∀ w ∈ TB, (w.onTables && w.keeps) = true ∨ ∃ ty, w = .arrayClass ty
theorem pm_hw {t : Nat} (hTB : ∀ w ∈ TB, w.before args s = true) (hG : pmGood TB) (hh : pmHw (Pg t) ∈ TB) : ∀ w ∈ pmHw (Pg t) :: TB, ∀ (a' : Array Value) (U : State), s.WarmedH U.vm → w.before a' U = true := by
  intro w hw a' U hW
  have h1 : w ∈ TB := by
    rcases List.mem_cons.mp hw with rfl | h
    · exact hh
    · exact h
  exact word_at hW (hG w h1) (hTB w h1)
theorem pm_rv {w : Value} {cls : String} (hK : va_K D pmCl (pmTs cA) s) (hP : va_P D pmCl (pmW ad cA S) H) (hS : va_S A s.heap H locs) (hEn : pmEn E ad A s s.heap) (h : pmRv S cls w) : ∃ q, w = .ref q ∧ ∃ cell : Cell, H[ad q]? = some cell ∧ cell.vm.isStatics = false ∧ s.vm.findClass cls = some cell.cls := by
  obtain ⟨q, rfl, h | h⟩ := h
  · obtain ⟨c, h1, h2, h3⟩ := h
    subst h3
    exact ⟨q, rfl, va_recv hK hP (pmCl_at h2) (pmW_at h1)⟩
  · obtain ⟨h1, h2, rfl⟩ := h
    obtain ⟨j, rfl⟩ := pm_off h1
    obtain ⟨cell, g1, g2, g3, -⟩ := ((hEn.2.2.2.2.2.1 j (pm_offl h2)).2.1.kept hS.2.1)
    exact ⟨_, rfl, cell, g1, g2, g3⟩
theorem pm_CB {t d k n : Nat} {own : String} {r : pmR} (hhd : pmHd (Pg t) = []) (hTB : ∀ w ∈ TB, w.before args s = true) (hG : pmGood TB) (hh : pmHw (Pg t) ∈ TB) (hlink : Cond.methodLink own k (pmNm (Pg t)) ∈ TB) (hini : Cond.initialized (pmNm (Pg t)).cls ∈ TB) (hcls : (pmNm (Pg t)).cls ≠ "java/lang/invoke/MethodHandle" ∧ (pmNm (Pg t)).cls ≠ "java/lang/invoke/VarHandle") (hlen : ∀ sig, parseMethodDescriptor (pmNm (Pg t)).desc = some sig → n = sig.parameters.length) (hmx : pmMx (Pg t) ≤ 20) (hRf : 8 + 2 * d + 1 ≤ R.frames) (hRl : 200 + 60 * d + 39 ≤ R.locals) :
    CallB R s args own k (pmNm (Pg t)) (pmBy (Pg t)) (pmMx (Pg t)) (pmRt (Pg t)) (pmHw (Pg t) :: TB) (pmRm d r) r.2.2.1 r.2.2.2 n := by
  have hc : pmHw (Pg t) = .code (pmNm (Pg t)) (pmBy (Pg t)) (pmMx (Pg t)) (pmRt (Pg t)) := if_pos hhd
  refine ⟨rfl, rfl, hRf, ?_, pm_hw hTB hG hh, by rw [hc]; exact List.mem_cons_self, by rw [← hc]; exact hTB _ hh, hTB _ hini, hcls, hlen, hTB _ hlink⟩
  show 8 + (pmMx (Pg t) + 11) + (200 + 60 * d) ≤ R.locals
  omega
theorem pm_CN {t d k n : Nat} {own : String} {r : pmR} (hhd : pmHd (Pg t) = []) (hTB : ∀ w ∈ TB, w.before args s = true) (hG : pmGood TB) (hh : pmHw (Pg t) ∈ TB) (hlink : (Cond.methodLinkNest own k (pmNm (Pg t)) "StageBallet").before args s = true) (hini : Cond.initialized (pmNm (Pg t)).cls ∈ TB) (hcls : (pmNm (Pg t)).cls ≠ "java/lang/invoke/MethodHandle" ∧ (pmNm (Pg t)).cls ≠ "java/lang/invoke/VarHandle") (hlen : ∀ sig, parseMethodDescriptor (pmNm (Pg t)).desc = some sig → n = sig.parameters.length) (hmx : pmMx (Pg t) ≤ 20) (hRf : 8 + 2 * d + 1 ≤ R.frames) (hRl : 200 + 60 * d + 39 ≤ R.locals) :
    va_CN R s args own k (pmNm (Pg t)) "StageBallet" (pmBy (Pg t)) (pmMx (Pg t)) (pmRt (Pg t)) (pmHw (Pg t) :: TB) (pmRm d r) r.2.2.1 r.2.2.2 n := by
  have hc : pmHw (Pg t) = .code (pmNm (Pg t)) (pmBy (Pg t)) (pmMx (Pg t)) (pmRt (Pg t)) := if_pos hhd
  refine ⟨⟨rfl, rfl, hRf, ?_, pm_hw hTB hG hh, by rw [hc]; exact List.mem_cons_self⟩, by rw [← hc]; exact hTB _ hh, hTB _ hini, hcls, hlen, hlink⟩
  show 8 + (pmMx (Pg t) + 11) + (200 + 60 * d) ≤ R.locals
  omega
theorem pm_CSW {t d k n : Nat} {own : String} {r : pmR} (hhd : pmHd (Pg t) ≠ []) (hTB : ∀ w ∈ TB, w.before args s = true) (hG : pmGood TB) (hh : pmHw (Pg t) ∈ TB) (hlink : Cond.methodLink own k (pmNm (Pg t)) ∈ TB) (hst : Cond.static (pmNm (Pg t)) ∈ TB) (hini : Cond.initialized (pmNm (Pg t)).cls ∈ TB) (hcls : (pmNm (Pg t)).cls ≠ "java/lang/invoke/MethodHandle" ∧ (pmNm (Pg t)).cls ≠ "java/lang/invoke/VarHandle") (hlen : ∀ sig, parseMethodDescriptor (pmNm (Pg t)).desc = some sig → n = sig.parameters.length) (hmx : pmMx (Pg t) ≤ 20) (hRf : 8 + 2 * d + 1 ≤ R.frames) (hRl : 200 + 60 * d + 39 ≤ R.locals) :
    vx_CSW R s args own k (pmNm (Pg t)) (pmBy (Pg t)) (pmMx (Pg t)) (pmRt (Pg t)) (pmHh (pmHd (Pg t))) (pmHw (Pg t) :: TB) (pmRm d r) r.2.2.1 r.2.2.2 n := by
  have hc : pmHw (Pg t) = .codeWith (pmNm (Pg t)) (pmBy (Pg t)) (pmMx (Pg t)) (pmRt (Pg t)) (pmHh (pmHd (Pg t))) := if_neg hhd
  refine ⟨⟨rfl, rfl, hRf, ?_, pm_hw hTB hG hh, by rw [hc]; exact List.mem_cons_self⟩, by rw [← hc]; exact hTB _ hh, hTB _ hini, hcls, hlen, hTB _ hlink, hTB _ hst⟩
  show 8 + (pmMx (Pg t) + 11) + (200 + 60 * d) ≤ R.locals
  omega
theorem pm_len0 {t n : Nat} (h : (parseMethodDescriptor (pmNm (Pg t)).desc).map (fun d => d.parameters.length) = some n) : ∀ sig, parseMethodDescriptor (pmNm (Pg t)).desc = some sig → n = sig.parameters.length := by
  intro sig hs
  rw [hs] at h
  exact (Option.some.inj h).symm
theorem pm_len1 {t n : Nat} (h : (parseMethodDescriptor (pmNm (Pg t)).desc).map (fun d => d.parameters.length + 1) = some (n + 1)) : ∀ sig, parseMethodDescriptor (pmNm (Pg t)).desc = some sig → n = sig.parameters.length := by
  intro sig hs
  rw [hs] at h
  have h2 : sig.parameters.length + 1 = n + 1 := Option.some.inj h
  omega
theorem pm_CU {t d k n : Nat} {own : String} {r : pmR} (hhd : pmHd (Pg t) = []) (hTB : ∀ w ∈ TB, w.before args s = true) (hG : pmGood TB) (hh : pmHw (Pg t) ∈ TB) (hlink : Cond.methodLink own k (pmNm (Pg t)) ∈ TB) (hsame : Cond.sameMethod (pmNm (Pg t)).cls (pmNm (Pg t)).cls (pmNm (Pg t)).name (pmNm (Pg t)).desc ∈ TB) (hsel : Cond.selects RJ4 (pmNm (Pg t)) (pmNm (Pg t)) ∈ TB) (hinst : Cond.instanceMethod (pmNm (Pg t)) ∈ TB) (hini : Cond.initialized (pmNm (Pg t)).cls ∈ TB) (hcls : (pmNm (Pg t)).cls ≠ "java/lang/invoke/MethodHandle" ∧ (pmNm (Pg t)).cls ≠ "java/lang/invoke/VarHandle") (hlen : ∀ sig, parseMethodDescriptor (pmNm (Pg t)).desc = some sig → n = sig.parameters.length) (hmx : pmMx (Pg t) ≤ 20) (hRf : 8 + 2 * d + 1 ≤ R.frames) (hRl : 200 + 60 * d + 39 ≤ R.locals) :
    va_CU R s args own RJ4 (pmNm (Pg t)).cls k (pmNm (Pg t)) (pmNm (Pg t)) (pmBy (Pg t)) (pmMx (Pg t)) (pmRt (Pg t)) (pmHw (Pg t) :: TB) (pmRm d r) r.2.2.1 r.2.2.2 n := by
  have hc : pmHw (Pg t) = .code (pmNm (Pg t)) (pmBy (Pg t)) (pmMx (Pg t)) (pmRt (Pg t)) := if_pos hhd
  have hcd : (Cond.code (pmNm (Pg t)) (pmBy (Pg t)) (pmMx (Pg t)) (pmRt (Pg t))).before args s = true := by rw [← hc]; exact hTB _ hh
  refine ⟨⟨rfl, rfl, hRf, ?_, pm_hw hTB hG hh, by rw [hc]; exact List.mem_cons_self⟩, hcd, hTB _ hini, hcls, hlen, hTB _ hlink, hTB _ hsame, va_Decl.of (hTB _ hinst) hcd, hTB _ hsel, hTB _ hinst⟩
  show 8 + (pmMx (Pg t) + 11) + (200 + 60 * d) ≤ R.locals
  omega
theorem pm_CS {t d k n : Nat} {own : String} {r : pmR} (hhd : pmHd (Pg t) = []) (hTB : ∀ w ∈ TB, w.before args s = true) (hG : pmGood TB) (hh : pmHw (Pg t) ∈ TB) (hlink : Cond.methodLink own k (pmNm (Pg t)) ∈ TB) (hsame : Cond.sameMethod (pmNm (Pg t)).cls (pmNm (Pg t)).cls (pmNm (Pg t)).name (pmNm (Pg t)).desc ∈ TB) (hsup : Cond.superclass own (pmNm (Pg t)).cls ∈ TB) (hinst : Cond.instanceMethod (pmNm (Pg t)) ∈ TB) (hini : Cond.initialized (pmNm (Pg t)).cls ∈ TB) (hno : (pmNm (Pg t)).name ≠ "<init>") (hlen : ∀ sig, parseMethodDescriptor (pmNm (Pg t)).desc = some sig → n = sig.parameters.length) (hmx : pmMx (Pg t) ≤ 20) (hRf : 8 + 2 * d + 1 ≤ R.frames) (hRl : 200 + 60 * d + 39 ≤ R.locals) :
    va_CS R s args own k (pmNm (Pg t)) (pmBy (Pg t)) (pmMx (Pg t)) (pmRt (Pg t)) (pmHw (Pg t) :: TB) (pmRm d r) r.2.2.1 r.2.2.2 n := by
  have hc : pmHw (Pg t) = .code (pmNm (Pg t)) (pmBy (Pg t)) (pmMx (Pg t)) (pmRt (Pg t)) := if_pos hhd
  have hcd : (Cond.code (pmNm (Pg t)) (pmBy (Pg t)) (pmMx (Pg t)) (pmRt (Pg t))).before args s = true := by rw [← hc]; exact hTB _ hh
  refine ⟨⟨rfl, rfl, hRf, ?_, pm_hw hTB hG hh, by rw [hc]; exact List.mem_cons_self⟩, hTB _ hlink, hTB _ hsame, hTB _ hsup, hTB _ hinst, hTB _ hini, hcd, hno, hlen⟩
  show 8 + (pmMx (Pg t) + 11) + (200 + 60 * d) ≤ R.locals
  omega
theorem pm_call {i : Instr} {n d t : Nat} {x : Nat × Nat} {as : List Value} {r : pmR} {own : String} (hdg : decode cc pc = .ok (i, pmIl i n)) (harg : pmArg Pg i x (pc, L, st, S) = some (t, as, rest)) (hrv : pmRk (pmNm (Pg t)).cls x.1 as S) (hoc : pmOc Pg i x = true)
    (hwc : ∀ w ∈ pmWc Pg own i x, w ∈ TB) (hwn : ∀ w ∈ pmWn Pg own i x, w ∈ pmNs) (hTB : ∀ w ∈ TB, w.before args s = true) (hG : pmGood TB) (hcon : pmCon l Pg TB E D cA d t as S r)
    (hexec : p.tables.exec = Jvm.exec) (hb : c0.code = cc) (hml : c0.maxLocals = nL) (hown : s.vm.findClass own = some m.cls) (hK : va_K D pmCl (pmTs cA) s) (hA : ∀ q, s.heap.size ≤ q → A q) (hEn : pmEn E ad A s s.heap) (hv : pmVd (pc, L, st, S)) (hl9 : S.1.length ≤ 90000)
    (hRf : 8 + 2 * d + 1 ≤ R.frames) (hRl : 200 + 60 * d + 39 ≤ R.locals) (hc : cells + r.2.2.1 ≤ R.cells) (hs : slots + r.2.2.2 ≤ R.slots) (hr : pmRel D A s.heap nL ad cA (pc, L, st, S) H locs ls) :
    (∀ q, va_A (pmW ad cA S) H.size q → A q) ∧ vx_Run p l e R s m args below meth c0 H locs cells slots r.2.2.1 r.2.2.2 (F0 m pc ls (st.map (pmRe ad))) (rest.map (pmRe ad)) (pmQc D cA ad S H.size r (as.map (pmRe ad)).toArray) (pmXC D cA ad S H.size r) (va_A (pmW ad cA S) H.size) := by
  have hS := hr.2.2.1
  have hF : ∀ q, va_A (pmW ad cA S) H.size q → A q := by
    intro q hq
    rcases hq with ⟨k, e9, hk⟩ | hq
    · exact hr.2.1.2 k _ hk
    · exact hA q (Nat.le_trans hS.1 hq)
  refine ⟨hF, ?_⟩
  have hlsz : ls.size = nL := hr.2.2.2.1.1
  unfold pmArg at harg
  cases htg : pmTg i x with
  | none => rw [htg] at harg; cases harg
  | some t9 =>
    rw [htg] at harg
    dsimp only at harg
    split at harg
    · rename_i hst
      obtain ⟨hn, hcat⟩ := hst
      simp only [Option.some.injEq, Prod.mk.injEq] at harg
      obtain ⟨rfl, h7, h8⟩ := harg
      have hst9 : st = as.reverse ++ rest := by
        rw [← h7, ← h8, List.reverse_reverse]
        exact (List.take_append_drop _ _).symm
      have hlen9 : as.length = pmNa (Pg t9) := by
        rw [← h7, List.length_reverse, List.length_take]
        exact Nat.min_eq_left hn
      rw [h8] at hcat
      have hcat9 : 2 * (F0 m pc ls (st.map (pmRe ad))).monitorRoom + ((rest.map (pmRe ad)).map fun v => v.category).sum ≤ 8 := by
        rw [pm_cat8]
        exact lv_room hcat
      have hmap : st.map (pmRe ad) = (as.map (pmRe ad)).reverse ++ rest.map (pmRe ad) := by
        rw [hst9, List.map_append, List.map_reverse]
      have hvas : ∀ v ∈ as, pmVv S.1.length v := by
        intro v hv9
        refine hv.2.1 v ?_
        show v ∈ st
        rw [hst9]
        exact List.mem_append_left _ (List.mem_reverse.mpr hv9)
      have hM := hcon ad H.size hvas
      have hPre := pm_pre (E := E) hK hr.1 hr.2.1 hS hF hEn hv.2.2 hl9 as
      have hS9 : CallFix p m c0 cc nL s args TB own := ⟨hexec, hb, hml, hown, hTB⟩
      unfold pmOc at hoc
      rw [htg] at hoc
      simp only [Bool.and_eq_true, decide_eq_true_eq] at hoc
      obtain ⟨⟨⟨⟨⟨⟨o1, o2⟩, o3⟩, o4⟩, o5⟩, o6⟩, o7⟩ := hoc
      have hnest : ∀ w ∈ pmWn Pg own i x, w.before args s = true := by
        intro w hw
        obtain ⟨a, i9, x9, o, rfl⟩ := pmNs_kind (hwn w hw)
        exact va_Nw.use rfl (hEn.1.2 _ (hwn _ hw))
      unfold pmTg at htg
      split at htg
      · rename_i k
        dsimp only at o4
        simp only [decide_eq_true_eq] at o4
        split at htg
        · rename_i hx
          cases htg
          rcases hx with hx | hx | hx
          · dsimp only [pmWc] at hwc
            rw [if_pos hx] at hwc
            rw [hx] at o6
            simp only [Nat.reduceEqDiff, if_false, decide_eq_true_eq] at o6
            exact vx_runS hS9 hM ⟨pm_CB (n := pmNa (Pg x.2)) o6 hTB hG (hwc _ (by simp)) (hwc _ (by simp)) (hwc _ (by simp)) ⟨o1, o2⟩ (pm_len0 o4) o3 hRf hRl, hTB _ (hwc _ (by simp))⟩ hPre rfl (by rw [List.length_map]; exact hlen9) hlsz (by show st.map (pmRe ad) = _; exact hmap) hcat9 hdg ⟨hc, hs⟩
          · dsimp only [pmWc, pmWn] at hwc hnest
            rw [if_neg (by omega), if_pos hx] at hwc
            rw [if_pos hx] at hnest
            rw [hx] at o6
            simp only [Nat.reduceEqDiff, if_false, decide_eq_true_eq] at o6
            exact vx_runSN hS9 hM ⟨pm_CN (n := pmNa (Pg x.2)) o6 hTB hG (hwc _ (by simp)) (hnest _ (by simp)) (hwc _ (by simp)) ⟨o1, o2⟩ (pm_len0 o4) o3 hRf hRl, hTB _ (hwc _ (by simp)), trivial⟩ hPre rfl (by rw [List.length_map]; exact hlen9) hlsz (by show st.map (pmRe ad) = _; exact hmap) hcat9 hdg ⟨hc, hs⟩
          · dsimp only [pmWc] at hwc
            rw [if_neg (by omega), if_neg (by omega), if_pos hx] at hwc
            rw [if_pos hx] at o6
            simp only [decide_eq_true_eq] at o6
            exact vx_runSX hS9 hM (pm_CSW (n := pmNa (Pg x.2)) o6 hTB hG (hwc _ (by simp)) (hwc _ (by simp)) (hwc _ (by simp)) (hwc _ (by simp)) ⟨o1, o2⟩ (pm_len0 o4) o3 hRf hRl) hPre rfl (by rw [List.length_map]; exact hlen9) hlsz (by show st.map (pmRe ad) = _; exact hmap) hcat9 hdg ⟨hc, hs⟩
        · cases htg
      · rename_i k
        dsimp only at o4
        simp only [decide_eq_true_eq] at o4
        split at htg
        · rename_i hx9
          cases htg
          have hx89 : (x.1 = 2 ∨ x.1 = 3) ∨ x.1 = 9 ∨ x.1 = 10 := by omega
          clear hx9
          rcases hx89 with hx | hx | hx
          · obtain ⟨w, hw1, hw2⟩ := hrv.1 (by omega) (by omega)
            obtain ⟨q9, rfl, hcell⟩ := pm_rv hK hr.1 hS hEn hw2
            obtain ⟨as', rfl⟩ : ∃ as', as = .ref q9 :: as' := by
              cases as with
              | nil => cases hw1
              | cons a as' => cases hw1; exact ⟨as', rfl⟩
            have hn1 : (parseMethodDescriptor (pmNm (Pg x.2)).desc).map (fun d => d.parameters.length + 1) = some ((as'.map (pmRe ad)).length + 1) := by
              rw [o4, ← hlen9, List.length_map]
              rfl
            have hstk : st.map (pmRe ad) = (as'.map (pmRe ad)).reverse ++ .ref (ad q9) :: rest.map (pmRe ad) := by
              rw [hmap]
              simp [pmRe]
            have hPv : PreV s H (pmNm (Pg x.2)).cls (ad q9) (va_Pc (((Value.ref q9) :: as').map (pmRe ad)) (fun U => U.heap.size = H.size ∧ pmBw E D cA ad S U)) (as'.map (pmRe ad)) := ⟨hPre.1, hcell, hPre.2⟩
            rcases hx with hx | hx
            · dsimp only [pmWc] at hwc
              rw [if_pos hx] at hwc
              rw [hx] at o6
              simp only [Nat.reduceEqDiff, if_false, decide_eq_true_eq] at o6
              exact vx_runV hS9 hM ⟨pm_CB (n := (as'.map (pmRe ad)).length) o6 hTB hG (hwc _ (by simp)) (hwc _ (by simp)) (hwc _ (by simp)) ⟨o1, o2⟩ (pm_len1 hn1) o3 hRf hRl, hTB _ (hwc _ (by simp)), hTB _ (hwc _ (by simp))⟩ hPv rfl rfl hlsz hstk hcat9 hdg ⟨hc, hs⟩
            · dsimp only [pmWc, pmWn] at hwc hnest
              rw [if_neg (by omega), if_pos hx] at hwc
              rw [if_pos hx] at hnest
              rw [hx] at o6
              simp only [Nat.reduceEqDiff, if_false, decide_eq_true_eq] at o6
              exact vx_runVN hS9 hM ⟨pm_CN (n := (as'.map (pmRe ad)).length) o6 hTB hG (hwc _ (by simp)) (hnest _ (by simp)) (hwc _ (by simp)) ⟨o1, o2⟩ (pm_len1 hn1) o3 hRf hRl, hTB _ (hwc _ (by simp)), hTB _ (hwc _ (by simp))⟩ hPv rfl rfl hlsz hstk hcat9 hdg ⟨hc, hs⟩
          · obtain ⟨w, hw1, hw2⟩ := hrv.2.1 (by omega) (by omega)
            obtain ⟨q9, rfl, hcell⟩ := pm_rv hK hr.1 hS hEn hw2
            obtain ⟨as', rfl⟩ : ∃ as', as = .ref q9 :: as' := by
              cases as with
              | nil => cases hw1
              | cons a as' => cases hw1; exact ⟨as', rfl⟩
            have hn1 : (parseMethodDescriptor (pmNm (Pg x.2)).desc).map (fun d => d.parameters.length + 1) = some ((as'.map (pmRe ad)).length + 1) := by
              rw [o4, ← hlen9, List.length_map]
              rfl
            have hstk : st.map (pmRe ad) = (as'.map (pmRe ad)).reverse ++ .ref (ad q9) :: rest.map (pmRe ad) := by
              rw [hmap]
              simp [pmRe]
            have hPv : PreV s H RJ4 (ad q9) (va_Pc (((Value.ref q9) :: as').map (pmRe ad)) (fun U => U.heap.size = H.size ∧ pmBw E D cA ad S U)) (as'.map (pmRe ad)) := ⟨hPre.1, hcell, hPre.2⟩
            dsimp only [pmWc] at hwc
            rw [if_neg (by omega), if_neg (by omega), if_pos hx] at hwc
            rw [hx] at o6
            simp only [Nat.reduceEqDiff, if_false, decide_eq_true_eq] at o6
            exact vx_runU hS9 hM (pm_CU (n := (as'.map (pmRe ad)).length) o6 hTB hG (hwc _ (by simp)) (hwc _ (by simp)) (hwc _ (by simp)) (hwc _ (by simp)) (hwc _ (by simp)) (hwc _ (by simp)) ⟨o1, o2⟩ (pm_len1 hn1) o3 hRf hRl) hPv rfl rfl hlsz hstk hcat9 hdg ⟨hc, hs⟩
          · obtain ⟨w, hw1, hw2⟩ := hrv.2.1 (by omega) (by omega)
            obtain ⟨q9, rfl, hcell⟩ := pm_rv hK hr.1 hS hEn hw2
            obtain ⟨as', rfl⟩ : ∃ as', as = .ref q9 :: as' := by
              cases as with
              | nil => cases hw1
              | cons a as' => cases hw1; exact ⟨as', rfl⟩
            have hn1 : (parseMethodDescriptor (pmNm (Pg x.2)).desc).map (fun d => d.parameters.length + 1) = some ((as'.map (pmRe ad)).length + 1) := by
              rw [o4, ← hlen9, List.length_map]
              rfl
            have hstk : st.map (pmRe ad) = (as'.map (pmRe ad)).reverse ++ .ref (ad q9) :: rest.map (pmRe ad) := by
              rw [hmap]
              simp [pmRe]
            have hPv : PreV s H RJ4 (ad q9) (va_Pc (((Value.ref q9) :: as').map (pmRe ad)) (fun U => U.heap.size = H.size ∧ pmBw E D cA ad S U)) (as'.map (pmRe ad)) := ⟨hPre.1, hcell, hPre.2⟩
            dsimp only [pmWc] at hwc
            rw [if_neg (by omega), if_neg (by omega), if_neg (by omega), if_pos hx] at hwc
            rw [if_pos hx] at o7
            simp only [decide_eq_true_eq] at o7
            rw [hx] at o6
            simp only [Nat.reduceEqDiff, if_false, decide_eq_true_eq] at o6
            have hc9 : pmHw (Pg x.2) = .code (pmNm (Pg x.2)) (pmBy (Pg x.2)) (pmMx (Pg x.2)) (pmRt (Pg x.2)) := if_pos o6
            have hlen10 : ∀ sig, parseMethodDescriptor yJ5_length_8abf5.desc = some sig → (as'.map (pmRe ad)).length = sig.parameters.length := by
              rw [← o7]
              exact pm_len1 hn1
            have hcu : va_CU R s args own RJ4 RJ5 k yJ5_length_8abf5 (pmNm (Pg x.2)) (pmBy (Pg x.2)) (pmMx (Pg x.2)) (pmRt (Pg x.2)) (pmHw (Pg x.2) :: TB) (pmRm d r) r.2.2.1 r.2.2.2 (as'.map (pmRe ad)).length := by
              refine ⟨⟨rfl, rfl, hRf, ?_, pm_hw hTB hG (hwc _ (by simp)), by rw [hc9]; exact List.mem_cons_self⟩, by rw [← hc9]; exact hTB _ (hwc _ (by simp)), hTB _ (hwc (.initialized (pmNm (Pg x.2)).cls) (by simp)), ⟨by decide, by decide⟩, hlen10, hTB _ (hwc _ (by simp)), hTB _ (hwc (.sameMethod RJ5 RJ5 yJ5_length_8abf5.name yJ5_length_8abf5.desc) (by simp)), va_Decl.of (hTB _ (hwc (.instanceMethod yJ5_length_8abf5) (by simp))) (hTB _ (hwc (.code yJ5_length_8abf5 cJ5_length_8abf5 1 (some .int)) (by simp))), hTB _ (hwc (.selects RJ4 yJ5_length_8abf5 (pmNm (Pg x.2))) (by simp)), hTB _ (hwc (.instanceMethod (pmNm (Pg x.2))) (by simp))⟩
              show 8 + (pmMx (Pg x.2) + 11) + (200 + 60 * d) ≤ R.locals
              omega
            exact vx_runU hS9 hM hcu hPv rfl rfl hlsz hstk hcat9 hdg ⟨hc, hs⟩
        · cases htg
      · rename_i k
        dsimp only at o4 o5
        simp only [decide_eq_true_eq] at o4
        split at htg
        · rename_i hx9
          cases htg
          have hx89 : (x.1 = 4 ∨ x.1 = 5) ∨ x.1 = 7 ∨ x.1 = 8 := by omega
          clear hx9
          rcases hx89 with hx | hx | hx
          · obtain ⟨w, hw1, hw2⟩ := hrv.1 (by omega) (by omega)
            obtain ⟨q9, rfl, hcell⟩ := pm_rv hK hr.1 hS hEn hw2
            obtain ⟨as', rfl⟩ : ∃ as', as = .ref q9 :: as' := by
              cases as with
              | nil => cases hw1
              | cons a as' => cases hw1; exact ⟨as', rfl⟩
            have hn1 : (parseMethodDescriptor (pmNm (Pg x.2)).desc).map (fun d => d.parameters.length + 1) = some ((as'.map (pmRe ad)).length + 1) := by
              rw [o4, ← hlen9, List.length_map]
              rfl
            have hstk : st.map (pmRe ad) = (as'.map (pmRe ad)).reverse ++ .ref (ad q9) :: rest.map (pmRe ad) := by
              rw [hmap]
              simp [pmRe]
            rw [if_neg (by omega)] at o5
            simp only [Bool.and_eq_true, decide_eq_true_eq] at o5
            rcases hx with hx | hx
            · dsimp only [pmWc] at hwc
              rw [if_pos hx] at hwc
              rw [hx] at o6
              simp only [Nat.reduceEqDiff, if_false, decide_eq_true_eq] at o6
              have hcb := pm_CB (R := R) (s := s) (args := args) (d := d) (r := r) (n := (as'.map (pmRe ad)).length) o6 hTB hG (hwc _ (by simp)) (hwc (.methodLink own k (pmNm (Pg x.2))) (by simp)) (hwc _ (by simp)) ⟨o1, o2⟩ (pm_len1 hn1) o3 hRf hRl
              rw [o5.2] at hcb
              exact vx_runI hS9 hM ⟨hcb, o5.1, hTB _ (hwc _ (by simp))⟩ hPre rfl rfl hlsz hstk hcat9 hdg ⟨hc, hs⟩
            · dsimp only [pmWc, pmWn] at hwc hnest
              rw [if_neg (by omega), if_pos hx] at hwc
              rw [if_pos hx] at hnest
              rw [hx] at o6
              simp only [Nat.reduceEqDiff, if_false, decide_eq_true_eq] at o6
              have hcb := pm_CN (R := R) (s := s) (args := args) (d := d) (r := r) (n := (as'.map (pmRe ad)).length) o6 hTB hG (hwc _ (by simp)) (hnest (.methodLinkNest own k (pmNm (Pg x.2)) "StageBallet") (by simp)) (hwc _ (by simp)) ⟨o1, o2⟩ (pm_len1 hn1) o3 hRf hRl
              rw [o5.2] at hcb
              exact vx_runIN hS9 hM ⟨hcb, o5.1, hTB _ (hwc _ (by simp))⟩ hPre rfl rfl hlsz hstk hcat9 hdg ⟨hc, hs⟩
          · dsimp only [pmWc] at hwc
            rw [if_neg (by omega), if_neg (by omega), if_pos hx] at hwc
            rw [if_neg (by omega)] at o5
            simp only [Bool.and_eq_true, decide_eq_true_eq] at o5
            rw [hx] at o6
            simp only [Nat.reduceEqDiff, if_false, decide_eq_true_eq] at o6
            obtain ⟨q9, hw1⟩ := hrv.2.2 hx
            obtain ⟨as', rfl⟩ : ∃ as', as = .ref q9 :: as' := by
              cases as with
              | nil => cases hw1
              | cons a as' => cases hw1; exact ⟨as', rfl⟩
            have hn1 : (parseMethodDescriptor (pmNm (Pg x.2)).desc).map (fun d => d.parameters.length + 1) = some ((as'.map (pmRe ad)).length + 1) := by
              rw [o4, ← hlen9, List.length_map]
              rfl
            have hstk : st.map (pmRe ad) = (as'.map (pmRe ad)).reverse ++ .ref (ad q9) :: rest.map (pmRe ad) := by
              rw [hmap]
              simp [pmRe]
            have hcb := pm_CB (R := R) (s := s) (args := args) (d := d) (r := r) (n := (as'.map (pmRe ad)).length) o6 hTB hG (hwc _ (by simp)) (hwc (.methodLink own k (pmNm (Pg x.2))) (by simp)) (hwc _ (by simp)) ⟨o1, o2⟩ (pm_len1 hn1) o3 hRf hRl
            rw [o5.2] at hcb
            exact vx_runI hS9 hM ⟨hcb, o5.1, hTB _ (hwc _ (by simp))⟩ hPre rfl rfl hlsz hstk hcat9 hdg ⟨hc, hs⟩
          · obtain ⟨w, hw1, hw2⟩ := hrv.2.1 (by omega) (by omega)
            obtain ⟨q9, rfl, hcell⟩ := pm_rv hK hr.1 hS hEn hw2
            obtain ⟨as', rfl⟩ : ∃ as', as = .ref q9 :: as' := by
              cases as with
              | nil => cases hw1
              | cons a as' => cases hw1; exact ⟨as', rfl⟩
            have hn1 : (parseMethodDescriptor (pmNm (Pg x.2)).desc).map (fun d => d.parameters.length + 1) = some ((as'.map (pmRe ad)).length + 1) := by
              rw [o4, ← hlen9, List.length_map]
              rfl
            have hstk : st.map (pmRe ad) = (as'.map (pmRe ad)).reverse ++ .ref (ad q9) :: rest.map (pmRe ad) := by
              rw [hmap]
              simp [pmRe]
            have hPv : PreV s H RJ4 (ad q9) (va_Pc (((Value.ref q9) :: as').map (pmRe ad)) (fun U => U.heap.size = H.size ∧ pmBw E D cA ad S U)) (as'.map (pmRe ad)) := ⟨hPre.1, hcell, hPre.2⟩
            dsimp only [pmWc] at hwc
            rw [if_neg (by omega), if_neg (by omega), if_neg (by omega), if_pos hx] at hwc
            rw [if_pos hx] at o5
            simp only [decide_eq_true_eq] at o5
            rw [hx] at o6
            simp only [Nat.reduceEqDiff, if_false, decide_eq_true_eq] at o6
            exact vx_runSU (C := RJ4) (hK.1 10 (RJ4, TJ4, 4) rfl).2 hS9 hM (pm_CS (n := (as'.map (pmRe ad)).length) o6 hTB hG (hwc _ (by simp)) (hwc _ (by simp)) (hwc _ (by simp)) (hwc _ (by simp)) (hwc _ (by simp)) (hwc _ (by simp)) o5 (pm_len1 hn1) o3 hRf hRl) hPv rfl rfl hlsz hstk hcat9 hdg ⟨hc, hs⟩
        · cases htg
      · cases htg
    · cases harg
end PMD
