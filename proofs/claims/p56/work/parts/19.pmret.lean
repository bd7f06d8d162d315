/-! PM: handlers, returns -/
theorem pmCt_split {pc k h : Nat} : ∀ {hd : List (Nat × Nat × Nat × Nat × Nat)}, pmCt hd pc k = some h → ∃ pre q suf, hd = pre ++ q :: suf ∧ (q.1 ≤ pc ∧ pc < q.2.1 ∧ q.2.2.2.2 = k) ∧ q.2.2.1 = h ∧ ∀ z ∈ pre, ¬ (z.1 ≤ pc ∧ pc < z.2.1 ∧ z.2.2.2.2 = k)
  | [], hh => by cases hh
  | q :: r, hh => by
    unfold pmCt at hh
    split at hh
    · rename_i hq
      exact ⟨[], q, r, rfl, hq, Option.some.inj hh, fun _ hz => absurd hz List.not_mem_nil⟩
    · rename_i hq
      obtain ⟨pre, q2, suf, h1, h2, h3, h4⟩ := pmCt_split hh
      refine ⟨q :: pre, q2, suf, by rw [h1]; rfl, h2, h3, fun z hz => ?_⟩
      rcases List.mem_cons.mp hz with rfl | hz
      · exact hq
      · exact h4 z hz
def pmEt (q : Nat × Nat × Nat × Nat × Nat) : ExceptionTableEntry := ⟨q.1, q.2.1, q.2.2.1, q.2.2.2.1⟩
theorem pm_table : ∀ hd : List (Nat × Nat × Nat × Nat × Nat), tableOf (pmHh hd) = hd.map pmEt
  | [] => rfl
  | q :: r => by
    show pmEt q :: tableOf (pmHh r) = pmEt q :: r.map pmEt
    rw [pm_table r]
/-- the handlers' words -/
def pmWh (m : pmMe) : List Cond := (pmHd m).map (fun q => .classLink (pmNm m).cls q.2.2.2.1 (pmXn q.2.2.2.2))
def pmOh (m : pmMe) : Bool := (pmHd m).all (fun q => decide (q.2.2.2.1 ≠ 0) && decide (q.2.2.2.2 < 5))
theorem pmLv_cut {ad : Nat → Nat} {L : List (Option Value)} {k : Nat} {w : Value} : ∀ q ∈ pmLv ad ((pmCut L k).set k none), q ∈ (k, w) :: (pmLv ad L).filter (fun q => !(q.1 == k) && !(q.1 + 1 == k && q.2.category == 2)) := by
  intro q hq
  obtain ⟨w, h1, h2⟩ := pmLv_of hq
  rw [List.getElem?_set] at h1
  obtain ⟨i, u⟩ := q
  dsimp only at h1 h2 ⊢
  subst h2
  by_cases hk : k = i
  · subst hk
    rw [if_pos rfl] at h1
    split at h1 <;> cases h1
  · rw [if_neg hk] at h1
    obtain ⟨h3, h4⟩ := pmCut_at h1
    refine List.mem_cons_of_mem _ (List.mem_filter.mpr ⟨pmLv_mem h3, ?_⟩)
    simp only [pmRe_cat]
    have e1 : (i == k) = false := by simp; omega
    rw [e1]
    cases h5 : (i + 1 == k && w.category == 2) with
    | false => rfl
    | true =>
      simp only [Bool.and_eq_true, beq_iff_eq] at h5
      exact absurd h5 h4
theorem pmVl_cut {n : Nat} {L : List (Option Value)} {k : Nat} (h : pmVl n L) : pmVl n ((pmCut L k).set k none) := by
  intro i v hi
  rw [List.getElem?_set] at hi
  split at hi
  · split at hi <;> cases hi
  · exact h i v (pmCut_at hi).1
theorem pmHan_vd {m : pmMe} {h : Nat} {L : List (Option Value)} {S : pmS} {c' : pmC} (hh : pmHan m h L S = some c') (hL : pmVl S.1.length L) (hS : pmVm S.1.length S.2) : pmVd c' ∧ c'.2.2.2 = S := by
  unfold pmHan at hh
  split at hh
  · split at hh
    · cases hh
      exact ⟨⟨pmVl_cut hL, fun _ h => absurd h List.not_mem_nil, hS⟩, rfl⟩
    · cases hh
  · split at hh
    · cases hh
      exact ⟨⟨pmVl_cut hL, fun _ h => absurd h List.not_mem_nil, hS⟩, rfl⟩
    · cases hh
  · cases hh
section PMG
variable {p : Program} {l : Launch} {e : Env} {R : Room} {s : State} {m : MethodId} {args : Array Value} {below : List Frame} {meth : Method} {c0 : Code} {H H0 : Heap} {locs : List Loc} {cells slots : Nat} {Q : State → Prop}
variable {cc : ByteArray} {ls : Array Slot} {A : Nat → Prop} {D : va_G} {nL : Nat} {ad : Nat → Nat} {cA : Nat → ClassId} {pc : Nat} {L : List (Option Value)} {S : pmS} {st rest : List Value} {Pg : Nat → pmMe} {TB : List Cond} {E : pmEv0}
theorem pm_catch {j k h : Nat} {ce : Cell} {q9 : Addr} {c' : pmC} {rest : List Value} (hco : ∀ q i n y, pmCo (Pg j) q = some (i, n, y) → decode cc q = .ok (i, pmIl i n)) (hct : pmCt (pmHd (Pg j)) pc k = some h) (hhan : pmHan (Pg j) h L S = some c') (hwh : ∀ w ∈ pmWh (Pg j), w ∈ TB) (hoh : pmOh (Pg j) = true)
    (hTB : ∀ w ∈ TB, w.before args s = true) (hexec : p.tables.exec = Jvm.exec) (hb : c0.code = cc) (hown : s.vm.findClass (pmNm (Pg j)).cls = some m.cls) (hEn : pmEn E ad A s s.heap) (htab : c0.exceptionTable.toList = tableOf (pmHh (pmHd (Pg j))))
    (hce : H[q9]? = some ce) (hcv : ce.vm = .none) (hcl : s.vm.findClass (pmXn k) = some ce.cls)
    (hr : pmRel D A H0 nL ad cA (pc, L, st, S) H locs ls) (kk : pmKk p l e R s m args below meth c0 cells slots Q D A H0 nL ad cA c') :
    vx_W p l e R s m args below meth c0 H locs cells slots Q (F0 m pc ls rest) q9 := by
  obtain ⟨pre, q, suf, h1, ⟨h2, h3, h4⟩, h5, h6⟩ := pmCt_split hct
  have hoh9 : ∀ z ∈ pmHd (Pg j), z.2.2.2.1 ≠ 0 ∧ z.2.2.2.2 < 5 := by
    intro z hz
    have := List.all_eq_true.mp hoh z hz
    simpa using this
  have hlk : ∀ z ∈ pmHd (Pg j), (Cond.classLink (pmNm (Pg j)).cls z.2.2.2.1 (pmXn z.2.2.2.2)).before args s = true := fun z hz => hTB _ (hwh _ (List.mem_map.mpr ⟨z, hz, rfl⟩))
  have hqm : q ∈ pmHd (Pg j) := by rw [h1]; simp
  have hk6 : k < 6 := by rw [← h4]; exact Nat.lt_succ_of_lt (hoh9 q hqm).2
  have hcst := hEn.2.1.2.1 k hk6
  rw [pm_table, h1, List.map_append, List.map_cons] at htab
  refine vx_catch (name := pmXn k) (E := pmXn k) hown (pre.map pmEt) (pmEt q) (suf.map pmEt) htab ?_ ?_ (hoh9 q hqm).1 (by rw [← h4]; exact hlk q hqm) (va_Nw.use rfl hcst) hce hcv hcl ?_
  · intro z hz
    obtain ⟨y, hy, rfl⟩ := List.mem_map.mp hz
    have hym : y ∈ pmHd (Pg j) := by rw [h1]; exact List.mem_append_left _ hy
    by_cases hcov : y.1 ≤ pc ∧ pc < y.2.1
    · refine Or.inr ⟨(hoh9 y hym).1, pmXn y.2.2.2.2, hlk y hym, hEn.2.1.1 _ _ hk6 (hoh9 y hym).2 ?_⟩
      intro e9
      exact h6 y hy ⟨hcov.1, hcov.2, e9.symm⟩
    · refine Or.inl ?_
      show (decide (y.1 ≤ pc) && decide (pc < y.2.1)) = false
      cases ha : (decide (y.1 ≤ pc) && decide (pc < y.2.1)) with
      | false => rfl
      | true =>
        simp only [Bool.and_eq_true, decide_eq_true_eq] at ha
        exact absurd ha hcov
  · show (decide (q.1 ≤ pc) && decide (pc < q.2.1)) = true
    simp [h2, h3]
  · show W p l e R s m args below meth c0 H locs cells slots Q (F0 m q.2.2.1 ls [.ref q9])
    rw [h5]
    unfold pmHan at hhan
    split at hhan
    · rename_i kk9 y hcode
      split at hhan
      · rename_i hlt
        cases hhan
        obtain ⟨n9, z9⟩ := y
        have hd := hco _ _ _ _ hcode
        exact lv_astore_n hexec hb hd rfl hr.2.2.2.1 (by have h9 := hr.2.2.2.2; dsimp only at h9; omega) rfl (fun ls' h' => kk _ _ _ ⟨hr.1, hr.2.1, hr.2.2.1, lv_has_of h' pmLv_cut, by show (List.set _ _ _).length = nL; rw [List.length_set, pmCut_len]; exact hr.2.2.2.2⟩)
      · cases hhan
    · rename_i kk9 y hcode
      split at hhan
      · rename_i hlt
        cases hhan
        obtain ⟨n9, z9⟩ := y
        have hd := hco _ _ _ _ hcode
        exact lv_astore hexec hb hd hr.2.2.2.1 (by have h9 := hr.2.2.2.2; dsimp only at h9; omega) rfl (fun ls' h' => kk _ _ _ ⟨hr.1, hr.2.1, hr.2.2.1, lv_has_of h' pmLv_cut, by show (List.set _ _ _).length = nL; rw [List.length_set, pmCut_len]; exact hr.2.2.2.2⟩)
      · cases hhan
    · cases hhan
theorem pm_ret {i : Instr} {n sz : Nat} {rt : Option FieldType} {v : Option Value} {ps : List Prop} {ad0 : Nat → Nat} {S0 : pmS} {XC : String → State → State → Prop} {r : pmR} (hdg : decode cc pc = .ok (i, pmIl i n)) (hret : pmRet rt i st = some (v, ps)) (hp : ∀ P ∈ ps, P) (hrt : meth.sig.returnType = rt)
    (hexec : p.tables.exec = Jvm.exec) (hb : c0.code = cc) (hlocks : meth.locks = false)
    (hA : A = va_A (pmW ad0 cA S0) sz) (hx : pmEx ad0 ad S0.1.length) (hl0 : S0.1.length ≤ S.1.length) (hl9 : S.1.length ≤ 90000) (hv : pmVd (pc, L, st, S)) (hr9 : r = (.inl v, S, cells, slots))
    (hr : pmRel D A s.heap nL ad cA (pc, L, st, S) H locs ls) :
    W p l e R s m args below meth c0 H locs cells slots (vx_MQ below (pmQc D cA ad0 S0 sz r) XC args s r.2.2.1 r.2.2.2 (va_A (pmW ad0 cA S0) sz)) (F0 m pc ls (st.map (pmRe ad))) := by
  subst hr9
  have hq : ∀ (t : State), t.heap = H → s.WarmedH t.vm → (∀ w, v = some w → w ∈ st) → pmQc D cA ad0 S0 sz (.inl v, S, cells, slots) args s (.returned (v.map (pmRe ad))) t := by
    intro t ht hW hw
    refine ⟨v, ad, rfl, rfl, fun w h9 => hv.2.1 w (hw w h9), hx, hl0, ⟨by rw [ht]; exact hr.1, by rw [← hA]; exact hr.2.1, hv.2.2, hl9⟩, ?_⟩
    rw [← hA]
    exact hr.2.2.1.F ht
  have hf : ∀ z ∈ locs, (va_A (pmW ad0 cA S0) sz) z.base := by
    rw [← hA]
    exact hr.2.2.1.2.2
  refine vx_ret ?_
  unfold pmRet at hret
  split at hret
  · split at hret
    · split at hret
      · cases hret
        exact W.vret hexec hb hrt (fun t h1 h2 => hq t h1 h2 (fun w h => by cases h)) hf hdg
      · cases hret
    · cases hret
  · split at hret
    · split at hret
      · cases hret
        exact W.iret hexec hb hrt (fun t h1 h2 => hq t h1 h2 (fun w h => by cases h; exact List.mem_cons_self)) hf hdg
      · cases hret
        have h9 := hp _ List.mem_cons_self
        exact W.zret hexec hb hrt (by rcases h9 with rfl | rfl <;> rfl) (fun t h1 h2 => hq t h1 h2 (fun w h => by cases h; exact List.mem_cons_self)) hf hdg
      · cases hret
        have h9 := hp _ List.mem_cons_self
        exact W.zret (ty := .char) hexec hb hrt (congrArg Value.int h9) (fun t h1 h2 => hq t h1 h2 (fun w h => by cases h; exact List.mem_cons_self)) hf hdg
      · cases hret
        have h9 := hp _ List.mem_cons_self
        exact W.zret (ty := .byte) hexec hb hrt (by rw [h9]; rfl) (fun t h1 h2 => hq t h1 h2 (fun w h => by cases h; exact List.mem_cons_self)) hf hdg
      · cases hret
    · cases hret
  · split at hret
    · split at hret
      · cases hret
        exact W.lret hexec hb hrt (fun t h1 h2 => hq t h1 h2 (fun w h => by cases h; exact List.mem_cons_self)) hf hdg
      · cases hret
    · cases hret
  · split at hret
    · split at hret
      · cases hret
        exact W.fret hexec hb hrt (fun t h1 h2 => hq t h1 h2 (fun w h => by cases h; exact List.mem_cons_self)) hf hdg
      · cases hret
    · cases hret
  · split at hret
    · split at hret
      · cases hret
        exact W.dret hexec hb hrt (fun t h1 h2 => hq t h1 h2 (fun w h => by cases h; exact List.mem_cons_self)) hf hdg
      · cases hret
    · cases hret
  · split at hret
    · split at hret
      · cases hret
        exact W.aret hexec hb hrt (Or.inl ⟨_, rfl⟩) (Or.inr ⟨_, rfl⟩) (fun t h1 h2 => hq t h1 h2 (fun w h => by cases h; exact List.mem_cons_self)) hf hdg
      · cases hret
        exact W.aret hexec hb hrt (Or.inr ⟨_, rfl⟩) (Or.inr ⟨_, rfl⟩) (fun t h1 h2 => hq t h1 h2 (fun w h => by cases h; exact List.mem_cons_self)) hf hdg
      · cases hret
    · split at hret
      · cases hret
        exact W.aret hexec hb hrt (Or.inl ⟨_, rfl⟩) (Or.inl rfl) (fun t h1 h2 => hq t h1 h2 (fun w h => by cases h; exact List.mem_cons_self)) hf hdg
      · cases hret
    · cases hret
  · cases hret
end PMG
