/-! PM: one step of the small machine is one step of the machine (written by wip/whole/gen_pmstep.py) -/
section PMS2
variable {p : Program} {l : Launch} {e : Env} {R : Room} {s : State} {m : MethodId} {args : Array Value} {below : List Frame} {meth : Method} {c0 : Code} {H H0 : Heap} {locs : List Loc} {cells slots : Nat} {Q : State → Prop}
variable {cc : ByteArray} {ls : Array Slot} {A : Nat → Prop} {D : va_G} {nL : Nat} {ad : Nat → Nat} {cA : Nat → ClassId} {pc : Nat} {L : List (Option Value)} {S : pmS} {st rest : List Value}
/-- what goes on behind a step -/
def pmKk (p : Program) (l : Launch) (e : Env) (R : Room) (s : State) (m : MethodId) (args : Array Value) (below : List Frame) (meth : Method) (c0 : Code) (cells slots : Nat) (Q : State → Prop) (D : va_G) (A : Nat → Prop) (H0 : Heap) (nL : Nat) (ad : Nat → Nat) (cA : Nat → ClassId) (c : pmC) : Prop :=
  ∀ (H : Heap) (locs : List Loc) (ls : Array Slot), pmRel D A H0 nL ad cA c H locs ls → W p l e R s m args below meth c0 H locs cells slots Q (F0 m c.1 ls (c.2.2.1.map (pmRe ad)))
theorem pms_aload_n {c' : pmC} {ps : List Prop} {k : Fin 4} (hdg : decode cc pc = .ok (.aload_n k, 1)) (h : pmLd 1 k.val 4 (pc, L, st, S) = some (c', ps)) (hexec : p.tables.exec = Jvm.exec) (hb : c0.code = cc) (hr : pmRel D A H0 nL ad cA (pc, L, st, S) H locs ls) (kk : pmKk p l e R s m args below meth c0 cells slots Q D A H0 nL ad cA c') : W p l e R s m args below meth c0 H locs cells slots Q (F0 m pc ls (st.map (pmRe ad))) := by
  obtain ⟨v, h1, h2, rfl⟩ := pmLd_inv h
  obtain ⟨x, rfl⟩ := pmKd_4 h2
  exact lv_aload_n hexec hb hdg rfl (hr.loc h1) (kk _ _ _ hr)
theorem pms_aload {c' : pmC} {ps : List Prop} {k : Nat} (hdg : decode cc pc = .ok (.aload k, 2)) (h : pmLd 2 k 4 (pc, L, st, S) = some (c', ps)) (hexec : p.tables.exec = Jvm.exec) (hb : c0.code = cc) (hr : pmRel D A H0 nL ad cA (pc, L, st, S) H locs ls) (kk : pmKk p l e R s m args below meth c0 cells slots Q D A H0 nL ad cA c') : W p l e R s m args below meth c0 H locs cells slots Q (F0 m pc ls (st.map (pmRe ad))) := by
  obtain ⟨v, h1, h2, rfl⟩ := pmLd_inv h
  obtain ⟨x, rfl⟩ := pmKd_4 h2
  exact lv_aload hexec hb hdg (hr.loc h1) (kk _ _ _ hr)
theorem pms_iload_n {c' : pmC} {ps : List Prop} {k : Fin 4} (hdg : decode cc pc = .ok (.iload_n k, 1)) (h : pmLd 1 k.val 0 (pc, L, st, S) = some (c', ps)) (hexec : p.tables.exec = Jvm.exec) (hb : c0.code = cc) (hr : pmRel D A H0 nL ad cA (pc, L, st, S) H locs ls) (kk : pmKk p l e R s m args below meth c0 cells slots Q D A H0 nL ad cA c') : W p l e R s m args below meth c0 H locs cells slots Q (F0 m pc ls (st.map (pmRe ad))) := by
  obtain ⟨v, h1, h2, rfl⟩ := pmLd_inv h
  obtain ⟨x, rfl⟩ := pmKd_0 h2
  exact lv_iload_n hexec hb hdg rfl (hr.loc h1) (kk _ _ _ hr)
theorem pms_iload {c' : pmC} {ps : List Prop} {k : Nat} (hdg : decode cc pc = .ok (.iload k, 2)) (h : pmLd 2 k 0 (pc, L, st, S) = some (c', ps)) (hexec : p.tables.exec = Jvm.exec) (hb : c0.code = cc) (hr : pmRel D A H0 nL ad cA (pc, L, st, S) H locs ls) (kk : pmKk p l e R s m args below meth c0 cells slots Q D A H0 nL ad cA c') : W p l e R s m args below meth c0 H locs cells slots Q (F0 m pc ls (st.map (pmRe ad))) := by
  obtain ⟨v, h1, h2, rfl⟩ := pmLd_inv h
  obtain ⟨x, rfl⟩ := pmKd_0 h2
  exact lv_iload hexec hb hdg (hr.loc h1) (kk _ _ _ hr)
theorem pms_lload_n {c' : pmC} {ps : List Prop} {k : Fin 4} (hdg : decode cc pc = .ok (.lload_n k, 1)) (h : pmLd 1 k.val 1 (pc, L, st, S) = some (c', ps)) (hexec : p.tables.exec = Jvm.exec) (hb : c0.code = cc) (hr : pmRel D A H0 nL ad cA (pc, L, st, S) H locs ls) (kk : pmKk p l e R s m args below meth c0 cells slots Q D A H0 nL ad cA c') : W p l e R s m args below meth c0 H locs cells slots Q (F0 m pc ls (st.map (pmRe ad))) := by
  obtain ⟨v, h1, h2, rfl⟩ := pmLd_inv h
  obtain ⟨x, rfl⟩ := pmKd_1 h2
  exact lv_lload_n hexec hb hdg rfl (hr.loc h1) (kk _ _ _ hr)
theorem pms_lload {c' : pmC} {ps : List Prop} {k : Nat} (hdg : decode cc pc = .ok (.lload k, 2)) (h : pmLd 2 k 1 (pc, L, st, S) = some (c', ps)) (hexec : p.tables.exec = Jvm.exec) (hb : c0.code = cc) (hr : pmRel D A H0 nL ad cA (pc, L, st, S) H locs ls) (kk : pmKk p l e R s m args below meth c0 cells slots Q D A H0 nL ad cA c') : W p l e R s m args below meth c0 H locs cells slots Q (F0 m pc ls (st.map (pmRe ad))) := by
  obtain ⟨v, h1, h2, rfl⟩ := pmLd_inv h
  obtain ⟨x, rfl⟩ := pmKd_1 h2
  exact lv_lload hexec hb hdg (hr.loc h1) (kk _ _ _ hr)
theorem pms_fload_n {c' : pmC} {ps : List Prop} {k : Fin 4} (hdg : decode cc pc = .ok (.fload_n k, 1)) (h : pmLd 1 k.val 2 (pc, L, st, S) = some (c', ps)) (hexec : p.tables.exec = Jvm.exec) (hb : c0.code = cc) (hr : pmRel D A H0 nL ad cA (pc, L, st, S) H locs ls) (kk : pmKk p l e R s m args below meth c0 cells slots Q D A H0 nL ad cA c') : W p l e R s m args below meth c0 H locs cells slots Q (F0 m pc ls (st.map (pmRe ad))) := by
  obtain ⟨v, h1, h2, rfl⟩ := pmLd_inv h
  obtain ⟨x, rfl⟩ := pmKd_2 h2
  exact lv_fload_n hexec hb hdg rfl (hr.loc h1) (kk _ _ _ hr)
theorem pms_fload {c' : pmC} {ps : List Prop} {k : Nat} (hdg : decode cc pc = .ok (.fload k, 2)) (h : pmLd 2 k 2 (pc, L, st, S) = some (c', ps)) (hexec : p.tables.exec = Jvm.exec) (hb : c0.code = cc) (hr : pmRel D A H0 nL ad cA (pc, L, st, S) H locs ls) (kk : pmKk p l e R s m args below meth c0 cells slots Q D A H0 nL ad cA c') : W p l e R s m args below meth c0 H locs cells slots Q (F0 m pc ls (st.map (pmRe ad))) := by
  obtain ⟨v, h1, h2, rfl⟩ := pmLd_inv h
  obtain ⟨x, rfl⟩ := pmKd_2 h2
  exact lv_fload hexec hb hdg (hr.loc h1) (kk _ _ _ hr)
theorem pms_dload_n {c' : pmC} {ps : List Prop} {k : Fin 4} (hdg : decode cc pc = .ok (.dload_n k, 1)) (h : pmLd 1 k.val 3 (pc, L, st, S) = some (c', ps)) (hexec : p.tables.exec = Jvm.exec) (hb : c0.code = cc) (hr : pmRel D A H0 nL ad cA (pc, L, st, S) H locs ls) (kk : pmKk p l e R s m args below meth c0 cells slots Q D A H0 nL ad cA c') : W p l e R s m args below meth c0 H locs cells slots Q (F0 m pc ls (st.map (pmRe ad))) := by
  obtain ⟨v, h1, h2, rfl⟩ := pmLd_inv h
  obtain ⟨x, rfl⟩ := pmKd_3 h2
  exact lv_dload_n hexec hb hdg rfl (hr.loc h1) (kk _ _ _ hr)
theorem pms_dload {c' : pmC} {ps : List Prop} {k : Nat} (hdg : decode cc pc = .ok (.dload k, 2)) (h : pmLd 2 k 3 (pc, L, st, S) = some (c', ps)) (hexec : p.tables.exec = Jvm.exec) (hb : c0.code = cc) (hr : pmRel D A H0 nL ad cA (pc, L, st, S) H locs ls) (kk : pmKk p l e R s m args below meth c0 cells slots Q D A H0 nL ad cA c') : W p l e R s m args below meth c0 H locs cells slots Q (F0 m pc ls (st.map (pmRe ad))) := by
  obtain ⟨v, h1, h2, rfl⟩ := pmLd_inv h
  obtain ⟨x, rfl⟩ := pmKd_3 h2
  exact lv_dload hexec hb hdg (hr.loc h1) (kk _ _ _ hr)
theorem pms_astore_n {c' : pmC} {ps : List Prop} {k : Fin 4} (hdg : decode cc pc = .ok (.astore_n k, 1)) (h : pmSt 1 k.val 4 (pc, L, st, S) = some (c', ps)) (hexec : p.tables.exec = Jvm.exec) (hb : c0.code = cc) (hr : pmRel D A H0 nL ad cA (pc, L, st, S) H locs ls) (kk : pmKk p l e R s m args below meth c0 cells slots Q D A H0 nL ad cA c') : W p l e R s m args below meth c0 H locs cells slots Q (F0 m pc ls (st.map (pmRe ad))) := by
  obtain ⟨v, r, rfl, h2, h3, rfl⟩ := pmSt_inv h
  obtain ⟨x, rfl⟩ := pmKd_4 h2
  exact lv_astore_n hexec hb hdg rfl hr.2.2.2.1 (by have h9 := hr.2.2.2.2; simp only [Value.category] at h3; dsimp only at h9; omega) rfl (fun ls' h' => kk _ _ _ (hr.st1 rfl h'))
theorem pms_astore {c' : pmC} {ps : List Prop} {k : Nat} (hdg : decode cc pc = .ok (.astore k, 2)) (h : pmSt 2 k 4 (pc, L, st, S) = some (c', ps)) (hexec : p.tables.exec = Jvm.exec) (hb : c0.code = cc) (hr : pmRel D A H0 nL ad cA (pc, L, st, S) H locs ls) (kk : pmKk p l e R s m args below meth c0 cells slots Q D A H0 nL ad cA c') : W p l e R s m args below meth c0 H locs cells slots Q (F0 m pc ls (st.map (pmRe ad))) := by
  obtain ⟨v, r, rfl, h2, h3, rfl⟩ := pmSt_inv h
  obtain ⟨x, rfl⟩ := pmKd_4 h2
  exact lv_astore hexec hb hdg hr.2.2.2.1 (by have h9 := hr.2.2.2.2; simp only [Value.category] at h3; dsimp only at h9; omega) rfl (fun ls' h' => kk _ _ _ (hr.st1 rfl h'))
theorem pms_istore_n {c' : pmC} {ps : List Prop} {k : Fin 4} (hdg : decode cc pc = .ok (.istore_n k, 1)) (h : pmSt 1 k.val 0 (pc, L, st, S) = some (c', ps)) (hexec : p.tables.exec = Jvm.exec) (hb : c0.code = cc) (hr : pmRel D A H0 nL ad cA (pc, L, st, S) H locs ls) (kk : pmKk p l e R s m args below meth c0 cells slots Q D A H0 nL ad cA c') : W p l e R s m args below meth c0 H locs cells slots Q (F0 m pc ls (st.map (pmRe ad))) := by
  obtain ⟨v, r, rfl, h2, h3, rfl⟩ := pmSt_inv h
  obtain ⟨x, rfl⟩ := pmKd_0 h2
  exact lv_istore_n hexec hb hdg rfl hr.2.2.2.1 (by have h9 := hr.2.2.2.2; simp only [Value.category] at h3; dsimp only at h9; omega) rfl (fun ls' h' => kk _ _ _ (hr.st1 rfl h'))
theorem pms_istore {c' : pmC} {ps : List Prop} {k : Nat} (hdg : decode cc pc = .ok (.istore k, 2)) (h : pmSt 2 k 0 (pc, L, st, S) = some (c', ps)) (hexec : p.tables.exec = Jvm.exec) (hb : c0.code = cc) (hr : pmRel D A H0 nL ad cA (pc, L, st, S) H locs ls) (kk : pmKk p l e R s m args below meth c0 cells slots Q D A H0 nL ad cA c') : W p l e R s m args below meth c0 H locs cells slots Q (F0 m pc ls (st.map (pmRe ad))) := by
  obtain ⟨v, r, rfl, h2, h3, rfl⟩ := pmSt_inv h
  obtain ⟨x, rfl⟩ := pmKd_0 h2
  exact lv_istore hexec hb hdg hr.2.2.2.1 (by have h9 := hr.2.2.2.2; simp only [Value.category] at h3; dsimp only at h9; omega) rfl (fun ls' h' => kk _ _ _ (hr.st1 rfl h'))
theorem pms_lstore_n {c' : pmC} {ps : List Prop} {k : Fin 4} (hdg : decode cc pc = .ok (.lstore_n k, 1)) (h : pmSt 1 k.val 1 (pc, L, st, S) = some (c', ps)) (hexec : p.tables.exec = Jvm.exec) (hb : c0.code = cc) (hr : pmRel D A H0 nL ad cA (pc, L, st, S) H locs ls) (kk : pmKk p l e R s m args below meth c0 cells slots Q D A H0 nL ad cA c') : W p l e R s m args below meth c0 H locs cells slots Q (F0 m pc ls (st.map (pmRe ad))) := by
  obtain ⟨v, r, rfl, h2, h3, rfl⟩ := pmSt_inv h
  obtain ⟨x, rfl⟩ := pmKd_1 h2
  exact lv_lstore_n hexec hb hdg rfl hr.2.2.2.1 (by have h9 := hr.2.2.2.2; simp only [Value.category] at h3; dsimp only at h9; omega) rfl (fun ls' h' => kk _ _ _ (hr.st2 rfl h'))
theorem pms_lstore {c' : pmC} {ps : List Prop} {k : Nat} (hdg : decode cc pc = .ok (.lstore k, 2)) (h : pmSt 2 k 1 (pc, L, st, S) = some (c', ps)) (hexec : p.tables.exec = Jvm.exec) (hb : c0.code = cc) (hr : pmRel D A H0 nL ad cA (pc, L, st, S) H locs ls) (kk : pmKk p l e R s m args below meth c0 cells slots Q D A H0 nL ad cA c') : W p l e R s m args below meth c0 H locs cells slots Q (F0 m pc ls (st.map (pmRe ad))) := by
  obtain ⟨v, r, rfl, h2, h3, rfl⟩ := pmSt_inv h
  obtain ⟨x, rfl⟩ := pmKd_1 h2
  exact lv_lstore hexec hb hdg hr.2.2.2.1 (by have h9 := hr.2.2.2.2; simp only [Value.category] at h3; dsimp only at h9; omega) rfl (fun ls' h' => kk _ _ _ (hr.st2 rfl h'))
theorem pms_fstore_n {c' : pmC} {ps : List Prop} {k : Fin 4} (hdg : decode cc pc = .ok (.fstore_n k, 1)) (h : pmSt 1 k.val 2 (pc, L, st, S) = some (c', ps)) (hexec : p.tables.exec = Jvm.exec) (hb : c0.code = cc) (hr : pmRel D A H0 nL ad cA (pc, L, st, S) H locs ls) (kk : pmKk p l e R s m args below meth c0 cells slots Q D A H0 nL ad cA c') : W p l e R s m args below meth c0 H locs cells slots Q (F0 m pc ls (st.map (pmRe ad))) := by
  obtain ⟨v, r, rfl, h2, h3, rfl⟩ := pmSt_inv h
  obtain ⟨x, rfl⟩ := pmKd_2 h2
  exact lv_fstore_n hexec hb hdg rfl hr.2.2.2.1 (by have h9 := hr.2.2.2.2; simp only [Value.category] at h3; dsimp only at h9; omega) rfl (fun ls' h' => kk _ _ _ (hr.st1 rfl h'))
theorem pms_fstore {c' : pmC} {ps : List Prop} {k : Nat} (hdg : decode cc pc = .ok (.fstore k, 2)) (h : pmSt 2 k 2 (pc, L, st, S) = some (c', ps)) (hexec : p.tables.exec = Jvm.exec) (hb : c0.code = cc) (hr : pmRel D A H0 nL ad cA (pc, L, st, S) H locs ls) (kk : pmKk p l e R s m args below meth c0 cells slots Q D A H0 nL ad cA c') : W p l e R s m args below meth c0 H locs cells slots Q (F0 m pc ls (st.map (pmRe ad))) := by
  obtain ⟨v, r, rfl, h2, h3, rfl⟩ := pmSt_inv h
  obtain ⟨x, rfl⟩ := pmKd_2 h2
  exact lv_fstore hexec hb hdg hr.2.2.2.1 (by have h9 := hr.2.2.2.2; simp only [Value.category] at h3; dsimp only at h9; omega) rfl (fun ls' h' => kk _ _ _ (hr.st1 rfl h'))
theorem pms_dstore_n {c' : pmC} {ps : List Prop} {k : Fin 4} (hdg : decode cc pc = .ok (.dstore_n k, 1)) (h : pmSt 1 k.val 3 (pc, L, st, S) = some (c', ps)) (hexec : p.tables.exec = Jvm.exec) (hb : c0.code = cc) (hr : pmRel D A H0 nL ad cA (pc, L, st, S) H locs ls) (kk : pmKk p l e R s m args below meth c0 cells slots Q D A H0 nL ad cA c') : W p l e R s m args below meth c0 H locs cells slots Q (F0 m pc ls (st.map (pmRe ad))) := by
  obtain ⟨v, r, rfl, h2, h3, rfl⟩ := pmSt_inv h
  obtain ⟨x, rfl⟩ := pmKd_3 h2
  exact lv_dstore_n hexec hb hdg rfl hr.2.2.2.1 (by have h9 := hr.2.2.2.2; simp only [Value.category] at h3; dsimp only at h9; omega) rfl (fun ls' h' => kk _ _ _ (hr.st2 rfl h'))
theorem pms_dstore {c' : pmC} {ps : List Prop} {k : Nat} (hdg : decode cc pc = .ok (.dstore k, 2)) (h : pmSt 2 k 3 (pc, L, st, S) = some (c', ps)) (hexec : p.tables.exec = Jvm.exec) (hb : c0.code = cc) (hr : pmRel D A H0 nL ad cA (pc, L, st, S) H locs ls) (kk : pmKk p l e R s m args below meth c0 cells slots Q D A H0 nL ad cA c') : W p l e R s m args below meth c0 H locs cells slots Q (F0 m pc ls (st.map (pmRe ad))) := by
  obtain ⟨v, r, rfl, h2, h3, rfl⟩ := pmSt_inv h
  obtain ⟨x, rfl⟩ := pmKd_3 h2
  exact lv_dstore hexec hb hdg hr.2.2.2.1 (by have h9 := hr.2.2.2.2; simp only [Value.category] at h3; dsimp only at h9; omega) rfl (fun ls' h' => kk _ _ _ (hr.st2 rfl h'))
theorem pms_iinc {c' : pmC} {ps : List Prop} {k : Nat} {d : Int} (hdg : decode cc pc = .ok (.iinc k d, 3)) (h : pmInc 3 k d (pc, L, st, S) = some (c', ps)) (hexec : p.tables.exec = Jvm.exec) (hb : c0.code = cc) (hr : pmRel D A H0 nL ad cA (pc, L, st, S) H locs ls) (kk : pmKk p l e R s m args below meth c0 cells slots Q D A H0 nL ad cA c') : W p l e R s m args below meth c0 H locs cells slots Q (F0 m pc ls (st.map (pmRe ad))) := by
  unfold pmInc at h
  split at h
  · rename_i x hx
    cases h
    have h1 := pmLv_mem (ad := ad) hx
    obtain ⟨i, hi⟩ := List.getElem?_of_mem h1
    have hlt : k < nL := by
      have h9 := hr.2.2.2.2
      dsimp only at h9 hx
      have := (List.getElem?_eq_some_iff.mp hx).1
      omega
    exact lv_iinc hexec hb hdg hr.2.2.2.1 hi rfl hlt rfl (fun ls' h' => kk _ _ _ (hr.st1 rfl h'))
  · cases h
theorem pms_iconst {c' : pmC} {ps : List Prop} {n : Int} (hdg : decode cc pc = .ok (.iconst n, 1)) (h : pmPush 1 (.int (Int32.ofInt n)) (pc, L, st, S) = some (c', ps)) (hexec : p.tables.exec = Jvm.exec) (hb : c0.code = cc) (hr : pmRel D A H0 nL ad cA (pc, L, st, S) H locs ls) (kk : pmKk p l e R s m args below meth c0 cells slots Q D A H0 nL ad cA c') : W p l e R s m args below meth c0 H locs cells slots Q (F0 m pc ls (st.map (pmRe ad))) := by
  cases h
  exact lv_iconst hexec hb hdg rfl (kk _ _ _ hr)
theorem pms_bipush {c' : pmC} {ps : List Prop} {n : Int} (hdg : decode cc pc = .ok (.bipush n, 2)) (h : pmPush 2 (.int (Int8.ofInt n).toInt32) (pc, L, st, S) = some (c', ps)) (hexec : p.tables.exec = Jvm.exec) (hb : c0.code = cc) (hr : pmRel D A H0 nL ad cA (pc, L, st, S) H locs ls) (kk : pmKk p l e R s m args below meth c0 cells slots Q D A H0 nL ad cA c') : W p l e R s m args below meth c0 H locs cells slots Q (F0 m pc ls (st.map (pmRe ad))) := by
  cases h
  exact lv_bipush hexec hb hdg rfl (kk _ _ _ hr)
theorem pms_sipush {c' : pmC} {ps : List Prop} {n : Int} (hdg : decode cc pc = .ok (.sipush n, 3)) (h : pmPush 3 (.int (Int16.ofInt n).toInt32) (pc, L, st, S) = some (c', ps)) (hexec : p.tables.exec = Jvm.exec) (hb : c0.code = cc) (hr : pmRel D A H0 nL ad cA (pc, L, st, S) H locs ls) (kk : pmKk p l e R s m args below meth c0 cells slots Q D A H0 nL ad cA c') : W p l e R s m args below meth c0 H locs cells slots Q (F0 m pc ls (st.map (pmRe ad))) := by
  cases h
  exact lv_sipush hexec hb hdg rfl (kk _ _ _ hr)
theorem pms_lconst {c' : pmC} {ps : List Prop} {n : Fin 2} (hdg : decode cc pc = .ok (.lconst n, 1)) (h : pmPush 1 (.long (Int64.ofNat n.val)) (pc, L, st, S) = some (c', ps)) (hexec : p.tables.exec = Jvm.exec) (hb : c0.code = cc) (hr : pmRel D A H0 nL ad cA (pc, L, st, S) H locs ls) (kk : pmKk p l e R s m args below meth c0 cells slots Q D A H0 nL ad cA c') : W p l e R s m args below meth c0 H locs cells slots Q (F0 m pc ls (st.map (pmRe ad))) := by
  cases h
  exact lv_lconst hexec hb hdg rfl (kk _ _ _ hr)
theorem pms_fconst {c' : pmC} {ps : List Prop} {n : Fin 3} (hdg : decode cc pc = .ok (.fconst n, 1)) (h : (if n.val = 0 then pmPush 1 (.float FP.fconst0) (pc, L, st, S) else if n.val = 1 then pmPush 1 (.float FP.fconst1) (pc, L, st, S) else pmPush 1 (.float FP.fconst2) (pc, L, st, S)) = some (c', ps)) (hexec : p.tables.exec = Jvm.exec) (hb : c0.code = cc) (hr : pmRel D A H0 nL ad cA (pc, L, st, S) H locs ls) (kk : pmKk p l e R s m args below meth c0 cells slots Q D A H0 nL ad cA c') : W p l e R s m args below meth c0 H locs cells slots Q (F0 m pc ls (st.map (pmRe ad))) := by
  split at h
  · rename_i hn
    obtain rfl : n = 0 := Fin.ext hn
    cases h
    exact lv_fconst0 hexec hb hdg (kk _ _ _ hr)
  · split at h
    · rename_i hn
      obtain rfl : n = 1 := Fin.ext hn
      cases h
      exact lv_fconst1 hexec hb hdg (kk _ _ _ hr)
    · rename_i h0 h1
      obtain rfl : n = 2 := Fin.ext (by have := n.isLt; omega)
      cases h
      exact lv_fconst2 hexec hb hdg (kk _ _ _ hr)
theorem pms_dconst {c' : pmC} {ps : List Prop} {n : Fin 2} (hdg : decode cc pc = .ok (.dconst n, 1)) (h : (if n.val = 0 then pmPush 1 (.double FP.dconst0) (pc, L, st, S) else pmPush 1 (.double FP.dconst1) (pc, L, st, S)) = some (c', ps)) (hexec : p.tables.exec = Jvm.exec) (hb : c0.code = cc) (hr : pmRel D A H0 nL ad cA (pc, L, st, S) H locs ls) (kk : pmKk p l e R s m args below meth c0 cells slots Q D A H0 nL ad cA c') : W p l e R s m args below meth c0 H locs cells slots Q (F0 m pc ls (st.map (pmRe ad))) := by
  split at h
  · rename_i hn
    obtain rfl : n = 0 := Fin.ext hn
    cases h
    exact lv_dconst0 hexec hb hdg (kk _ _ _ hr)
  · rename_i hn
    obtain rfl : n = 1 := Fin.ext (by show n.val = 1; have := n.isLt; omega)
    cases h
    exact lv_dconst1 hexec hb hdg (kk _ _ _ hr)
theorem pms_iadd {c' : pmC} {ps : List Prop} (hdg : decode cc pc = .ok (.iadd, 1)) (h : pmI2 1 (fun x y => .int (x + y)) (pc, L, st, S) = some (c', ps)) (hexec : p.tables.exec = Jvm.exec) (hb : c0.code = cc) (hr : pmRel D A H0 nL ad cA (pc, L, st, S) H locs ls) (kk : pmKk p l e R s m args below meth c0 cells slots Q D A H0 nL ad cA c') : W p l e R s m args below meth c0 H locs cells slots Q (F0 m pc ls (st.map (pmRe ad))) := by
  obtain ⟨x, y, r, rfl, rfl⟩ := pmI2_inv h
  exact lv_iadd hexec hb hdg (kk _ _ _ hr)
theorem pms_isub {c' : pmC} {ps : List Prop} (hdg : decode cc pc = .ok (.isub, 1)) (h : pmI2 1 (fun x y => .int (x - y)) (pc, L, st, S) = some (c', ps)) (hexec : p.tables.exec = Jvm.exec) (hb : c0.code = cc) (hr : pmRel D A H0 nL ad cA (pc, L, st, S) H locs ls) (kk : pmKk p l e R s m args below meth c0 cells slots Q D A H0 nL ad cA c') : W p l e R s m args below meth c0 H locs cells slots Q (F0 m pc ls (st.map (pmRe ad))) := by
  obtain ⟨x, y, r, rfl, rfl⟩ := pmI2_inv h
  exact lv_isub hexec hb hdg (kk _ _ _ hr)
theorem pms_imul {c' : pmC} {ps : List Prop} (hdg : decode cc pc = .ok (.imul, 1)) (h : pmI2 1 (fun x y => .int (x * y)) (pc, L, st, S) = some (c', ps)) (hexec : p.tables.exec = Jvm.exec) (hb : c0.code = cc) (hr : pmRel D A H0 nL ad cA (pc, L, st, S) H locs ls) (kk : pmKk p l e R s m args below meth c0 cells slots Q D A H0 nL ad cA c') : W p l e R s m args below meth c0 H locs cells slots Q (F0 m pc ls (st.map (pmRe ad))) := by
  obtain ⟨x, y, r, rfl, rfl⟩ := pmI2_inv h
  exact lv_imul hexec hb hdg (kk _ _ _ hr)
theorem pms_iand {c' : pmC} {ps : List Prop} (hdg : decode cc pc = .ok (.iand, 1)) (h : pmI2 1 (fun x y => .int (x &&& y)) (pc, L, st, S) = some (c', ps)) (hexec : p.tables.exec = Jvm.exec) (hb : c0.code = cc) (hr : pmRel D A H0 nL ad cA (pc, L, st, S) H locs ls) (kk : pmKk p l e R s m args below meth c0 cells slots Q D A H0 nL ad cA c') : W p l e R s m args below meth c0 H locs cells slots Q (F0 m pc ls (st.map (pmRe ad))) := by
  obtain ⟨x, y, r, rfl, rfl⟩ := pmI2_inv h
  exact lv_iand hexec hb hdg (kk _ _ _ hr)
theorem pms_ixor {c' : pmC} {ps : List Prop} (hdg : decode cc pc = .ok (.ixor, 1)) (h : pmI2 1 (fun x y => .int (x ^^^ y)) (pc, L, st, S) = some (c', ps)) (hexec : p.tables.exec = Jvm.exec) (hb : c0.code = cc) (hr : pmRel D A H0 nL ad cA (pc, L, st, S) H locs ls) (kk : pmKk p l e R s m args below meth c0 cells slots Q D A H0 nL ad cA c') : W p l e R s m args below meth c0 H locs cells slots Q (F0 m pc ls (st.map (pmRe ad))) := by
  obtain ⟨x, y, r, rfl, rfl⟩ := pmI2_inv h
  exact lv_ixor hexec hb hdg (kk _ _ _ hr)
theorem pms_ineg {c' : pmC} {ps : List Prop} (hdg : decode cc pc = .ok (.ineg, 1)) (h : pmI1 1 (fun x => .int (-x)) (pc, L, st, S) = some (c', ps)) (hexec : p.tables.exec = Jvm.exec) (hb : c0.code = cc) (hr : pmRel D A H0 nL ad cA (pc, L, st, S) H locs ls) (kk : pmKk p l e R s m args below meth c0 cells slots Q D A H0 nL ad cA c') : W p l e R s m args below meth c0 H locs cells slots Q (F0 m pc ls (st.map (pmRe ad))) := by
  obtain ⟨x, r, rfl, rfl⟩ := pmI1_inv h
  exact lv_ineg hexec hb hdg (kk _ _ _ hr)
theorem pms_ldiv {c' : pmC} {ps : List Prop} (hdg : decode cc pc = .ok (.ldiv, 1)) (h : pmJ2p 1 (fun x y => .long (x / y)) (pc, L, st, S) = some (c', ps)) (hp : ∀ P ∈ ps, P) (hexec : p.tables.exec = Jvm.exec) (hb : c0.code = cc) (hr : pmRel D A H0 nL ad cA (pc, L, st, S) H locs ls) (kk : pmKk p l e R s m args below meth c0 cells slots Q D A H0 nL ad cA c') : W p l e R s m args below meth c0 H locs cells slots Q (F0 m pc ls (st.map (pmRe ad))) := by
  obtain ⟨x, y, r, rfl, rfl, hy⟩ := pmJ2p_inv h hp
  exact lv_ldiv hexec hb hdg hy (kk _ _ _ hr)
theorem pms_ior {c' : pmC} {ps : List Prop} (hdg : decode cc pc = .ok (.ior, 1)) (h : pmI2 1 (fun x y => .int (x ||| y)) (pc, L, st, S) = some (c', ps)) (hexec : p.tables.exec = Jvm.exec) (hb : c0.code = cc) (hr : pmRel D A H0 nL ad cA (pc, L, st, S) H locs ls) (kk : pmKk p l e R s m args below meth c0 cells slots Q D A H0 nL ad cA c') : W p l e R s m args below meth c0 H locs cells slots Q (F0 m pc ls (st.map (pmRe ad))) := by
  obtain ⟨x, y, r, rfl, rfl⟩ := pmI2_inv h
  exact lv_ior hexec hb hdg (kk _ _ _ hr)
theorem pms_ishl {c' : pmC} {ps : List Prop} (hdg : decode cc pc = .ok (.ishl, 1)) (h : pmI2 1 (fun x y => .int (x <<< (y &&& 31))) (pc, L, st, S) = some (c', ps)) (hexec : p.tables.exec = Jvm.exec) (hb : c0.code = cc) (hr : pmRel D A H0 nL ad cA (pc, L, st, S) H locs ls) (kk : pmKk p l e R s m args below meth c0 cells slots Q D A H0 nL ad cA c') : W p l e R s m args below meth c0 H locs cells slots Q (F0 m pc ls (st.map (pmRe ad))) := by
  obtain ⟨x, y, r, rfl, rfl⟩ := pmI2_inv h
  exact lv_ishl hexec hb hdg (kk _ _ _ hr)
theorem pms_ishr {c' : pmC} {ps : List Prop} (hdg : decode cc pc = .ok (.ishr, 1)) (h : pmI2 1 (fun x y => .int (x >>> (y &&& 31))) (pc, L, st, S) = some (c', ps)) (hexec : p.tables.exec = Jvm.exec) (hb : c0.code = cc) (hr : pmRel D A H0 nL ad cA (pc, L, st, S) H locs ls) (kk : pmKk p l e R s m args below meth c0 cells slots Q D A H0 nL ad cA c') : W p l e R s m args below meth c0 H locs cells slots Q (F0 m pc ls (st.map (pmRe ad))) := by
  obtain ⟨x, y, r, rfl, rfl⟩ := pmI2_inv h
  exact lv_ishr hexec hb hdg (kk _ _ _ hr)
theorem pms_iushr {c' : pmC} {ps : List Prop} (hdg : decode cc pc = .ok (.iushr, 1)) (h : pmI2 1 (fun x y => .int (x.toUInt32 >>> (y.toUInt32 &&& Int32.toUInt32 31)).toInt32) (pc, L, st, S) = some (c', ps)) (hexec : p.tables.exec = Jvm.exec) (hb : c0.code = cc) (hr : pmRel D A H0 nL ad cA (pc, L, st, S) H locs ls) (kk : pmKk p l e R s m args below meth c0 cells slots Q D A H0 nL ad cA c') : W p l e R s m args below meth c0 H locs cells slots Q (F0 m pc ls (st.map (pmRe ad))) := by
  obtain ⟨x, y, r, rfl, rfl⟩ := pmI2_inv h
  exact lv_iushr hexec hb hdg rfl (kk _ _ _ hr)
theorem pms_idiv {c' : pmC} {ps : List Prop} (hdg : decode cc pc = .ok (.idiv, 1)) (h : pmI2p 1 (fun x y => .int (x / y)) (pc, L, st, S) = some (c', ps)) (hp : ∀ P ∈ ps, P) (hexec : p.tables.exec = Jvm.exec) (hb : c0.code = cc) (hr : pmRel D A H0 nL ad cA (pc, L, st, S) H locs ls) (kk : pmKk p l e R s m args below meth c0 cells slots Q D A H0 nL ad cA c') : W p l e R s m args below meth c0 H locs cells slots Q (F0 m pc ls (st.map (pmRe ad))) := by
  obtain ⟨x, y, r, rfl, rfl, hy⟩ := pmI2p_inv h hp
  exact lv_idiv hexec hb hdg hy (kk _ _ _ hr)
theorem pms_irem {c' : pmC} {ps : List Prop} (hdg : decode cc pc = .ok (.irem, 1)) (h : pmI2p 1 (fun x y => .int (x - x / y * y)) (pc, L, st, S) = some (c', ps)) (hp : ∀ P ∈ ps, P) (hexec : p.tables.exec = Jvm.exec) (hb : c0.code = cc) (hr : pmRel D A H0 nL ad cA (pc, L, st, S) H locs ls) (kk : pmKk p l e R s m args below meth c0 cells slots Q D A H0 nL ad cA c') : W p l e R s m args below meth c0 H locs cells slots Q (F0 m pc ls (st.map (pmRe ad))) := by
  obtain ⟨x, y, r, rfl, rfl, hy⟩ := pmI2p_inv h hp
  exact lv_irem hexec hb hdg hy (kk _ _ _ hr)
theorem pms_ladd {c' : pmC} {ps : List Prop} (hdg : decode cc pc = .ok (.ladd, 1)) (h : pmJ2 1 (fun x y => .long (x + y)) (pc, L, st, S) = some (c', ps)) (hexec : p.tables.exec = Jvm.exec) (hb : c0.code = cc) (hr : pmRel D A H0 nL ad cA (pc, L, st, S) H locs ls) (kk : pmKk p l e R s m args below meth c0 cells slots Q D A H0 nL ad cA c') : W p l e R s m args below meth c0 H locs cells slots Q (F0 m pc ls (st.map (pmRe ad))) := by
  obtain ⟨x, y, r, rfl, rfl⟩ := pmJ2_inv h
  exact lv_ladd hexec hb hdg (kk _ _ _ hr)
theorem pms_lsub {c' : pmC} {ps : List Prop} (hdg : decode cc pc = .ok (.lsub, 1)) (h : pmJ2 1 (fun x y => .long (x - y)) (pc, L, st, S) = some (c', ps)) (hexec : p.tables.exec = Jvm.exec) (hb : c0.code = cc) (hr : pmRel D A H0 nL ad cA (pc, L, st, S) H locs ls) (kk : pmKk p l e R s m args below meth c0 cells slots Q D A H0 nL ad cA c') : W p l e R s m args below meth c0 H locs cells slots Q (F0 m pc ls (st.map (pmRe ad))) := by
  obtain ⟨x, y, r, rfl, rfl⟩ := pmJ2_inv h
  exact lv_lsub hexec hb hdg (kk _ _ _ hr)
theorem pms_land {c' : pmC} {ps : List Prop} (hdg : decode cc pc = .ok (.land, 1)) (h : pmJ2 1 (fun x y => .long (x &&& y)) (pc, L, st, S) = some (c', ps)) (hexec : p.tables.exec = Jvm.exec) (hb : c0.code = cc) (hr : pmRel D A H0 nL ad cA (pc, L, st, S) H locs ls) (kk : pmKk p l e R s m args below meth c0 cells slots Q D A H0 nL ad cA c') : W p l e R s m args below meth c0 H locs cells slots Q (F0 m pc ls (st.map (pmRe ad))) := by
  obtain ⟨x, y, r, rfl, rfl⟩ := pmJ2_inv h
  exact lv_land hexec hb hdg (kk _ _ _ hr)
theorem pms_lor {c' : pmC} {ps : List Prop} (hdg : decode cc pc = .ok (.lor, 1)) (h : pmJ2 1 (fun x y => .long (x ||| y)) (pc, L, st, S) = some (c', ps)) (hexec : p.tables.exec = Jvm.exec) (hb : c0.code = cc) (hr : pmRel D A H0 nL ad cA (pc, L, st, S) H locs ls) (kk : pmKk p l e R s m args below meth c0 cells slots Q D A H0 nL ad cA c') : W p l e R s m args below meth c0 H locs cells slots Q (F0 m pc ls (st.map (pmRe ad))) := by
  obtain ⟨x, y, r, rfl, rfl⟩ := pmJ2_inv h
  exact lv_lor hexec hb hdg (kk _ _ _ hr)
theorem pms_lxor {c' : pmC} {ps : List Prop} (hdg : decode cc pc = .ok (.lxor, 1)) (h : pmJ2 1 (fun x y => .long (x ^^^ y)) (pc, L, st, S) = some (c', ps)) (hexec : p.tables.exec = Jvm.exec) (hb : c0.code = cc) (hr : pmRel D A H0 nL ad cA (pc, L, st, S) H locs ls) (kk : pmKk p l e R s m args below meth c0 cells slots Q D A H0 nL ad cA c') : W p l e R s m args below meth c0 H locs cells slots Q (F0 m pc ls (st.map (pmRe ad))) := by
  obtain ⟨x, y, r, rfl, rfl⟩ := pmJ2_inv h
  exact lv_lxor hexec hb hdg (kk _ _ _ hr)
theorem pms_lcmp {c' : pmC} {ps : List Prop} (hdg : decode cc pc = .ok (.lcmp, 1)) (h : pmJ2 1 (fun x y => .int (lg_cmp x y)) (pc, L, st, S) = some (c', ps)) (hexec : p.tables.exec = Jvm.exec) (hb : c0.code = cc) (hr : pmRel D A H0 nL ad cA (pc, L, st, S) H locs ls) (kk : pmKk p l e R s m args below meth c0 cells slots Q D A H0 nL ad cA c') : W p l e R s m args below meth c0 H locs cells slots Q (F0 m pc ls (st.map (pmRe ad))) := by
  obtain ⟨x, y, r, rfl, rfl⟩ := pmJ2_inv h
  exact W.lcmp hexec hb hdg (kk _ _ _ hr)
theorem pms_lshl {c' : pmC} {ps : List Prop} (hdg : decode cc pc = .ok (.lshl, 1)) (h : pmJI 1 (fun x y => .long (x <<< (y.toInt64 &&& 63))) (pc, L, st, S) = some (c', ps)) (hexec : p.tables.exec = Jvm.exec) (hb : c0.code = cc) (hr : pmRel D A H0 nL ad cA (pc, L, st, S) H locs ls) (kk : pmKk p l e R s m args below meth c0 cells slots Q D A H0 nL ad cA c') : W p l e R s m args below meth c0 H locs cells slots Q (F0 m pc ls (st.map (pmRe ad))) := by
  obtain ⟨x, y, r, rfl, rfl⟩ := pmJI_inv h
  exact lv_lshl hexec hb hdg rfl (kk _ _ _ hr)
theorem pms_lushr {c' : pmC} {ps : List Prop} (hdg : decode cc pc = .ok (.lushr, 1)) (h : pmJI 1 (fun x y => .long (x.toUInt64 >>> (y.toInt64.toUInt64 &&& Int64.toUInt64 63)).toInt64) (pc, L, st, S) = some (c', ps)) (hexec : p.tables.exec = Jvm.exec) (hb : c0.code = cc) (hr : pmRel D A H0 nL ad cA (pc, L, st, S) H locs ls) (kk : pmKk p l e R s m args below meth c0 cells slots Q D A H0 nL ad cA c') : W p l e R s m args below meth c0 H locs cells slots Q (F0 m pc ls (st.map (pmRe ad))) := by
  obtain ⟨x, y, r, rfl, rfl⟩ := pmJI_inv h
  exact lv_lushr hexec hb hdg rfl (kk _ _ _ hr)
theorem pms_i2l {c' : pmC} {ps : List Prop} (hdg : decode cc pc = .ok (.i2l, 1)) (h : pmI1 1 (fun x => .long x.toInt64) (pc, L, st, S) = some (c', ps)) (hexec : p.tables.exec = Jvm.exec) (hb : c0.code = cc) (hr : pmRel D A H0 nL ad cA (pc, L, st, S) H locs ls) (kk : pmKk p l e R s m args below meth c0 cells slots Q D A H0 nL ad cA c') : W p l e R s m args below meth c0 H locs cells slots Q (F0 m pc ls (st.map (pmRe ad))) := by
  obtain ⟨x, r, rfl, rfl⟩ := pmI1_inv h
  exact lv_i2l hexec hb hdg rfl (kk _ _ _ hr)
theorem pms_i2c {c' : pmC} {ps : List Prop} (hdg : decode cc pc = .ok (.i2c, 1)) (h : pmI1 1 (fun x => .int (x.toUInt32 % 65536).toInt32) (pc, L, st, S) = some (c', ps)) (hexec : p.tables.exec = Jvm.exec) (hb : c0.code = cc) (hr : pmRel D A H0 nL ad cA (pc, L, st, S) H locs ls) (kk : pmKk p l e R s m args below meth c0 cells slots Q D A H0 nL ad cA c') : W p l e R s m args below meth c0 H locs cells slots Q (F0 m pc ls (st.map (pmRe ad))) := by
  obtain ⟨x, r, rfl, rfl⟩ := pmI1_inv h
  exact lv_i2c hexec hb hdg rfl (kk _ _ _ hr)
theorem pms_i2f {c' : pmC} {ps : List Prop} (hdg : decode cc pc = .ok (.i2f, 1)) (h : pmI1 1 (fun x => .float (FP.i2f x)) (pc, L, st, S) = some (c', ps)) (hexec : p.tables.exec = Jvm.exec) (hb : c0.code = cc) (hr : pmRel D A H0 nL ad cA (pc, L, st, S) H locs ls) (kk : pmKk p l e R s m args below meth c0 cells slots Q D A H0 nL ad cA c') : W p l e R s m args below meth c0 H locs cells slots Q (F0 m pc ls (st.map (pmRe ad))) := by
  obtain ⟨x, r, rfl, rfl⟩ := pmI1_inv h
  exact lv_i2f hexec hb hdg (kk _ _ _ hr)
theorem pms_i2d {c' : pmC} {ps : List Prop} (hdg : decode cc pc = .ok (.i2d, 1)) (h : pmI1 1 (fun x => .double (FP.i2d x)) (pc, L, st, S) = some (c', ps)) (hexec : p.tables.exec = Jvm.exec) (hb : c0.code = cc) (hr : pmRel D A H0 nL ad cA (pc, L, st, S) H locs ls) (kk : pmKk p l e R s m args below meth c0 cells slots Q D A H0 nL ad cA c') : W p l e R s m args below meth c0 H locs cells slots Q (F0 m pc ls (st.map (pmRe ad))) := by
  obtain ⟨x, r, rfl, rfl⟩ := pmI1_inv h
  exact lv_i2d hexec hb hdg (kk _ _ _ hr)
theorem pms_l2i {c' : pmC} {ps : List Prop} (hdg : decode cc pc = .ok (.l2i, 1)) (h : pmJ1 1 (fun x => .int x.toInt32) (pc, L, st, S) = some (c', ps)) (hexec : p.tables.exec = Jvm.exec) (hb : c0.code = cc) (hr : pmRel D A H0 nL ad cA (pc, L, st, S) H locs ls) (kk : pmKk p l e R s m args below meth c0 cells slots Q D A H0 nL ad cA c') : W p l e R s m args below meth c0 H locs cells slots Q (F0 m pc ls (st.map (pmRe ad))) := by
  obtain ⟨x, r, rfl, rfl⟩ := pmJ1_inv h
  exact lv_l2i hexec hb hdg rfl (kk _ _ _ hr)
theorem pms_d2l {c' : pmC} {ps : List Prop} (hdg : decode cc pc = .ok (.d2l, 1)) (h : pmD1 1 (fun x => .long (FP.d2l x)) (pc, L, st, S) = some (c', ps)) (hexec : p.tables.exec = Jvm.exec) (hb : c0.code = cc) (hr : pmRel D A H0 nL ad cA (pc, L, st, S) H locs ls) (kk : pmKk p l e R s m args below meth c0 cells slots Q D A H0 nL ad cA c') : W p l e R s m args below meth c0 H locs cells slots Q (F0 m pc ls (st.map (pmRe ad))) := by
  obtain ⟨x, r, rfl, rfl⟩ := pmD1_inv h
  exact lv_d2l hexec hb hdg (kk _ _ _ hr)
theorem pms_f2d {c' : pmC} {ps : List Prop} (hdg : decode cc pc = .ok (.f2d, 1)) (h : pmF1 1 (fun x => .double (FP.f2d x)) (fun x => [vf_n64 (FP.f2d x)]) (pc, L, st, S) = some (c', ps)) (hp : ∀ P ∈ ps, P) (hexec : p.tables.exec = Jvm.exec) (hb : c0.code = cc) (hr : pmRel D A H0 nL ad cA (pc, L, st, S) H locs ls) (kk : pmKk p l e R s m args below meth c0 cells slots Q D A H0 nL ad cA c') : W p l e R s m args below meth c0 H locs cells slots Q (F0 m pc ls (st.map (pmRe ad))) := by
  obtain ⟨x, r, rfl, rfl, hq⟩ := pmF1_inv h hp
  exact lv_f2d hexec hb hdg (hq _ List.mem_cons_self) (kk _ _ _ hr)
theorem pms_f2i {c' : pmC} {ps : List Prop} (hdg : decode cc pc = .ok (.f2i, 1)) (h : pmF1 1 (fun x => .int (FP.f2i x)) (fun _ => []) (pc, L, st, S) = some (c', ps)) (hp : ∀ P ∈ ps, P) (hexec : p.tables.exec = Jvm.exec) (hb : c0.code = cc) (hr : pmRel D A H0 nL ad cA (pc, L, st, S) H locs ls) (kk : pmKk p l e R s m args below meth c0 cells slots Q D A H0 nL ad cA c') : W p l e R s m args below meth c0 H locs cells slots Q (F0 m pc ls (st.map (pmRe ad))) := by
  obtain ⟨x, r, rfl, rfl, hq⟩ := pmF1_inv h hp
  exact lv_f2i hexec hb hdg (kk _ _ _ hr)
theorem pms_fdiv {c' : pmC} {ps : List Prop} (hdg : decode cc pc = .ok (.fdiv, 1)) (h : pmF2 1 (fun x y => .float (FP.fdiv x y)) (fun x y => [vf_n32 (FP.fdiv x y)]) (pc, L, st, S) = some (c', ps)) (hp : ∀ P ∈ ps, P) (hexec : p.tables.exec = Jvm.exec) (hb : c0.code = cc) (hr : pmRel D A H0 nL ad cA (pc, L, st, S) H locs ls) (kk : pmKk p l e R s m args below meth c0 cells slots Q D A H0 nL ad cA c') : W p l e R s m args below meth c0 H locs cells slots Q (F0 m pc ls (st.map (pmRe ad))) := by
  obtain ⟨x, y, r, rfl, rfl, hq⟩ := pmF2_inv h hp
  exact lv_fdiv hexec hb hdg (hq _ List.mem_cons_self) (kk _ _ _ hr)
theorem pms_fmul {c' : pmC} {ps : List Prop} (hdg : decode cc pc = .ok (.fmul, 1)) (h : pmF2 1 (fun x y => .float (FP.fmul x y)) (fun x y => [vf_n32 (FP.fmul x y)]) (pc, L, st, S) = some (c', ps)) (hp : ∀ P ∈ ps, P) (hexec : p.tables.exec = Jvm.exec) (hb : c0.code = cc) (hr : pmRel D A H0 nL ad cA (pc, L, st, S) H locs ls) (kk : pmKk p l e R s m args below meth c0 cells slots Q D A H0 nL ad cA c') : W p l e R s m args below meth c0 H locs cells slots Q (F0 m pc ls (st.map (pmRe ad))) := by
  obtain ⟨x, y, r, rfl, rfl, hq⟩ := pmF2_inv h hp
  exact lv_fmul hexec hb hdg (hq _ List.mem_cons_self) (kk _ _ _ hr)
theorem pms_fsub {c' : pmC} {ps : List Prop} (hdg : decode cc pc = .ok (.fsub, 1)) (h : pmF2 1 (fun x y => .float (FP.fsub x y)) (fun x y => [vf_n32 (FP.fsub x y)]) (pc, L, st, S) = some (c', ps)) (hp : ∀ P ∈ ps, P) (hexec : p.tables.exec = Jvm.exec) (hb : c0.code = cc) (hr : pmRel D A H0 nL ad cA (pc, L, st, S) H locs ls) (kk : pmKk p l e R s m args below meth c0 cells slots Q D A H0 nL ad cA c') : W p l e R s m args below meth c0 H locs cells slots Q (F0 m pc ls (st.map (pmRe ad))) := by
  obtain ⟨x, y, r, rfl, rfl, hq⟩ := pmF2_inv h hp
  exact lv_fsub hexec hb hdg (hq _ List.mem_cons_self) (kk _ _ _ hr)
theorem pms_ddiv {c' : pmC} {ps : List Prop} (hdg : decode cc pc = .ok (.ddiv, 1)) (h : pmD2 1 (fun x y => .double (FP.ddiv x y)) (fun x y => [vf_n64 (FP.ddiv x y)]) (pc, L, st, S) = some (c', ps)) (hp : ∀ P ∈ ps, P) (hexec : p.tables.exec = Jvm.exec) (hb : c0.code = cc) (hr : pmRel D A H0 nL ad cA (pc, L, st, S) H locs ls) (kk : pmKk p l e R s m args below meth c0 cells slots Q D A H0 nL ad cA c') : W p l e R s m args below meth c0 H locs cells slots Q (F0 m pc ls (st.map (pmRe ad))) := by
  obtain ⟨x, y, r, rfl, rfl, hq⟩ := pmD2_inv h hp
  exact lv_ddiv hexec hb hdg (hq _ List.mem_cons_self) (kk _ _ _ hr)
theorem pms_dmul {c' : pmC} {ps : List Prop} (hdg : decode cc pc = .ok (.dmul, 1)) (h : pmD2 1 (fun x y => .double (FP.dmul x y)) (fun x y => [vf_n64 (FP.dmul x y)]) (pc, L, st, S) = some (c', ps)) (hp : ∀ P ∈ ps, P) (hexec : p.tables.exec = Jvm.exec) (hb : c0.code = cc) (hr : pmRel D A H0 nL ad cA (pc, L, st, S) H locs ls) (kk : pmKk p l e R s m args below meth c0 cells slots Q D A H0 nL ad cA c') : W p l e R s m args below meth c0 H locs cells slots Q (F0 m pc ls (st.map (pmRe ad))) := by
  obtain ⟨x, y, r, rfl, rfl, hq⟩ := pmD2_inv h hp
  exact lv_dmul hexec hb hdg (hq _ List.mem_cons_self) (kk _ _ _ hr)
theorem pms_dsub {c' : pmC} {ps : List Prop} (hdg : decode cc pc = .ok (.dsub, 1)) (h : pmD2 1 (fun x y => .double (FP.dsub x y)) (fun x y => [vf_n64 (FP.dsub x y)]) (pc, L, st, S) = some (c', ps)) (hp : ∀ P ∈ ps, P) (hexec : p.tables.exec = Jvm.exec) (hb : c0.code = cc) (hr : pmRel D A H0 nL ad cA (pc, L, st, S) H locs ls) (kk : pmKk p l e R s m args below meth c0 cells slots Q D A H0 nL ad cA c') : W p l e R s m args below meth c0 H locs cells slots Q (F0 m pc ls (st.map (pmRe ad))) := by
  obtain ⟨x, y, r, rfl, rfl, hq⟩ := pmD2_inv h hp
  exact lv_dsub hexec hb hdg (hq _ List.mem_cons_self) (kk _ _ _ hr)
theorem pms_fcmp {c' : pmC} {ps : List Prop} {op : CmpOp} (hdg : decode cc pc = .ok (.fcmp op, 1)) (h : pmF2 1 (fun x y => .int (Op.cmpValue (FP.fcmp x y) op)) (fun _ _ => []) (pc, L, st, S) = some (c', ps)) (hp : ∀ P ∈ ps, P) (hexec : p.tables.exec = Jvm.exec) (hb : c0.code = cc) (hr : pmRel D A H0 nL ad cA (pc, L, st, S) H locs ls) (kk : pmKk p l e R s m args below meth c0 cells slots Q D A H0 nL ad cA c') : W p l e R s m args below meth c0 H locs cells slots Q (F0 m pc ls (st.map (pmRe ad))) := by
  obtain ⟨x, y, r, rfl, rfl, hq⟩ := pmF2_inv h hp
  exact lv_fcmp hexec hb hdg (kk _ _ _ hr)
theorem pms_dcmp {c' : pmC} {ps : List Prop} {op : CmpOp} (hdg : decode cc pc = .ok (.dcmp op, 1)) (h : pmD2 1 (fun x y => .int (Op.cmpValue (FP.dcmp x y) op)) (fun _ _ => []) (pc, L, st, S) = some (c', ps)) (hp : ∀ P ∈ ps, P) (hexec : p.tables.exec = Jvm.exec) (hb : c0.code = cc) (hr : pmRel D A H0 nL ad cA (pc, L, st, S) H locs ls) (kk : pmKk p l e R s m args below meth c0 cells slots Q D A H0 nL ad cA c') : W p l e R s m args below meth c0 H locs cells slots Q (F0 m pc ls (st.map (pmRe ad))) := by
  obtain ⟨x, y, r, rfl, rfl, hq⟩ := pmD2_inv h hp
  exact lv_dcmp hexec hb hdg (kk _ _ _ hr)
theorem pms_if {c' : pmC} {ps : List Prop} {b : Nat} {k : Jvm.ClassFile.Cond} {off : Int} (hdg : decode cc pc = .ok (.ifCond k off, 3)) (h : pmIf b k off (pc, L, st, S) = some (c', ps)) (hp : ∀ P ∈ ps, P) (hexec : p.tables.exec = Jvm.exec) (hb : c0.code = cc) (hr : pmRel D A H0 nL ad cA (pc, L, st, S) H locs ls) (kk : pmKk p l e R s m args below meth c0 cells slots Q D A H0 nL ad cA c') : W p l e R s m args below meth c0 H locs cells slots Q (F0 m pc ls (st.map (pmRe ad))) := by
  unfold pmIf at h
  split at h
  · rename_i x r hs
    dsimp only at hs
    subst hs
    obtain ⟨tgt, ht, ⟨hc, rfl⟩ | ⟨hc, rfl⟩⟩ := pmBr_inv h hp
    · cases k
      · exact lv_if_eq hexec hb hdg ht (fun z => absurd z hc) (fun _ => kk _ _ _ hr)
      · exact lv_if_ne hexec hb hdg ht (fun z => absurd z hc) (fun _ => kk _ _ _ hr)
      · exact lv_if_lt hexec hb hdg ht (fun z => absurd z hc) (fun _ => kk _ _ _ hr)
      · exact lv_if_ge hexec hb hdg ht (fun z => absurd z hc) (fun _ => kk _ _ _ hr)
      · exact lv_if_gt hexec hb hdg ht (fun z => absurd z hc) (fun _ => kk _ _ _ hr)
      · exact lv_if_le hexec hb hdg ht (fun z => absurd z hc) (fun _ => kk _ _ _ hr)
    · cases k
      · exact lv_if_eq hexec hb hdg ht (fun _ => kk _ _ _ hr) (fun z => absurd hc z)
      · exact lv_if_ne hexec hb hdg ht (fun _ => kk _ _ _ hr) (fun z => absurd z hc)
      · exact lv_if_lt hexec hb hdg ht (fun _ => kk _ _ _ hr) (fun z => absurd hc z)
      · exact lv_if_ge hexec hb hdg ht (fun _ => kk _ _ _ hr) (fun z => absurd hc z)
      · exact lv_if_gt hexec hb hdg ht (fun _ => kk _ _ _ hr) (fun z => absurd hc z)
      · exact lv_if_le hexec hb hdg ht (fun _ => kk _ _ _ hr) (fun z => absurd hc z)
  · cases h
theorem pms_ic {c' : pmC} {ps : List Prop} {b : Nat} {k : Jvm.ClassFile.Cond} {off : Int} (hdg : decode cc pc = .ok (.if_icmp k off, 3)) (h : pmIc b k off (pc, L, st, S) = some (c', ps)) (hp : ∀ P ∈ ps, P) (hexec : p.tables.exec = Jvm.exec) (hb : c0.code = cc) (hr : pmRel D A H0 nL ad cA (pc, L, st, S) H locs ls) (kk : pmKk p l e R s m args below meth c0 cells slots Q D A H0 nL ad cA c') : W p l e R s m args below meth c0 H locs cells slots Q (F0 m pc ls (st.map (pmRe ad))) := by
  unfold pmIc at h
  split at h
  · rename_i y x r hs
    dsimp only at hs
    subst hs
    obtain ⟨tgt, ht, ⟨hc, rfl⟩ | ⟨hc, rfl⟩⟩ := pmBr_inv h hp
    · cases k
      · exact lv_icmp_eq hexec hb hdg ht (fun z => absurd z hc) (fun _ => kk _ _ _ hr)
      · exact lv_icmp_ne hexec hb hdg ht (fun z => absurd z hc) (fun _ => kk _ _ _ hr)
      · exact lv_icmp_lt hexec hb hdg ht (fun z => absurd z hc) (fun _ => kk _ _ _ hr)
      · exact lv_icmp_ge hexec hb hdg ht (fun z => absurd z hc) (fun _ => kk _ _ _ hr)
      · exact lv_icmp_gt hexec hb hdg ht (fun z => absurd z hc) (fun _ => kk _ _ _ hr)
      · exact lv_icmp_le hexec hb hdg ht (fun z => absurd z hc) (fun _ => kk _ _ _ hr)
    · cases k
      · exact lv_icmp_eq hexec hb hdg ht (fun _ => kk _ _ _ hr) (fun z => absurd hc z)
      · exact lv_icmp_ne hexec hb hdg ht (fun _ => kk _ _ _ hr) (fun z => absurd z hc)
      · exact lv_icmp_lt hexec hb hdg ht (fun _ => kk _ _ _ hr) (fun z => absurd hc z)
      · exact lv_icmp_ge hexec hb hdg ht (fun _ => kk _ _ _ hr) (fun z => absurd hc z)
      · exact lv_icmp_gt hexec hb hdg ht (fun _ => kk _ _ _ hr) (fun z => absurd hc z)
      · exact lv_icmp_le hexec hb hdg ht (fun _ => kk _ _ _ hr) (fun z => absurd hc z)
  · cases h
theorem pms_ifnull {c' : pmC} {ps : List Prop} {off : Int} (hdg : decode cc pc = .ok (.ifnull off, 3)) (h : pmNu off (pc, L, st, S) = some (c', ps)) (hexec : p.tables.exec = Jvm.exec) (hb : c0.code = cc) (hr : pmRel D A H0 nL ad cA (pc, L, st, S) H locs ls) (kk : pmKk p l e R s m args below meth c0 cells slots Q D A H0 nL ad cA c') : W p l e R s m args below meth c0 H locs cells slots Q (F0 m pc ls (st.map (pmRe ad))) := by
  unfold pmNu at h
  split at h
  · rename_i x r hs
    dsimp only at hs
    subst hs
    cases h
    exact lv_ifnull hexec hb hdg (kk _ _ _ hr)
  · rename_i r hs
    dsimp only at hs
    subst hs
    obtain ⟨tgt, ht, rfl, -⟩ := pmTgt_inv h
    exact lv_ifnullN hexec hb hdg ht (kk _ _ _ hr)
  · cases h
theorem pms_ifnonnull {c' : pmC} {ps : List Prop} {off : Int} (hdg : decode cc pc = .ok (.ifnonnull off, 3)) (h : pmNn off (pc, L, st, S) = some (c', ps)) (hexec : p.tables.exec = Jvm.exec) (hb : c0.code = cc) (hr : pmRel D A H0 nL ad cA (pc, L, st, S) H locs ls) (kk : pmKk p l e R s m args below meth c0 cells slots Q D A H0 nL ad cA c') : W p l e R s m args below meth c0 H locs cells slots Q (F0 m pc ls (st.map (pmRe ad))) := by
  unfold pmNn at h
  split at h
  · rename_i x r hs
    dsimp only at hs
    subst hs
    obtain ⟨tgt, ht, rfl, -⟩ := pmTgt_inv h
    exact lv_ifnonnull hexec hb hdg ht (kk _ _ _ hr)
  · rename_i r hs
    dsimp only at hs
    subst hs
    cases h
    exact lv_ifnonnullN hexec hb hdg (kk _ _ _ hr)
  · cases h
theorem pms_goto {c' : pmC} {ps : List Prop} {off : Int} (hdg : decode cc pc = .ok (.goto off, 3)) (h : pmTgt (pc, L, st, S) off st [] = some (c', ps)) (hexec : p.tables.exec = Jvm.exec) (hb : c0.code = cc) (hr : pmRel D A H0 nL ad cA (pc, L, st, S) H locs ls) (kk : pmKk p l e R s m args below meth c0 cells slots Q D A H0 nL ad cA c') : W p l e R s m args below meth c0 H locs cells slots Q (F0 m pc ls (st.map (pmRe ad))) := by
  obtain ⟨tgt, ht, rfl, -⟩ := pmTgt_inv h
  exact lv_goto hexec hb hdg ht (kk _ _ _ hr)
theorem pms_tableswitch {c' : pmC} {ps : List Prop} {b n : Nat} {dflt lo hi : Int} {offs : Array Int} (hdg : decode cc pc = .ok (.tableswitch dflt lo hi offs, n)) (h : pmTb b dflt lo hi offs (pc, L, st, S) = some (c', ps)) (hp : ∀ P ∈ ps, P) (hexec : p.tables.exec = Jvm.exec) (hb : c0.code = cc) (hr : pmRel D A H0 nL ad cA (pc, L, st, S) H locs ls) (kk : pmKk p l e R s m args below meth c0 cells slots Q D A H0 nL ad cA c') : W p l e R s m args below meth c0 H locs cells slots Q (F0 m pc ls (st.map (pmRe ad))) := by
  unfold pmTb at h
  split at h
  · rename_i x r hs
    dsimp only at hs
    subst hs
    split at h
    · rename_i off ho
      split at h
      · rename_i hhi
        obtain ⟨tgt, ht, rfl, rfl⟩ := pmTgt_inv h
        have hx : x.toInt = lo + b := hp _ List.mem_cons_self
        exact lv_tableIn hexec hb hdg (by omega) (by omega) (by rw [hx, show (lo + (b : Int) - lo).toNat = b by omega]; exact ho) ht (kk _ _ _ hr)
      · cases h
    · obtain ⟨tgt, ht, rfl, rfl⟩ := pmTgt_inv h
      exact lv_tableOut hexec hb hdg (hp _ List.mem_cons_self) ht (kk _ _ _ hr)
  · cases h
theorem pms_lookupswitch {c' : pmC} {ps : List Prop} {b n : Nat} {dflt : Int} {qs : Array (Int × Int)} (hdg : decode cc pc = .ok (.lookupswitch dflt qs, n)) (h : pmLk b dflt qs (pc, L, st, S) = some (c', ps)) (hp : ∀ P ∈ ps, P) (hexec : p.tables.exec = Jvm.exec) (hb : c0.code = cc) (hr : pmRel D A H0 nL ad cA (pc, L, st, S) H locs ls) (kk : pmKk p l e R s m args below meth c0 cells slots Q D A H0 nL ad cA c') : W p l e R s m args below meth c0 H locs cells slots Q (F0 m pc ls (st.map (pmRe ad))) := by
  unfold pmLk at h
  split at h
  · rename_i x r hs
    dsimp only at hs
    subst hs
    split at h
    · rename_i hq
      split at h
      · rename_i q ho
        obtain ⟨tgt, ht, rfl, rfl⟩ := pmTgt_inv h
        have h1 : x.toInt = q.1 := hp _ List.mem_cons_self
        have h2 : Op.lookupswitch.offset qs.toList dflt q.1 = q.2 := hp _ (List.mem_cons_of_mem _ List.mem_cons_self)
        exact lv_lookup hexec hb hdg hq (by rw [h1]; exact h2) ht (kk _ _ _ hr)
      · obtain ⟨tgt, ht, rfl, rfl⟩ := pmTgt_inv h
        exact lv_lookup hexec hb hdg hq (hp _ List.mem_cons_self) ht (kk _ _ _ hr)
    · cases h
  · cases h
theorem pms_dup {c' : pmC} {ps : List Prop} (hdg : decode cc pc = .ok (.dup, 1)) (h : pmDup (pc, L, st, S) = some (c', ps)) (hexec : p.tables.exec = Jvm.exec) (hb : c0.code = cc) (hr : pmRel D A H0 nL ad cA (pc, L, st, S) H locs ls) (kk : pmKk p l e R s m args below meth c0 cells slots Q D A H0 nL ad cA c') : W p l e R s m args below meth c0 H locs cells slots Q (F0 m pc ls (st.map (pmRe ad))) := by
  unfold pmDup at h
  split at h
  · rename_i v r hs
    dsimp only at hs
    subst hs
    split at h
    · rename_i hv
      cases h
      exact lv_dup hexec hb hdg ((pmRe_cat ad v).trans hv) (kk _ _ _ hr)
    · cases h
  · cases h
theorem pms_dup2 {c' : pmC} {ps : List Prop} (hdg : decode cc pc = .ok (.dup2, 1)) (h : pmDup2 (pc, L, st, S) = some (c', ps)) (hexec : p.tables.exec = Jvm.exec) (hb : c0.code = cc) (hr : pmRel D A H0 nL ad cA (pc, L, st, S) H locs ls) (kk : pmKk p l e R s m args below meth c0 cells slots Q D A H0 nL ad cA c') : W p l e R s m args below meth c0 H locs cells slots Q (F0 m pc ls (st.map (pmRe ad))) := by
  unfold pmDup2 at h
  split at h
  · rename_i v w r hs
    dsimp only at hs
    subst hs
    split at h
    · rename_i hv
      cases h
      exact lv_dup2_11 hexec hb hdg ((pmRe_cat ad v).trans hv.1) ((pmRe_cat ad w).trans hv.2) (kk _ _ _ hr)
    · cases h
  · cases h
theorem pms_pop {c' : pmC} {ps : List Prop} (hdg : decode cc pc = .ok (.pop, 1)) (h : pmPop (pc, L, st, S) = some (c', ps)) (hexec : p.tables.exec = Jvm.exec) (hb : c0.code = cc) (hr : pmRel D A H0 nL ad cA (pc, L, st, S) H locs ls) (kk : pmKk p l e R s m args below meth c0 cells slots Q D A H0 nL ad cA c') : W p l e R s m args below meth c0 H locs cells slots Q (F0 m pc ls (st.map (pmRe ad))) := by
  unfold pmPop at h
  split at h
  · rename_i v r hs
    dsimp only at hs
    subst hs
    split at h
    · rename_i hv
      cases h
      exact lv_pop hexec hb hdg ((pmRe_cat ad v).trans hv) (kk _ _ _ hr)
    · cases h
  · cases h
end PMS2
