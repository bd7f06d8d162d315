/-! PM: fields and arrays; then the row of all steps -/
theorem pmWr_ok {t : FieldType} {v : Value} {μ μ' : pmM} {q k : Nat} (ad : Nat → Nat) (h : pmWr t v μ q k = some μ') :
    pmRd t μ' q k = v ∧ (∀ j, j ≠ k → ∀ t', pmRd t' μ' q j = pmRd t' μ q j) ∧ (∀ i, i ≠ q → μ'.1 i = μ.1 i ∧ μ'.2.1 i = μ.2.1 i ∧ μ'.2.2.1 i = μ.2.2.1 i ∧ μ'.2.2.2 i = μ.2.2.2 i) ∧ narrow t (pmRe ad v) = pmRe ad v ∧ fits t (pmRe ad v) = true := by
  unfold pmWr at h
  split at h
  · split at h
    · cases h
      refine ⟨?_, ?_, ?_, rfl, rfl⟩
      · show Value.long _ = _; simp only [pmU_at]; simp
      · intro j hj t'; unfold pmRd; simp only [pmU_at]; split <;> simp [hj]
      · intro i hi; exact ⟨rfl, pmU_ne _ _ hi, rfl, rfl⟩
    · cases h
  · split at h
    · cases h
      refine ⟨?_, ?_, ?_, rfl, rfl⟩
      · show Value.int _ = _; simp only [pmU_at]; simp
      · intro j hj t'; unfold pmRd; simp only [pmU_at]; split <;> simp [hj]
      · intro i hi; exact ⟨pmU_ne _ _ hi, rfl, rfl, rfl⟩
    · cases h
  · split at h
    · rename_i x
      split at h
      · rename_i hx
        cases h
        refine ⟨?_, ?_, ?_, ?_, ?_⟩
        · show Value.int _ = _; simp only [pmU_at]; simp
        · intro j hj t'; unfold pmRd; simp only [pmU_at]; split <;> simp [hj]
        · intro i hi; exact ⟨pmU_ne _ _ hi, rfl, rfl, rfl⟩
        · rcases hx with rfl | rfl <;> rfl
        · rcases hx with rfl | rfl <;> rfl
      · cases h
    · cases h
  · split at h
    · rename_i x
      split at h
      · rename_i hx
        cases h
        refine ⟨?_, ?_, ?_, ?_, ?_⟩
        · show Value.int _ = _; simp only [pmU_at]; simp
        · intro j hj t'; unfold pmRd; simp only [pmU_at]; split <;> simp [hj]
        · intro i hi; exact ⟨pmU_ne _ _ hi, rfl, rfl, rfl⟩
        · subst hx; rfl
        · subst hx; rfl
      · cases h
    · cases h
  · split at h
    · cases h
      refine ⟨?_, ?_, ?_, rfl, rfl⟩
      · show va_rf _ = _; simp only [pmU_at]; simp [va_rf]
      · intro j hj t'; unfold pmRd; simp only [pmU_at]; split <;> simp [hj]
      · intro i hi; exact ⟨rfl, rfl, pmU_ne _ _ hi, rfl⟩
    · cases h
  · split at h
    · cases h
      refine ⟨?_, ?_, ?_, rfl, rfl⟩
      · show va_rf _ = _; simp only [pmU_at]; simp [va_rf]
      · intro j hj t'; unfold pmRd; simp only [pmU_at]; split <;> simp [hj]
      · intro i hi; exact ⟨rfl, rfl, pmU_ne _ _ hi, rfl⟩
    · cases h
  · cases h
theorem pm_row_set {f g : Nat → Value} {N k : Nat} (hk : k < N) (ho : ∀ j, j ≠ k → g j = f j) : (List.range N).map g = ((List.range N).map f).set k (g k) := by
  refine List.ext_getElem? fun i => ?_
  rw [List.getElem?_set, List.getElem?_map, List.length_map, List.length_range]
  by_cases hi : k = i
  · subst hi
    rw [if_pos rfl, if_pos hk, List.getElem?_range hk]
    rfl
  · rw [if_neg hi, List.getElem?_map]
    cases h : (List.range N)[i]? with
    | none => rfl
    | some z =>
      have hz : z = i := by
        obtain ⟨h1, h2⟩ := List.getElem?_eq_some_iff.mp h
        rw [List.getElem_range] at h2
        exact h2.symm
      subst hz
      exact congrArg some (ho z (fun z => hi z.symm))
theorem pmRe_rf (ad : Nat → Nat) (r : Option Nat) : pmRe ad (va_rf r) = va_rf (r.map ad) := by cases r <;> rfl
theorem pmCl_nm {c : Nat} (h : c < 11) : ∀ a, a < pmN c → ∀ b, b < pmN c → a ≠ b → (pmT c a).2.1 ≠ (pmT c b).2.1 := by
  rcases (show c = 0 ∨ c = 1 ∨ c = 2 ∨ c = 3 ∨ c = 4 ∨ c = 5 ∨ c = 6 ∨ c = 7 ∨ c = 8 ∨ c = 9 ∨ c = 10 by omega) with rfl | rfl | rfl | rfl | rfl | rfl | rfl | rfl | rfl | rfl | rfl
  · exact nmX0
  · exact nmX1
  · exact nmX2
  · exact nmX3
  · exact nmX4
  · exact nmX5
  · exact nmX6
  · exact nmX7
  · exact nmX8
  · exact nmJ0
  · exact nmJ4
theorem pmCl_ty {c : Nat} (h : c < 11) : ∀ k, k < pmN c → parseFieldDescriptor (pmT c k).2.2.1 = some (pmTy c k) := by
  rcases (show c = 0 ∨ c = 1 ∨ c = 2 ∨ c = 3 ∨ c = 4 ∨ c = 5 ∨ c = 6 ∨ c = 7 ∨ c = 8 ∨ c = 9 ∨ c = 10 by omega) with rfl | rfl | rfl | rfl | rfl | rfl | rfl | rfl | rfl | rfl | rfl
  · exact tyX0_ok
  · exact tyX1_ok
  · exact tyX2_ok
  · exact tyX3_ok
  · exact tyX4_ok
  · exact tyX5_ok
  · exact tyX6_ok
  · exact tyX7_ok
  · exact tyX8_ok
  · exact tyJ0_ok
  · exact tyJ4_ok
section PMS3
variable {p : Program} {l : Launch} {e : Env} {R : Room} {s : State} {m : MethodId} {args : Array Value} {below : List Frame} {meth : Method} {c0 : Code} {H H0 : Heap} {locs : List Loc} {cells slots : Nat} {Q : State → Prop}
variable {cc : ByteArray} {ls : Array Slot} {A : Nat → Prop} {D : va_G} {nL : Nat} {ad : Nat → Nat} {cA : Nat → ClassId} {pc : Nat} {L : List (Option Value)} {S : pmS} {st rest : List Value}
theorem pms_getfield {c' : pmC} {ps : List Prop} {own : String} {ini : Bool} {k : Nat} {x : Nat × Nat} (hdg : decode cc pc = .ok (.getfield k, 3)) (h : pmGet x (pc, L, st, S) = some (c', ps)) (hws : ∀ w ∈ pmWs own (.getfield k) x, w.before args s = true) (hok : pmOk ini own (.getfield k) x = true) (hown : s.vm.findClass own = some m.cls) (hK : va_K D pmCl (pmTs cA) s) (hexec : p.tables.exec = Jvm.exec) (hb : c0.code = cc) (hr : pmRel D A H0 nL ad cA (pc, L, st, S) H locs ls) (kk : pmKk p l e R s m args below meth c0 cells slots Q D A H0 nL ad cA c') : W p l e R s m args below meth c0 H locs cells slots Q (F0 m pc ls (st.map (pmRe ad))) := by
  unfold pmGet at h
  split at h
  · rename_i q r hs
    dsimp only at hs
    subst hs
    split at h
    · rename_i ci hq
      split at h
      · rename_i hc
        obtain ⟨⟨hc1, hc10⟩, hc2⟩ := hc
        subst hc1
        cases h
        have hws : ∀ w ∈ (.fieldLink own k (pmT x.1 x.2).1 (pmT x.1 x.2).2.1 (pmT x.1 x.2).2.2.1 :: u_ws (pmCN x.1) (pmT x.1) (pmN x.1) : List Cond), w.before args s = true := by
          intro w hw
          refine hws w ?_
          dsimp only [pmWs]
          rw [if_pos hc10]
          exact hw
        refine va_get (D := D) (ci := x.1) (C := pmCN x.1) (T := pmT x.1) (N := pmN x.1) (ref := (pmT x.1 x.2).1) hexec hb hws (fun w hw => List.mem_cons_of_mem _ hw) hown hK hr.1 q (pmW_at hq) (pmCl_at hc10) x.2 hc2 (hws _ List.mem_cons_self) (fun _ hz => hz) (v := pmRe ad (pmRd (pmTy x.1 x.2) S.2 q x.2)) ?_ hdg (kk _ _ _ hr)
        rw [List.getElem?_map, List.getElem?_range hc2]
        rfl
      · cases h
    · cases h
  · cases h
theorem pms_putfield {c' : pmC} {ps : List Prop} {own : String} {ini : Bool} {k : Nat} {x : Nat × Nat} (hdg : decode cc pc = .ok (.putfield k, 3)) (h : pmPut x (pc, L, st, S) = some (c', ps)) (hws : ∀ w ∈ pmWs own (.putfield k) x, w.before args s = true) (hok : pmOk ini own (.putfield k) x = true) (hini : ini = true → meth.name = "<init>") (hown : s.vm.findClass own = some m.cls) (hK : va_K D pmCl (pmTs cA) s) (hexec : p.tables.exec = Jvm.exec) (hb : c0.code = cc) (hr : pmRel D A H0 nL ad cA (pc, L, st, S) H locs ls) (kk : pmKk p l e R s m args below meth c0 cells slots Q D A H0 nL ad cA c') : W p l e R s m args below meth c0 H locs cells slots Q (F0 m pc ls (st.map (pmRe ad))) := by
  unfold pmPut at h
  split at h
  · rename_i v q r hs
    dsimp only at hs
    subst hs
    split at h
    · rename_i ci hq
      split at h
      · rename_i hc
        obtain ⟨hc1, hc2⟩ := hc
        subst hc1
        split at h
        · rename_i μ' hw
          cases h
          obtain ⟨w1, w2, w3, w4, w5⟩ := pmWr_ok ad hw
          simp only [pmOk, Bool.and_eq_true, Bool.or_eq_true, decide_eq_true_eq, beq_iff_eq] at hok
          obtain ⟨o1, o3⟩ := hok
          have hg : (List.range (pmN x.1)).map (fun k => pmRe ad (pmRd (pmTy x.1 k) μ' q k)) = ((List.range (pmN x.1)).map (fun k => pmRe ad (pmRd (pmTy x.1 k) S.2 q k))).set x.2 (pmRe ad v) := by
            rw [pm_row_set (f := fun k => pmRe ad (pmRd (pmTy x.1 k) S.2 q k)) (g := fun k => pmRe ad (pmRd (pmTy x.1 k) μ' q k)) hc2 (fun j hj => by show pmRe ad _ = pmRe ad _; rw [w2 j hj])]
            rw [w1]
          have hE : pmW ad cA (S.1, μ') = (pmW ad cA S).set q (ad q, .inr (x.1, ((List.range (pmN x.1)).map (fun k => pmRe ad (pmRd (pmTy x.1 k) S.2 q k))).set x.2 (pmRe ad v))) := by
            rw [← hg]
            exact pmW_set (ad := ad) (cA := cA) (G := S.1) (μ := S.2) (μ' := μ') hq (fun i hi e => pmE_congr (w3 i hi).1 (w3 i hi).2.1 (w3 i hi).2.2.1 (w3 i hi).2.2.2 e)
          have kk2 : ∀ (H1 : Heap) (locs1 : List Loc), va_P D pmCl ((pmW ad cA S).set q (ad q, .inr (x.1, ((List.range (pmN x.1)).map (fun k => pmRe ad (pmRd (pmTy x.1 k) S.2 q k))).set x.2 (pmRe ad v)))) H1 → va_D A ((pmW ad cA S).set q (ad q, .inr (x.1, ((List.range (pmN x.1)).map (fun k => pmRe ad (pmRd (pmTy x.1 k) S.2 q k))).set x.2 (pmRe ad v)))) → va_S A H0 H1 locs1 → W p l e R s m args below meth c0 H1 locs1 cells slots Q (F0 m (pc + 3) ls (r.map (pmRe ad))) := by
            intro H1 locs1 g1 g2 g3
            rw [← hE] at g1 g2
            exact kk _ _ _ ⟨g1, g2, g3, hr.2.2.2⟩
          have hlen : x.2 < ((List.range (pmN x.1)).map (fun k => pmRe ad (pmRd (pmTy x.1 k) S.2 q k))).length := by rw [List.length_map, List.length_range]; exact hc2
          rcases o3 with o3 | o3
          · exact va_put (D := D) (ci := x.1) (C := pmCN x.1) (T := pmT x.1) (N := pmN x.1) (Ts := pmWs own (.putfield k) x) (ref := (pmT x.1 x.2).1) hexec hb hws (fun w hw => List.mem_cons_of_mem _ hw) (pmTy x.1) (pmCl_ty o1) (pmCl_nm o1) hown hK hr.1 hr.2.1 hr.2.2.1 q (pmW_at hq) (pmCl_at o1) x.2 hc2 (hws _ List.mem_cons_self) (fun _ hz => hz) o3 (pmCl_ty o1 x.2 hc2) w4 w5 hlen hdg kk2
          · cases ho : (pmT x.1 x.2).2.2.2 with
            | false => exact va_put (D := D) (ci := x.1) (C := pmCN x.1) (T := pmT x.1) (N := pmN x.1) (Ts := pmWs own (.putfield k) x) (ref := (pmT x.1 x.2).1) hexec hb hws (fun w hw => List.mem_cons_of_mem _ hw) (pmTy x.1) (pmCl_ty o1) (pmCl_nm o1) hown hK hr.1 hr.2.1 hr.2.2.1 q (pmW_at hq) (pmCl_at o1) x.2 hc2 (hws _ List.mem_cons_self) (fun _ hz => hz) ho (pmCl_ty o1 x.2 hc2) w4 w5 hlen hdg kk2
            | true => exact va_putF (D := D) (ci := x.1) (C := pmCN x.1) (T := pmT x.1) (N := pmN x.1) (Ts := pmWs own (.putfield k) x) (ref := (pmT x.1 x.2).1) hexec hb hws (fun w hw => List.mem_cons_of_mem _ hw) (pmTy x.1) (pmCl_ty o1) (pmCl_nm o1) hown hK hr.1 hr.2.1 hr.2.2.1 q (pmW_at hq) (pmCl_at o1) x.2 hc2 (hws _ List.mem_cons_self) (fun _ hz => hz) ho (hini o3.1) o3.2.symm (pmCl_ty o1 x.2 hc2) w4 w5 hlen hdg kk2
        · cases h
      · cases h
    · cases h
  · cases h
theorem pmTs_at {cA : Nat → ClassId} {t : Nat} (h : t < 5) : (pmTs cA)[t]? = some (cA t, pmAt t) := by
  rcases (show t = 0 ∨ t = 1 ∨ t = 2 ∨ t = 3 ∨ t = 4 by omega) with rfl | rfl | rfl | rfl | rfl <;> rfl
theorem pms_arraylength {c' : pmC} {ps : List Prop} (hdg : decode cc pc = .ok (.arraylength, 1)) (h : pmLen (pc, L, st, S) = some (c', ps)) (hK : va_K D pmCl (pmTs cA) s) (hexec : p.tables.exec = Jvm.exec) (hb : c0.code = cc) (hr : pmRel D A H0 nL ad cA (pc, L, st, S) H locs ls) (kk : pmKk p l e R s m args below meth c0 cells slots Q D A H0 nL ad cA c') : W p l e R s m args below meth c0 H locs cells slots Q (F0 m pc ls (st.map (pmRe ad))) := by
  unfold pmLen at h
  split at h
  · rename_i q r hs
    dsimp only at hs
    subst hs
    split at h
    · rename_i a hq
      split at h
      · rename_i ha
        cases h
        exact va_alen hexec hb hK hr.1 q a.1 (pmW_at hq) (pmTs_at ha) rfl hdg (kk _ _ _ hr)
      · cases h
    · cases h
  · cases h
theorem pmAld_inv {t : Nat} {f : Nat → Int32 → Value} {c' : pmC} {ps : List Prop} (h : pmAld t f (pc, L, st, S) = some (c', ps)) (hp : ∀ P ∈ ps, P) : ∃ j q r n, st = .int j :: .ref q :: r ∧ S.1[q]? = some (.inr (t, n)) ∧ vp_in j n ∧ c' = (pc + 1, L, f q j :: r, S) := by
  unfold pmAld at h
  split at h
  · rename_i j q r hs
    split at h
    · rename_i a hq
      split at h
      · rename_i ha
        cases h
        obtain ⟨a1, a2⟩ := a
        dsimp only at ha
        subst ha
        exact ⟨j, q, r, a2, hs, hq, hp _ List.mem_cons_self, rfl⟩
      · cases h
    · cases h
  · cases h
theorem pmAst_inv {t : Nat} {f : Nat → Int32 → Value → Option pmM} {c' : pmC} {ps : List Prop} (h : pmAst t f (pc, L, st, S) = some (c', ps)) (hp : ∀ P ∈ ps, P) : ∃ v j q r n μ, st = v :: .int j :: .ref q :: r ∧ S.1[q]? = some (.inr (t, n)) ∧ vp_in j n ∧ f q j v = some μ ∧ c' = (pc + 1, L, r, S.1, μ) := by
  unfold pmAst at h
  split at h
  · rename_i v j q r hs
    split at h
    · rename_i a hq
      split at h
      · rename_i ha
        split at h
        · rename_i μ hf
          cases h
          obtain ⟨a1, a2⟩ := a
          dsimp only at ha
          subst ha
          exact ⟨v, j, q, r, a2, μ, hs, hq, hp _ List.mem_cons_self, hf, rfl⟩
        · cases h
      · cases h
    · cases h
  · cases h
theorem pms_iaload {c' : pmC} {ps : List Prop} (hdg : decode cc pc = .ok (.iaload, 1)) (h : pmAld 0 (fun q j => .int (S.2.1 q j.toNatClampNeg)) (pc, L, st, S) = some (c', ps)) (hp : ∀ P ∈ ps, P) (hK : va_K D pmCl (pmTs cA) s) (hexec : p.tables.exec = Jvm.exec) (hb : c0.code = cc) (hr : pmRel D A H0 nL ad cA (pc, L, st, S) H locs ls) (kk : pmKk p l e R s m args below meth c0 cells slots Q D A H0 nL ad cA c') : W p l e R s m args below meth c0 H locs cells slots Q (F0 m pc ls (st.map (pmRe ad))) := by
  obtain ⟨j, q, r, n, rfl, hq, hin, rfl⟩ := pmAld_inv h hp
  exact va_iald hexec hb hK hr.1 q 0 (pmW_at hq) (pmTs_at (by decide)) hin hdg (kk _ _ _ hr)
theorem pms_baload {c' : pmC} {ps : List Prop} (hdg : decode cc pc = .ok (.baload, 1)) (h : pmAld 1 (fun q j => .int (S.2.1 q j.toNatClampNeg)) (pc, L, st, S) = some (c', ps)) (hp : ∀ P ∈ ps, P) (hK : va_K D pmCl (pmTs cA) s) (hexec : p.tables.exec = Jvm.exec) (hb : c0.code = cc) (hr : pmRel D A H0 nL ad cA (pc, L, st, S) H locs ls) (kk : pmKk p l e R s m args below meth c0 cells slots Q D A H0 nL ad cA c') : W p l e R s m args below meth c0 H locs cells slots Q (F0 m pc ls (st.map (pmRe ad))) := by
  obtain ⟨j, q, r, n, rfl, hq, hin, rfl⟩ := pmAld_inv h hp
  exact va_bald hexec hb hK hr.1 q 1 (pmW_at hq) (pmTs_at (by decide)) hin hdg (kk _ _ _ hr)
theorem pms_caload {c' : pmC} {ps : List Prop} (hdg : decode cc pc = .ok (.caload, 1)) (h : pmAld 2 (fun q j => .int (S.2.1 q j.toNatClampNeg)) (pc, L, st, S) = some (c', ps)) (hp : ∀ P ∈ ps, P) (hK : va_K D pmCl (pmTs cA) s) (hexec : p.tables.exec = Jvm.exec) (hb : c0.code = cc) (hr : pmRel D A H0 nL ad cA (pc, L, st, S) H locs ls) (kk : pmKk p l e R s m args below meth c0 cells slots Q D A H0 nL ad cA c') : W p l e R s m args below meth c0 H locs cells slots Q (F0 m pc ls (st.map (pmRe ad))) := by
  obtain ⟨j, q, r, n, rfl, hq, hin, rfl⟩ := pmAld_inv h hp
  exact va_cald hexec hb hK hr.1 q 2 (pmW_at hq) (pmTs_at (by decide)) hin hdg (kk _ _ _ hr)
theorem pms_aaload {c' : pmC} {ps : List Prop} (hdg : decode cc pc = .ok (.aaload, 1)) (h : pmAld 4 (fun q j => va_rf (S.2.2.2.1 q j.toNatClampNeg)) (pc, L, st, S) = some (c', ps)) (hp : ∀ P ∈ ps, P) (hK : va_K D pmCl (pmTs cA) s) (hexec : p.tables.exec = Jvm.exec) (hb : c0.code = cc) (hr : pmRel D A H0 nL ad cA (pc, L, st, S) H locs ls) (kk : pmKk p l e R s m args below meth c0 cells slots Q D A H0 nL ad cA c') : W p l e R s m args below meth c0 H locs cells slots Q (F0 m pc ls (st.map (pmRe ad))) := by
  obtain ⟨j, q, r, n, rfl, hq, hin, rfl⟩ := pmAld_inv h hp
  have k1 := kk _ _ _ hr
  simp only [List.map_cons, pmRe_rf] at k1
  exact va_aldq hexec hb hK hr.1 q 4 (pmW_at hq) (pmTs_at (by decide)) hin hdg k1
theorem pms_iastore {c' : pmC} {ps : List Prop} (hdg : decode cc pc = .ok (.iastore, 1)) (h : pmAst 0 (pmIst S.2) (pc, L, st, S) = some (c', ps)) (hp : ∀ P ∈ ps, P) (hK : va_K D pmCl (pmTs cA) s) (hexec : p.tables.exec = Jvm.exec) (hb : c0.code = cc) (hr : pmRel D A H0 nL ad cA (pc, L, st, S) H locs ls) (kk : pmKk p l e R s m args below meth c0 cells slots Q D A H0 nL ad cA c') : W p l e R s m args below meth c0 H locs cells slots Q (F0 m pc ls (st.map (pmRe ad))) := by
  obtain ⟨v, j, q, r, n, μ', rfl, hq, hin, hf, rfl⟩ := pmAst_inv h hp
  unfold pmIst at hf
  split at hf
  · rename_i z
    have hμ := (Option.some.inj hf).symm
    have w3 : ∀ i, i ≠ q → μ'.1 i = S.2.1 i ∧ μ'.2.1 i = S.2.2.1 i ∧ μ'.2.2.1 i = S.2.2.2.1 i ∧ μ'.2.2.2 i = S.2.2.2.2 i := by
      intro i hi
      rw [hμ]
      exact ⟨pmU_ne _ _ hi, rfl, rfl, rfl⟩
    have hE : pmW ad cA (S.1, μ') = (pmW ad cA S).set q (ad q, .inl (cA 0, n, .inl (upd (S.2.1 q) j.toNatClampNeg z))) := by
      rw [pmW_set (ad := ad) (cA := cA) (G := S.1) (μ := S.2) (μ' := μ') hq (fun i hi e => pmE_congr (w3 i hi).1 (w3 i hi).2.1 (w3 i hi).2.2.1 (w3 i hi).2.2.2 e), hμ]
      unfold pmE pmPay
      simp only [pmU_at]
      rfl
    refine va_iast hexec hb hK hr.1 hr.2.1 hr.2.2.1 q 0 (pmW_at hq) (pmTs_at (by decide)) hin hdg (fun H1 locs1 g1 g2 g3 => ?_)
    have g1 : va_P D pmCl ((pmW ad cA S).set q (ad q, .inl (cA 0, n, .inl (upd (S.2.1 q) j.toNatClampNeg z)))) H1 := g1
    have g2 : va_D A ((pmW ad cA S).set q (ad q, .inl (cA 0, n, .inl (upd (S.2.1 q) j.toNatClampNeg z)))) := g2
    rw [← hE] at g1 g2
    exact kk _ _ _ ⟨g1, g2, g3, hr.2.2.2⟩
  · cases hf
theorem pms_bastore {c' : pmC} {ps : List Prop} (hdg : decode cc pc = .ok (.bastore, 1)) (h : pmAst 1 (pmBst S.2) (pc, L, st, S) = some (c', ps)) (hp : ∀ P ∈ ps, P) (hK : va_K D pmCl (pmTs cA) s) (hexec : p.tables.exec = Jvm.exec) (hb : c0.code = cc) (hr : pmRel D A H0 nL ad cA (pc, L, st, S) H locs ls) (kk : pmKk p l e R s m args below meth c0 cells slots Q D A H0 nL ad cA c') : W p l e R s m args below meth c0 H locs cells slots Q (F0 m pc ls (st.map (pmRe ad))) := by
  obtain ⟨v, j, q, r, n, μ', rfl, hq, hin, hf, rfl⟩ := pmAst_inv h hp
  unfold pmBst at hf
  split at hf
  · rename_i z
    have hμ := (Option.some.inj hf).symm
    have w3 : ∀ i, i ≠ q → μ'.1 i = S.2.1 i ∧ μ'.2.1 i = S.2.2.1 i ∧ μ'.2.2.1 i = S.2.2.2.1 i ∧ μ'.2.2.2 i = S.2.2.2.2 i := by
      intro i hi
      rw [hμ]
      exact ⟨pmU_ne _ _ hi, rfl, rfl, rfl⟩
    have hE : pmW ad cA (S.1, μ') = (pmW ad cA S).set q (ad q, .inl (cA 1, n, .inl (upd (S.2.1 q) j.toNatClampNeg (vp_nar .byte z)))) := by
      rw [pmW_set (ad := ad) (cA := cA) (G := S.1) (μ := S.2) (μ' := μ') hq (fun i hi e => pmE_congr (w3 i hi).1 (w3 i hi).2.1 (w3 i hi).2.2.1 (w3 i hi).2.2.2 e), hμ]
      unfold pmE pmPay
      simp only [pmU_at]
      rfl
    refine va_bast hexec hb hK hr.1 hr.2.1 hr.2.2.1 q 1 (pmW_at hq) (pmTs_at (by decide)) hin hdg (fun H1 locs1 g1 g2 g3 => ?_)
    have g1 : va_P D pmCl ((pmW ad cA S).set q (ad q, .inl (cA 1, n, .inl (upd (S.2.1 q) j.toNatClampNeg (vp_nar .byte z))))) H1 := g1
    have g2 : va_D A ((pmW ad cA S).set q (ad q, .inl (cA 1, n, .inl (upd (S.2.1 q) j.toNatClampNeg (vp_nar .byte z))))) := g2
    rw [← hE] at g1 g2
    exact kk _ _ _ ⟨g1, g2, g3, hr.2.2.2⟩
  · cases hf
theorem pms_castore {c' : pmC} {ps : List Prop} (hdg : decode cc pc = .ok (.castore, 1)) (h : pmAst 2 (pmCst S.2) (pc, L, st, S) = some (c', ps)) (hp : ∀ P ∈ ps, P) (hK : va_K D pmCl (pmTs cA) s) (hexec : p.tables.exec = Jvm.exec) (hb : c0.code = cc) (hr : pmRel D A H0 nL ad cA (pc, L, st, S) H locs ls) (kk : pmKk p l e R s m args below meth c0 cells slots Q D A H0 nL ad cA c') : W p l e R s m args below meth c0 H locs cells slots Q (F0 m pc ls (st.map (pmRe ad))) := by
  obtain ⟨v, j, q, r, n, μ', rfl, hq, hin, hf, rfl⟩ := pmAst_inv h hp
  unfold pmCst at hf
  split at hf
  · rename_i z
    have hμ := (Option.some.inj hf).symm
    have w3 : ∀ i, i ≠ q → μ'.1 i = S.2.1 i ∧ μ'.2.1 i = S.2.2.1 i ∧ μ'.2.2.1 i = S.2.2.2.1 i ∧ μ'.2.2.2 i = S.2.2.2.2 i := by
      intro i hi
      rw [hμ]
      exact ⟨pmU_ne _ _ hi, rfl, rfl, rfl⟩
    have hE : pmW ad cA (S.1, μ') = (pmW ad cA S).set q (ad q, .inl (cA 2, n, .inl (upd (S.2.1 q) j.toNatClampNeg (vp_nar .char z)))) := by
      rw [pmW_set (ad := ad) (cA := cA) (G := S.1) (μ := S.2) (μ' := μ') hq (fun i hi e => pmE_congr (w3 i hi).1 (w3 i hi).2.1 (w3 i hi).2.2.1 (w3 i hi).2.2.2 e), hμ]
      unfold pmE pmPay
      simp only [pmU_at]
      rfl
    refine va_cast hexec hb hK hr.1 hr.2.1 hr.2.2.1 q 2 (pmW_at hq) (pmTs_at (by decide)) hin hdg (fun H1 locs1 g1 g2 g3 => ?_)
    have g1 : va_P D pmCl ((pmW ad cA S).set q (ad q, .inl (cA 2, n, .inl (upd (S.2.1 q) j.toNatClampNeg (vp_nar .char z))))) H1 := g1
    have g2 : va_D A ((pmW ad cA S).set q (ad q, .inl (cA 2, n, .inl (upd (S.2.1 q) j.toNatClampNeg (vp_nar .char z))))) := g2
    rw [← hE] at g1 g2
    exact kk _ _ _ ⟨g1, g2, g3, hr.2.2.2⟩
  · cases hf
end PMS3
