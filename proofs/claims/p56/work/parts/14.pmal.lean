/-! PM: validity behind steps outside; makes -/
theorem pmVv_up {n m : Nat} {v : Value} (h : pmVv n v) (hn : n ≤ m) : pmVv m v := by
  cases v with
  | ref i => exact h.elim (fun z => Or.inl (Nat.lt_of_lt_of_le z hn)) Or.inr
  | _ => trivial
section PMY
variable {pc : Nat} {L : List (Option Value)} {S : pmS} {st : List Value} {c' : pmC} {ps : List Prop} {E : pmEv0}
theorem pm_big {n : Nat} {b j : Nat} (h : 90000 ≤ b) : pmVv n (.ref (b + j)) := Or.inr (Nat.le_trans h (Nat.le_add_right b j))
theorem pm_bigq {n q b : Nat} (h : b ≤ q) (hb : 90000 ≤ b) (j : Nat) : pmVv n (.ref (q + j)) := Or.inr (Nat.le_trans (Nat.le_trans hb h) (Nat.le_add_right q j))
set_option maxRecDepth 100000 in
theorem pm_xs_vd {b : Nat} {i : Instr} {x : Nat × Nat} (h : pmXs E i x (pc, L, st, S) = some (c', ps)) (hE : pmVv 0 (va_rf E.2.2)) (hv : pmVd (pc, L, st, S)) : pmVd c' ∧ c'.2.2.2.1 = S.1 := by
  unfold pmXs at h
  split at h
  · split at h
    · exact vd_Push hv h (Or.inr (by decide))
    · split at h
      · exact vd_Push hv h trivial
      · split at h
        · exact vd_Push hv h (pmVv_up hE (Nat.zero_le _))
        · cases h
  · split at h
    · split at h
      · exact vd_Push hv h (pm_big (by decide))
      · cases h
    · split at h
      · exact vd_Push hv h trivial
      · cases h
  · split at h
    · split at h
      · exact vd_Push hv h (pm_big (by decide))
      · cases h
    · split at h
      · exact vd_Push hv h trivial
      · split at h
        · exact vd_Push hv h trivial
        · cases h
  · split at h
    · exact vd_Push hv h trivial
    · split at h
      · exact vd_Push hv h trivial
      · cases h
  · split at h
    · rename_i hs
      dsimp only at hs
      subst hs
      split at h
      · rename_i hq
        split at h
        · cases h
          exact ⟨hv.push pm_in1 (pm_bigq hq.1 (by decide) _), rfl⟩
        · split at h
          · cases h
            exact ⟨hv.push pm_in1 trivial, rfl⟩
          · cases h
      · cases h
    · cases h
  · split at h
    · rename_i hs
      dsimp only at hs
      subst hs
      split at h
      · cases h
        exact ⟨hv.push pm_in1 trivial, rfl⟩
      · split at h
        · cases h
          exact ⟨hv.push pm_in1 trivial, rfl⟩
        · split at h
          · cases h
            exact ⟨hv.push pm_in1 trivial, rfl⟩
          · cases h
    · cases h
  · split at h
    · rename_i hs
      dsimp only at hs
      subst hs
      split at h
      · cases h
        exact ⟨hv.push pm_in2 trivial, rfl⟩
      · cases h
    · cases h
  · split at h
    · rename_i hs
      dsimp only at hs
      subst hs
      split at h
      · cases h
        exact ⟨hv.push pm_in2 trivial, rfl⟩
      · cases h
    · cases h
  · split at h
    · rename_i hs
      dsimp only at hs
      subst hs
      split at h
      · cases h
        exact ⟨hv.push pm_in2 trivial, rfl⟩
      · cases h
    · cases h
  · split at h
    · rename_i hs
      dsimp only at hs
      subst hs
      split at h
      · split at h
        · split at h
          · cases h
            exact ⟨⟨hv.1, fun w hw => hv.2.1 w (pm_in3 w (pm_in2 w hw)), hv.2.2⟩, rfl⟩
          · cases h
        · cases h
      · cases h
    · rename_i hs
      dsimp only at hs
      subst hs
      split at h
      · cases h
        exact ⟨hv.push pm_in1 trivial, rfl⟩
      · cases h
    · rename_i hs
      dsimp only at hs
      subst hs
      split at h
      · cases h
        exact ⟨hv.push pm_in1 trivial, rfl⟩
      · cases h
    · cases h
  · split at h
    · rename_i hs
      dsimp only at hs
      subst hs
      split at h
      · cases h
        exact ⟨hv.pops pm_in1, rfl⟩
      · cases h
    · cases h
  · exact vd_Push hv h trivial
  · cases h
set_option maxRecDepth 100000 in
theorem pm_xt_vd {i : Instr} {x : Nat × Nat} (h : pmXt i x (pc, L, st, S) = some (c', ps)) (hv : pmVd (pc, L, st, S)) : pmVd c' ∧ c'.2.2.2.1 = S.1 := by
  unfold pmXt at h
  split at h
  · split at h
    · exact vd_Push hv h (Or.inr (by decide))
    · split at h
      · exact vd_Push hv h (Or.inr (by decide))
      · cases h
  · split at h
    · rename_i hs
      dsimp only at hs
      subst hs
      split at h
      · split at h
        · split at h
          · cases h
            exact ⟨hv.push pm_in1 (pmVv_rf hv.2.2 _ _), rfl⟩
          · split at h
            · cases h
              exact ⟨hv.push pm_in1 trivial, rfl⟩
            · cases h
        · cases h
      · cases h
    · cases h
  · split at h
    · rename_i hs
      dsimp only at hs
      subst hs
      split at h
      · cases h
        exact ⟨hv.push pm_in2 trivial, rfl⟩
      · split at h
        · cases h
          exact ⟨hv.push pm_in2 trivial, rfl⟩
        · cases h
    · cases h
  · split at h
    · rename_i hs
      dsimp only at hs
      subst hs
      split at h
      · split at h
        · split at h
          · split at h
            · cases h
              exact ⟨⟨hv.1, fun w hw => hv.2.1 w (pm_in3 w (pm_in2 w hw)), hv.2.2⟩, rfl⟩
            · split at h
              · split at h
                · cases h
                  exact ⟨⟨hv.1, fun w hw => hv.2.1 w (pm_in3 w (pm_in2 w hw)), hv.2.2⟩, rfl⟩
                · cases h
              · cases h
          · cases h
        · cases h
      · cases h
    · cases h
  · cases h
theorem pm_aas_vd {i : Instr} (h : pmAas i (pc, L, st, S) = some (c', ps)) (hv : pmVd (pc, L, st, S)) : pmVd c' ∧ c'.2.2.2.1 = S.1 := by
  unfold pmAas at h
  split at h
  · split at h
    · rename_i hs
      dsimp only at hs
      subst hs
      split at h
      · split at h
        · cases h
          refine ⟨⟨hv.1, fun w hw => hv.2.1 w (pm_in3 w hw), ?_⟩, rfl⟩
          intro i k z hz
          have h9 := hv.2.1 _ List.mem_cons_self
          unfold pmU at hz
          dsimp only at hz
          split at hz
          · split at hz
            · cases hz
              exact h9
            · exact hv.2.2 _ _ _ hz
          · exact hv.2.2 _ _ _ hz
        · cases h
      · cases h
    · cases h
  · cases h
theorem pmVd_mk {e : Nat ⊕ (Nat × Nat)} {n : Nat} {r : List Value} (hr : ∀ w ∈ r, w ∈ st) (hv : pmVd (pc, L, st, S)) : pmVd (pmMk e n r (pc, L, st, S)) := by
  have hl : (S.1 ++ [e]).length = S.1.length + 1 := by rw [List.length_append]; rfl
  refine ⟨?_, ?_, ?_⟩
  · intro k v hk
    show pmVv (S.1 ++ [e]).length v
    rw [hl]
    exact pmVv_up (hv.1 k v hk) (Nat.le_succ _)
  · intro w hw
    show pmVv (S.1 ++ [e]).length w
    rw [hl]
    rcases List.mem_cons.mp hw with rfl | hw
    · exact Or.inl (Nat.lt_succ_self _)
    · exact pmVv_up (hv.2.1 w (hr w hw)) (Nat.le_succ _)
  · intro i k z hz
    show z < (S.1 ++ [e]).length ∨ _
    rw [hl]
    have hz : (if i = S.1.length then none else S.2.2.2.1 i k) = some z := hz
    split at hz
    · cases hz
    · exact (hv.2.2 i k z hz).imp (fun q => Nat.lt_succ_of_lt q) id
end PMY
section PMZ
variable {p : Program} {l : Launch} {e : Env} {R : Room} {s : State} {m : MethodId} {args : Array Value} {below : List Frame} {meth : Method} {c0 : Code} {H H0 : Heap} {locs : List Loc} {cells slots : Nat} {Q : State → Prop}
variable {cc : ByteArray} {ls : Array Slot} {A : Nat → Prop} {D : va_G} {nL : Nat} {ad : Nat → Nat} {cA : Nat → ClassId} {pc : Nat} {L : List (Option Value)} {S : pmS} {st rest : List Value}
theorem pms_aastore {i : Instr} {n : Nat} {c' : pmC} {ps : List Prop} (hdg : decode cc pc = .ok (i, pmIl i n)) (h : pmAas i (pc, L, st, S) = some (c', ps)) (hp : ∀ P ∈ ps, P) (hK : va_K D pmCl (pmTs cA) s) (hexec : p.tables.exec = Jvm.exec) (hb : c0.code = cc) (hr : pmRel D A H0 nL ad cA (pc, L, st, S) H locs ls) (kk : pmKk p l e R s m args below meth c0 cells slots Q D A H0 nL ad cA c') : W p l e R s m args below meth c0 H locs cells slots Q (F0 m pc ls (st.map (pmRe ad))) := by
  unfold pmAas at h
  split at h
  · split at h
    · rename_i v j q r hs
      dsimp only at hs
      subst hs
      split at h
      · rename_i a ci h0 h1
        split at h
        · rename_i ht
          obtain ⟨t0, rfl⟩ := ht
          obtain ⟨a1, a2⟩ := a
          dsimp only at t0 hp h
          subst t0
          cases h
          have hE : pmW ad cA (S.1, (S.2.1, S.2.2.1, pmU S.2.2.2.1 q j.toNatClampNeg (some v), S.2.2.2.2)) = (pmW ad cA S).set q (ad q, .inl (cA 4, a2, .inr (.inr (.inr (.inr (va_up (fun k => (S.2.2.2.1 q k).map ad) j.toNatClampNeg (some (ad v)))))))) := by
            rw [pmW_set (ad := ad) (cA := cA) (G := S.1) (μ := S.2) (μ' := (S.2.1, S.2.2.1, pmU S.2.2.2.1 q j.toNatClampNeg (some v), S.2.2.2.2)) h0 (fun i hi e => pmE_congr (μ := S.2) (μ' := (S.2.1, S.2.2.1, pmU S.2.2.2.1 q j.toNatClampNeg (some v), S.2.2.2.2)) rfl rfl (pmU_ne _ _ hi) rfl e)]
            unfold pmE pmPay
            simp only [pmU_at]
            have e1 : (fun k => Option.map ad (if k = j.toNatClampNeg then some v else S.2.2.2.1 q k)) = va_up (fun k => (S.2.2.2.1 q k).map ad) j.toNatClampNeg (some (ad v)) := by
              funext k
              unfold va_up
              split <;> rfl
            rw [e1]
          refine va_astq hexec hb hK hr.1 hr.2.1 hr.2.2.1 q 4 v 6 (pmW_at h0) (pmTs_at (by decide)) (pmW_at h1) (r := (RX6, TX6, 15)) rfl (hp _ List.mem_cons_self) hdg (fun H1 locs1 g1 g2 g3 => ?_)
          have g1 : va_P D pmCl ((pmW ad cA S).set q (ad q, .inl (cA 4, a2, .inr (.inr (.inr (.inr (va_up (fun k => (S.2.2.2.1 q k).map ad) j.toNatClampNeg (some (ad v))))))))) H1 := g1
          have g2 : va_D A ((pmW ad cA S).set q (ad q, .inl (cA 4, a2, .inr (.inr (.inr (.inr (va_up (fun k => (S.2.2.2.1 q k).map ad) j.toNatClampNeg (some (ad v))))))))) := g2
          rw [← hE] at g1 g2
          exact kk _ _ _ ⟨g1, g2, g3, hr.2.2.2⟩
        · cases h
      · cases h
    · cases h
  · cases h
/-- behind a make: the new thing has the address q -/
theorem pmMk_rel {e0 : Nat ⊕ (Nat × Nat)} {n q : Nat} {r : List Value} {H1 : Heap} {en : va_E} (hv : pmVd (pc, L, st, S)) (hr : pmRel D A H0 nL ad cA (pc, L, st, S) H locs ls) (hlen : S.1.length < 90000)
    (he : pmE (fun i => if i = S.1.length then q else ad i) cA (pmZ S.1.length S.2) S.1.length e0 = en)
    (g1 : va_P D pmCl (pmW ad cA S ++ [(q, en)]) H1) (g2 : va_D A (pmW ad cA S ++ [(q, en)])) (g3 : va_S A H0 H1 locs) :
    pmRel D A H0 nL (fun i => if i = S.1.length then q else ad i) cA (pmMk e0 n r (pc, L, st, S)) H1 locs ls ∧ pmEx ad (fun i => if i = S.1.length then q else ad i) S.1.length := by
  have hx : pmEx ad (fun i => if i = S.1.length then q else ad i) S.1.length := by
    intro i hi
    show (if i = S.1.length then q else ad i) = ad i
    rw [if_neg (by omega)]
  have hW : pmW (fun i => if i = S.1.length then q else ad i) cA (S.1 ++ [e0], pmZ S.1.length S.2) = pmW ad cA S ++ [(q, en)] := by
    rw [← hx.w hv.2.2, ← he]
    unfold pmW
    refine List.ext_getElem? fun i => ?_
    rw [List.getElem?_mapIdx]
    rcases Nat.lt_or_ge i S.1.length with hi | hi
    · rw [List.getElem?_append_left hi, List.getElem?_append_left (by rw [List.length_mapIdx]; exact hi), List.getElem?_mapIdx]
      cases S.1[i]? with
      | none => rfl
      | some e9 =>
        show some (_, pmE _ cA (pmZ S.1.length S.2) i e9) = some (_, pmE _ cA S.2 i e9)
        rw [pmE_congr (μ := S.2) (μ' := pmZ S.1.length S.2) (i := i) (by funext k; exact if_neg (by omega)) (by funext k; exact if_neg (by omega)) (by funext k; exact if_neg (by omega)) (by funext k; exact if_neg (by omega))]
    · rw [List.getElem?_append_right hi, List.getElem?_append_right (by rw [List.length_mapIdx]; exact hi), List.length_mapIdx]
      rcases Nat.eq_or_lt_of_le hi with h9 | h9
      · subst h9
        simp
      · rw [List.getElem?_eq_none (by show 1 ≤ _; omega), List.getElem?_eq_none (by show 1 ≤ _; omega)]
        rfl
  refine ⟨⟨?_, ?_, g3, ?_, hr.2.2.2.2⟩, hx⟩
  · show va_P D pmCl (pmW _ cA (S.1 ++ [e0], pmZ S.1.length S.2)) H1
    rw [hW]; exact g1
  · show va_D A (pmW _ cA (S.1 ++ [e0], pmZ S.1.length S.2))
    rw [hW]; exact g2
  · show lv_has ls nL (pmLv _ L)
    rw [hx.lv hv.1]
    exact hr.2.2.2.1
end PMZ
