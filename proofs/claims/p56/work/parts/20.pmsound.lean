/-! PM: a run of the small machine is a run of the machine -/
theorem pmLe_at : ∀ {L' L : List (Option Value)}, pmLe L' L → L'.length = L.length ∧ ∀ (k : Nat) (v : Value), L'[k]? = some (some v) → L[k]? = some (some v)
  | [], [], _ => ⟨rfl, fun _ _ h => h⟩
  | none :: a, w :: b, h => by
    obtain ⟨h1, h2⟩ := pmLe_at (L' := a) (L := b) h
    refine ⟨congrArg (· + 1) h1, fun k v hk => ?_⟩
    match k, hk with
    | k + 1, hk => exact h2 k v hk
  | some z :: a, w :: b, h => by
    obtain ⟨h1, h2⟩ := pmLe_at (L' := a) (L := b) h.2
    refine ⟨congrArg (· + 1) h1, fun k v hk => ?_⟩
    match k, hk with
    | 0, hk => exact (congrArg some h.1).trans hk
    | k + 1, hk => exact h2 k v hk
  | [], _ :: _, h => absurd h id
  | none :: _, [], h => absurd h id
  | some _ :: _, [], h => absurd h id
theorem pmLe_lv {ad : Nat → Nat} {L' L : List (Option Value)} (h : pmLe L' L) : ∀ q ∈ pmLv ad L', q ∈ pmLv ad L := by
  intro q hq
  obtain ⟨h1, h2⟩ := pmLe_at h
  unfold pmLv at hq ⊢
  obtain ⟨i, hi, he⟩ := List.mem_filterMap.mp hq
  refine List.mem_filterMap.mpr ⟨i, by rw [← h1]; exact hi, ?_⟩
  split at he
  · rename_i v hv
    rw [h2 i v hv]
    exact he
  · cases he
section PMH
variable {p : Program} {l : Launch} {e : Env} {R : Room} {s : State} {m : MethodId} {args : Array Value} {below : List Frame} {meth : Method} {c0 : Code} {H H0 : Heap} {locs : List Loc} {cells slots : Nat} {Q : State → Prop}
variable {cc : ByteArray} {ls : Array Slot} {A : Nat → Prop} {D : va_G} {nL : Nat} {ad : Nat → Nat} {cA : Nat → ClassId} {pc : Nat} {L : List (Option Value)} {S : pmS} {st rest : List Value} {Pg : Nat → pmMe} {TB : List Cond} {E : pmEv0}
theorem pmX_mono {cal : Nat → List Value → pmS → pmR → Prop} {j : Nat} {r : pmR} : ∀ (n : Nat) (c : pmC) (kc ks : Nat), pmX Pg E cal j n c kc ks r → kc ≤ r.2.2.1 ∧ ks ≤ r.2.2.2
  | 0, _, _, _, h => absurd h id
  | n + 1, c, kc, ks, h => by
    obtain ⟨i, ln, x, -, h⟩ := h
    rcases h with ⟨b, c', ps, -, -, h⟩ | ⟨c', ps, -, -, h⟩ | ⟨c', a, b, -, h⟩ | ⟨t, as, rest, v, S', a, b, -, -, -, h⟩ | ⟨t, as, rest, k, S', a, b, -, -, -, -, h⟩ | ⟨t, as, rest, k, S', a, b, h9, c', -, -, -, -, -, h⟩ | ⟨v, ps, -, -, h⟩ | ⟨k, -, -, -, h⟩ | ⟨L', -, h⟩
    · exact pmX_mono n _ _ _ h
    · exact pmX_mono n _ _ _ h
    · have := pmX_mono n _ _ _ h
      omega
    · have := pmX_mono n _ _ _ h
      omega
    · subst h
      exact ⟨Nat.le_add_right _ _, Nat.le_add_right _ _⟩
    · have := pmX_mono n _ _ _ h
      omega
    · subst h
      exact ⟨Nat.le_refl _, Nat.le_refl _⟩
    · subst h
      exact ⟨Nat.le_add_right _ _, Nat.le_add_right _ _⟩
    · exact pmX_mono n _ _ _ h
/-- what is checked of an entry of a method's code -/
def pmEnt (NM : Nat) (Pg : Nat → pmMe) (TB : List Cond) (j q : Nat) (i : Instr) (n : Nat) (x : Nat × Nat) : Prop :=
  decode (pmBy (Pg j)) q = .ok (i, pmIl i n) ∧ (∀ w ∈ pmWs (pmNm (Pg j)).cls i x, w ∈ TB) ∧ pmOk (decide ((pmNm (Pg j)).name = "<init>")) (pmNm (Pg j)).cls i x = true ∧ pmOx (pmNm (Pg j)).cls i x = true ∧ pmOa i x = true ∧ pmOc Pg i x = true ∧
  (∀ w ∈ pmWc Pg (pmNm (Pg j)).cls i x, w ∈ TB) ∧ (∀ w ∈ pmWn Pg (pmNm (Pg j)).cls i x, w ∈ pmNs) ∧ pmOt Pg j q i x = true ∧ (∀ w ∈ pmWt Pg j q i x, w ∈ TB) ∧ (∀ t, pmTg i x = some t → t < NM)
/-- .. and of a method -/
def pmMOk (NM : Nat) (Pg : Nat → pmMe) (TB : List Cond) (j : Nat) : Prop :=
  (∀ q i n x, pmCo (Pg j) q = some (i, n, x) → pmEnt NM Pg TB j q i n x) ∧ (∀ w ∈ pmWh (Pg j), w ∈ TB) ∧ pmOh (Pg j) = true ∧ plainFor (pmNm (Pg j)) = true
theorem pmAl_vd {i : Instr} {x : Nat × Nat} {c' : pmC} {a b : Nat} (h : pmAl i x (pc, L, st, S) = some (c', a, b)) (hv : pmVd (pc, L, st, S)) : pmVd c' ∧ S.1.length ≤ c'.2.2.2.1.length ∧ c'.2.2.2.1.length ≤ 90000 := by
  unfold pmAl at h
  split at h
  · rename_i hlen
    have hl : ∀ e0 : Nat ⊕ (Nat × Nat), S.1.length ≤ (S.1 ++ [e0]).length ∧ (S.1 ++ [e0]).length ≤ 90000 := by
      intro e0
      have : (S.1 ++ [e0]).length = S.1.length + 1 := by rw [List.length_append]; rfl
      have h9 : S.1.length < 90000 := hlen
      omega
    split at h
    · split at h
      · cases h
        exact ⟨pmVd_mk (fun _ h => h) hv, hl _⟩
      · cases h
    · split at h
      · rename_i hs
        dsimp only at hs
        subst hs
        split at h
        · cases h
          exact ⟨pmVd_mk pm_in1 hv, hl _⟩
        · cases h
      · cases h
    · split at h
      · rename_i hs
        dsimp only at hs
        subst hs
        split at h
        · cases h
          exact ⟨pmVd_mk pm_in1 hv, hl _⟩
        · cases h
      · cases h
    · cases h
  · cases h
theorem pmArg_st {i : Instr} {x : Nat × Nat} {t : Nat} {as rest : List Value} (h : pmArg Pg i x (pc, L, st, S) = some (t, as, rest)) : pmTg i x = some t ∧ st = as.reverse ++ rest := by
  unfold pmArg at h
  cases htg : pmTg i x with
  | none => rw [htg] at h; cases h
  | some t9 =>
    rw [htg] at h
    dsimp only at h
    split at h
    · simp only [Option.some.injEq, Prod.mk.injEq] at h
      obtain ⟨rfl, h7, h8⟩ := h
      refine ⟨rfl, ?_⟩
      rw [← h7, ← h8, List.reverse_reverse]
      exact (List.take_append_drop _ _).symm
    · cases h
theorem pm_body {NM j d sz : Nat} {r : pmR} {cal : Nat → List Value → pmS → pmR → Prop} {ad0 : Nat → Nat} {S0 : pmS} (hm : pmMOk NM Pg TB j) (hG : pmGood TB)
    (hcal : ∀ t as S r', t < NM → cal t as S r' → pmCon l Pg TB E D cA d t as S r')
    (hexec : p.tables.exec = Jvm.exec) (hb : c0.code = pmBy (Pg j)) (hml : c0.maxLocals = pmMx (Pg j)) (hown : s.vm.findClass (pmNm (Pg j)).cls = some m.cls) (hlocks : meth.locks = false) (hrt : meth.sig.returnType = pmRt (Pg j)) (hini : (pmNm (Pg j)).name = "<init>" → meth.name = "<init>")
    (htab : c0.exceptionTable.toList = tableOf (pmHh (pmHd (Pg j)))) (hTB : ∀ w ∈ TB, w.before args s = true) (hst : l.stackTraces = false) (hK : va_K D pmCl (pmTs cA) s) (hE : pmVv 0 (va_rf E.2.2))
    (hA : A = va_A (pmW ad0 cA S0) sz) (hsz : s.heap.size = sz) (hEn0 : pmEn E ad0 A s s.heap) (hRf : 8 + 2 * (d + 1) ≤ R.frames) (hRl : 200 + 60 * (d + 1) ≤ R.locals) (hRc : r.2.2.1 ≤ R.cells) (hRs : r.2.2.2 ≤ R.slots) :
    ∀ (n : Nat) (c : pmC) (kc ks : Nat) (ad : Nat → Nat) (H : Heap) (locs : List Loc) (ls : Array Slot), pmX Pg E cal j n c kc ks r → pmVd c → pmEx ad0 ad S0.1.length → S0.1.length ≤ c.2.2.2.1.length → c.2.2.2.1.length ≤ 90000 →
      pmRel D A s.heap (pmMx (Pg j)) ad cA c H locs ls → W p l e R s m args below meth c0 H locs kc ks (vx_MQ below (pmQc D cA ad0 S0 sz r) (pmXC D cA ad0 S0 sz r) args s r.2.2.1 r.2.2.2 (va_A (pmW ad0 cA S0) sz)) (F0 m c.1 ls (c.2.2.1.map (pmRe ad)))
  | 0, _, _, _, _, _, _, _, h, _, _, _, _, _ => absurd h id
  | n + 1, (pc, L, st, S), kc, ks, ad, H, locs, ls, h, hv, hx, hl0, hl9, hr => by
    have hmono := pmX_mono _ _ _ _ h
    obtain ⟨i, ln, x, hco, h⟩ := h
    obtain ⟨e1, e2, e3, e4, e5, e6, e7, e8, e9, e10, e11⟩ := hm.1 _ _ _ _ hco
    have hdec : ∀ q i n y, pmCo (Pg j) q = some (i, n, y) → decode (pmBy (Pg j)) q = .ok (i, pmIl i n) := fun q i n y h => (hm.1 q i n y h).1
    have hWs : ∀ w ∈ pmWs (pmNm (Pg j)).cls i x, w.before args s = true := fun w hw => hTB _ (e2 w hw)
    have hAA : ∀ q, s.heap.size ≤ q → A q := by
      intro q hq
      rw [hA]
      exact Or.inr (by rw [← hsz]; exact hq)
    have hEn : pmEn E ad A s s.heap := hEn0.go (State.WarmedH.refl s) (fun i hi => hx i (Or.inr hi)) (fun _ _ _ => rfl) (Nat.le_refl _) (fun _ h => h)
    have hini9 : decide ((pmNm (Pg j)).name = "<init>") = true → meth.name = "<init>" := fun h => hini (of_decide_eq_true h)
    have ih := pm_body hm hG hcal hexec hb hml hown hlocks hrt hini htab hTB hst hK hE hA hsz hEn0 hRf hRl hRc hRs n
    rcases h with ⟨b, c', ps, h1, hp, h⟩ | ⟨c', ps, h1, hp, h⟩ | ⟨c', a, b, h1, h⟩ | ⟨t, as, rest, v, S', a, b, h1, h2, h3, h⟩ | ⟨t, as, rest, k, S', a, b, h1, h2, h3, h4, h⟩ | ⟨t, as, rest, k, S', a, b, h9, c', h1, h2, h3, h4, h5, h⟩ | ⟨v, ps, h1, hp, h⟩ | ⟨k, h1, h2, h3, h⟩ | ⟨L', h1, h⟩
    · unfold pmStp at h1
      split at h1
      · rename_i y hy
        cases h1
        obtain ⟨v1, v2⟩ := pm_step_vd hy hp hv
        exact pm_step_ok e1 hy hp hWs e3 hini9 hown hK hexec hb hr (fun H locs ls hr' => ih _ _ _ _ _ _ _ h v1 hx (by rw [v2]; exact hl0) (by rw [v2]; exact hl9) hr')
      · split at h1
        · rename_i y hy
          cases h1
          obtain ⟨v1, v2⟩ := pm_xs_vd (b := 0) hy hE hv
          exact pm_xs_ok (b := 0) e1 hy hp hWs e4 hown hK hEn hml (by omega) (by omega) hexec hb hr (fun H locs ls hr' => ih _ _ _ _ _ _ _ h v1 hx (by rw [v2]; exact hl0) (by rw [v2]; exact hl9) hr')
        · obtain ⟨v1, v2⟩ := pm_xt_vd h1 hv
          exact pm_xt_ok (b := 0) e1 h1 hp hWs hown hK hEn hml (by omega) (by omega) hexec hb hr (fun H locs ls hr' => ih _ _ _ _ _ _ _ h v1 hx (by rw [v2]; exact hl0) (by rw [v2]; exact hl9) hr')
    · obtain ⟨v1, v2⟩ := pm_aas_vd h1 hv
      exact pms_aastore e1 h1 hp hK hexec hb hr (fun H locs ls hr' => ih _ _ _ _ _ _ _ h v1 hx (by rw [v2]; exact hl0) (by rw [v2]; exact hl9) hr')
    · obtain ⟨v1, v2, v3⟩ := pmAl_vd h1 hv
      have hm9 := pmX_mono _ _ _ _ h
      exact pm_al_ok e1 h1 hWs e5 hEn.1.1 hown hK hAA (by omega) (by omega) hv hexec hb hr (fun ad' hx' H locs ls hr' => ih _ _ _ _ _ _ _ h v1 (hx.trans hx' hl0) (Nat.le_trans hl0 v2) v3 hr')
    · obtain ⟨g1, g2⟩ := pmArg_st h1
      have hm9 := pmX_mono _ _ _ _ h
      obtain ⟨hF, hrun⟩ := pm_call (n := ln) (d := d) (r := (.inl v, S', a, b)) e1 h1 h2 e6 e7 e8 hTB hG (hcal _ _ _ _ (e11 _ g1) h3) hexec hb hml hown hK hAA hEn hv hl9 (by omega) (by omega) (Nat.le_trans hm9.1 hRc) (Nat.le_trans hm9.2 hRs) hr
      refine pm_after hrun hr.2.2.1 hF (fun k ad' ce q9 H1 locs1 q1 => by cases q1) (fun v9 ad' H1 locs1 q1 q2 q3 q4 q5 q6 => ?_)
      cases q1
      have hvr : ∀ w ∈ rest, pmVv S.1.length w := fun w hw => hv.2.1 w (by show w ∈ st; rw [g2]; exact List.mem_append_right _ hw)
      have hst9 : (v.map (pmRe ad')).toList ++ rest.map (pmRe ad) = (v.toList ++ rest).map (pmRe ad') := by
        rw [List.map_append, q3.map hvr]
        cases v <;> rfl
      rw [hst9]
      refine ih (pc + 3, L, v.toList ++ rest, S') _ _ ad' H1 locs1 ls h ⟨fun k w hk => pmVv_up (hv.1 k w hk) q4, ?_, q5.2.2.1⟩ (hx.trans q3 hl0) (Nat.le_trans hl0 q4) q5.2.2.2 ⟨q5.1, q5.2.1, q6, ?_, hr.2.2.2.2⟩
      · intro w hw
        rcases List.mem_append.mp hw with hw | hw
        · exact q2 w (Option.mem_toList.mp hw)
        · exact pmVv_up (hvr w hw) q4
      · show lv_has ls _ (pmLv ad' L)
        rw [q3.lv hv.1]
        exact hr.2.2.2.1
    · obtain ⟨g1, g2⟩ := pmArg_st h1
      subst h
      obtain ⟨hF, hrun⟩ := pm_call (n := ln) (d := d) (r := (.inr k, S', a, b)) e1 h1 h2 e6 e7 e8 hTB hG (hcal _ _ _ _ (e11 _ g1) h3) hexec hb hml hown hK hAA hEn hv hl9 (by omega) (by omega) hRc hRs hr
      refine pm_after hrun hr.2.2.1 hF (fun k9 ad' ce q9 H1 locs1 q1 q3 q4 q5 q6 q7 q8 q10 => ?_) (fun v9 ad' H1 locs1 q1 => by cases q1)
      cases q1
      refine vx_out (fun z hz => ?_) hlocks q7 q8 q10 (fun t ht hvm => ?_) (by rw [← hA]; exact q6.2.2) (Nat.le_refl _) (Nat.le_refl _)
      · rw [htab, h4] at hz
        cases hz
      · refine ⟨k, ad', rfl, rfl, hx.trans q3 hl0, Nat.le_trans hl0 q4, ?_, ?_⟩
        · rw [ht, ← hA]
          exact q5
        · rw [← hA]
          exact q6.F ht
    · obtain ⟨g1, g2⟩ := pmArg_st h1
      have hm9 := pmX_mono _ _ _ _ h
      obtain ⟨hF, hrun⟩ := pm_call (n := ln) (d := d) (r := (.inr k, S', a, b)) e1 h1 h2 e6 e7 e8 hTB hG (hcal _ _ _ _ (e11 _ g1) h3) hexec hb hml hown hK hAA hEn hv hl9 (by omega) (by omega) (Nat.le_trans hm9.1 hRc) (Nat.le_trans hm9.2 hRs) hr
      refine pm_after hrun hr.2.2.1 hF (fun k9 ad' ce q9 H1 locs1 q1 q3 q4 q5 q6 q7 q8 q10 => ?_) (fun v9 ad' H1 locs1 q1 => by cases q1)
      cases q1
      have hLv : pmVl S'.1.length L := fun k w hk => pmVv_up (hv.1 k w hk) q4
      obtain ⟨v1, v2⟩ := pmHan_vd h5 hLv q5.2.2.1
      have hEn' : pmEn E ad' A s s.heap := hEn.go (State.WarmedH.refl s) (fun i hi => q3 i (Or.inr hi)) (fun _ _ _ => rfl) (Nat.le_refl _) (fun _ h => h)
      refine pm_catch (pc := pc) (L := L) (S := S') (st := []) (ad := ad') hdec h4 h5 hm.2.1 hm.2.2.1 hTB hexec hb hown hEn' htab q7 q8 q10 ⟨q5.1, q5.2.1, q6, ?_, hr.2.2.2.2⟩ (fun H locs ls hr' => ih _ _ _ _ _ _ _ h v1 (hx.trans q3 hl0) (by rw [v2]; exact Nat.le_trans hl0 q4) (by rw [v2]; exact q5.2.2.2) hr')
      show lv_has ls _ (pmLv ad' L)
      rw [q3.lv hv.1]
      exact hr.2.2.2.1
    · exact pm_ret e1 h1 hp hrt hexec hb hlocks hA hx hl0 hl9 hv h hr
    · subst h
      exact pm_throw rfl hdec e1 h1 e9 e10 hTB hexec hb hst hown hEn hml (fun z hz => by rw [htab, h2] at hz; cases hz) hlocks h3 (by omega) (by omega) hRc hRs (Nat.le_refl _) (Nat.le_refl _) hsz hA hx hl0 hl9 hv ⟨rfl, rfl⟩ hr
    · refine ih (pc, L', st, S) _ _ ad H locs ls h ⟨fun k w hk => hv.1 k w ((pmLe_at h1).2 k w hk), hv.2.1, hv.2.2⟩ hx hl0 hl9 ⟨hr.1, hr.2.1, hr.2.2.1, lv_has_of hr.2.2.2.1 (pmLe_lv h1), (pmLe_at h1).1.trans hr.2.2.2.2⟩
end PMH
