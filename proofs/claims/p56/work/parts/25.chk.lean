/-! PM: private methods of AbstractStringBuilder on a StringBuilder -/
theorem sel_sb {y z : MethodName} {s : State} {args : Array Value} (hc : z.cls = y.cls) (hy : y.cls ≠ "java/lang/invoke/MethodHandle" ∧ y.cls ≠ "java/lang/invoke/VarHandle") (hz : (Cond.selects RJ4 z z).before args s = true) (hpriv : (Cond.privateMethod y).before args s = true) (hinst : (Cond.instanceMethod y).before args s = true) :
    (Cond.selects RJ4 y y).before args s = true := by
  obtain ⟨c, r, m0, q1, -, q3, -, kP, hkP, hkPi⟩ := Cond.selects_spec hz
  obtain ⟨mk, methM, hnamed, hmethM, -, -⟩ := Cond.instanceMethod_spec hinst
  have hfound : s.methodFound? y.cls y.name y.desc = some mk := State.methodFound?_of_named hnamed hy
  have hcls : mk.cls = m0.cls := by
    have h1 := findClass_of_methodNamed hnamed
    have h2 := findClass_of_methodNamed q3
    rw [hc] at h2
    exact Option.some.inj (h1.symm.trans h2)
  have hsel : selectMethod {} s.vm c mk = .method mk := selectMethod_private hmethM (Cond.privateMethod_at hpriv mk methM hnamed hmethM)
  rw [← hcls] at hkP
  simp only [Cond.before, Cond.holds, Cond.value, q1, hfound, hnamed, hsel, hkP]
  simp; exact hkPi
def sbY : List MethodName := [yJ5_ensureCapacityInternal_d00df, yJ5_newCapacity_0f7a4, yJ5_putStringAt_47b60, yJ5_inflateIfNeededFor_a7421]
def sbW : List Cond := sbY.map fun y => Cond.selects RJ4 y y
def lw_tb2 : List Cond := (sbW ++ k2_sels lw_privs) ++ tables_1
set_option maxRecDepth 1000000 in
theorem sbY_ok : (sbY.all fun y => decide (y.cls = RJ5) && tables_1.any (fun w => decide (w = Cond.privateMethod y)) && tables_1.any (fun w => decide (w = Cond.instanceMethod y))) = true := by decide +kernel
set_option maxRecDepth 1000000 in
theorem sbZ_ok : (tables_1.any (fun w => decide (w = Cond.selects RJ4 yJ5_isLatin1_aae02 yJ5_isLatin1_aae02))) = true := by decide +kernel
theorem any_in {L : List Cond} {w : Cond} (h : L.any (fun v => decide (v = w)) = true) : w ∈ L := by
  obtain ⟨v, hv, he⟩ := List.any_eq_true.mp h
  rw [← of_decide_eq_true he]
  exact hv
theorem lw_tb2_ok {args : Array Value} {s : State} (h : ∀ w ∈ lw_tbl, w.before args s = true) : ∀ w ∈ lw_tb2, w.before args s = true := by
  intro w hw
  have ht : ∀ w ∈ tables_1, w.before args s = true := fun w hw => h w (List.mem_append_right _ hw)
  rcases List.mem_append.mp hw with hw | hw
  · rcases List.mem_append.mp hw with hw | hw
    · obtain ⟨y, hy, rfl⟩ := List.mem_map.mp hw
      have h1 := List.all_eq_true.mp sbY_ok y hy
      simp only [Bool.and_eq_true, decide_eq_true_eq] at h1
      obtain ⟨⟨g1, g2⟩, g3⟩ := h1
      exact sel_sb (z := yJ5_isLatin1_aae02) g1.symm (by rw [g1]; exact ⟨by decide, by decide⟩) (ht _ (any_in sbZ_ok)) (ht _ (any_in g2)) (ht _ (any_in g3))
    · exact h w (List.mem_append_left _ hw)
  · exact ht w hw
/-! PM: how an entry is checked: its words by their places in the tables -/
def tabP (p : Nat) : List Cond := match p with
  | 0 => sbW ++ k2_sels lw_privs | 1 => tables_1_1 | 2 => tables_1_2 | 3 => tables_1_3 | 4 => tables_1_4 | 5 => tables_1_5 | 6 => tables_1_6 | _ => tables_1_7
theorem tabP_1 {p : Nat} {w : Cond} (hp : p ≠ 0) (h : w ∈ tabP p) : w ∈ tables_1 := by
  unfold tabP at h
  unfold tables_1
  split at h
  · exact absurd rfl hp
  · exact List.mem_append_left _ h
  · exact List.mem_append_right _ (List.mem_append_left _ h)
  · exact List.mem_append_right _ (List.mem_append_right _ (List.mem_append_left _ h))
  · exact List.mem_append_right _ (List.mem_append_right _ (List.mem_append_right _ (List.mem_append_left _ h)))
  · exact List.mem_append_right _ (List.mem_append_right _ (List.mem_append_right _ (List.mem_append_right _ (List.mem_append_left _ h))))
  · exact List.mem_append_right _ (List.mem_append_right _ (List.mem_append_right _ (List.mem_append_right _ (List.mem_append_right _ (List.mem_append_left _ h)))))
  · exact List.mem_append_right _ (List.mem_append_right _ (List.mem_append_right _ (List.mem_append_right _ (List.mem_append_right _ (List.mem_append_right _ h)))))
theorem tabP_in {p : Nat} {w : Cond} (h : w ∈ tabP p) : w ∈ lw_tb2 := by
  unfold lw_tb2
  by_cases hp : p = 0
  · subst hp
    exact List.mem_append_left _ h
  · exact List.mem_append_right _ (tabP_1 hp h)
/-- the words of all calls of the system -/
def pmTB : List Cond := lw_tb2.filter goodWord
theorem pmTB_good : pmGood pmTB := fun w hw => good_of_word (List.mem_filter.mp hw).2
def hk : List Cond → List Nat → Bool
  | [], _ => true
  | w :: ws, h :: hs => decide ((tabP (h / 1000))[h % 1000]? = some w) && goodWord w && hk ws hs
  | _ :: _, [] => false
theorem hk_ok : ∀ {ws : List Cond} {hs : List Nat}, hk ws hs = true → ∀ w ∈ ws, w ∈ pmTB
  | [], _, _, _, h => absurd h List.not_mem_nil
  | w :: ws, [], hh, _, _ => by cases hh
  | w :: ws, h :: hs, hh, v, hv => by
    unfold hk at hh
    simp only [Bool.and_eq_true, decide_eq_true_eq] at hh
    obtain ⟨⟨h1, h2⟩, h3⟩ := hh
    rcases List.mem_cons.mp hv with rfl | hv
    · exact List.mem_filter.mpr ⟨tabP_in (List.mem_of_getElem? h1), h2⟩
    · exact hk_ok h3 v hv
def isNs (w : Cond) : Bool := match w with | .methodLinkNest _ _ _ _ => true | _ => false
def hn : List Cond → List Nat → Bool
  | [], _ => true
  | w :: ws, h :: hs => decide ((tabP (h / 1000))[h % 1000]? = some w) && decide (h / 1000 ≠ 0) && isNs w && hn ws hs
  | _ :: _, [] => false
theorem hn_ok : ∀ {ws : List Cond} {hs : List Nat}, hn ws hs = true → ∀ w ∈ ws, w ∈ pmNs
  | [], _, _, _, h => absurd h List.not_mem_nil
  | w :: ws, [], hh, _, _ => by cases hh
  | w :: ws, h :: hs, hh, v, hv => by
    unfold hn at hh
    simp only [Bool.and_eq_true, decide_eq_true_eq] at hh
    obtain ⟨⟨⟨h1, h2⟩, h4⟩, h3⟩ := hh
    rcases List.mem_cons.mp hv with rfl | hv
    · exact List.mem_filter.mpr ⟨tabP_1 h2 (List.mem_of_getElem? h1), h4⟩
    · exact hn_ok h3 v hv
/-- an entry's words but those of a whole class and of a throw -/
def pmWs1 (own : String) (i : Instr) (x : Nat × Nat) : List Cond := match i with
  | .getfield k => if x.1 < 11 then [.fieldLink own k (pmT x.1 x.2).1 (pmT x.1 x.2).2.1 (pmT x.1 x.2).2.2.1] else if x.1 = 40 then [.fieldLink own k "java/lang/String" "value" "[B"] else [.fieldLink own k "java/lang/String" "coder" "B"]
  | .putfield k => [.fieldLink own k (pmT x.1 x.2).1 (pmT x.1 x.2).2.1 (pmT x.1 x.2).2.2.1]
  | .new k => if x.1 = 60 then [.classLink own k (pmCN x.2), .instantiable (pmCN x.2) (pmN x.2), .initialized (pmCN x.2)] else []
  | _ => pmWs own i x
def pmWo (i : Instr) (x : Nat × Nat) : Bool := match i with
  | .putfield _ => decide (x.1 < 11)
  | .new _ => x.1 != 60 || decide (x.2 < 11)
  | _ => true
theorem pmWs_of {TB : List Cond} {own : String} {i : Instr} {x : Nat × Nat} (hu : ∀ c, c < 11 → ∀ w ∈ u_ws (pmCN c) (pmT c) (pmN c), w ∈ TB) (ho : pmWo i x = true) (h : ∀ w ∈ pmWs1 own i x, w ∈ TB) : ∀ w ∈ pmWs own i x, w ∈ TB := by
  intro w hw
  unfold pmWs1 at h
  split at h
  · dsimp only [pmWs] at hw
    split at hw
    · rename_i hx
      rw [if_pos hx] at h
      rcases List.mem_cons.mp hw with rfl | hw
      · exact h _ List.mem_cons_self
      · exact hu _ hx w hw
    · rename_i hx
      rw [if_neg hx] at h
      split at hw
      · rename_i hx2
        rw [if_pos hx2] at h
        rcases List.mem_cons.mp hw with rfl | hw
        · exact h _ List.mem_cons_self
        · exact hu _ (by decide) w hw
      · rename_i hx2
        rw [if_neg hx2] at h
        rcases List.mem_cons.mp hw with rfl | hw
        · exact h _ List.mem_cons_self
        · exact hu _ (by decide) w hw
  · dsimp only [pmWs] at hw
    simp only [pmWo, decide_eq_true_eq] at ho
    rcases List.mem_cons.mp hw with rfl | hw
    · exact h _ List.mem_cons_self
    · exact hu _ ho w hw
  · dsimp only [pmWs] at hw
    split at hw
    · rename_i hx
      rw [if_pos hx] at h
      simp only [pmWo, hx, bne_self_eq_false, Bool.false_or, decide_eq_true_eq] at ho
      rcases List.mem_append.mp hw with hw | hw
      · exact h w hw
      · exact hu _ ho w hw
    · cases hw
  · exact h w hw
theorem pmWt_of {TB : List Cond} {own X : String} {ic : Nat} {ns : List String} (h1 : ∀ w ∈ vxT X ns, vx_no w = true → goodWord w = true → w ∈ TB) (h2 : Cond.methodLink own ic (Bundle.init0 X) ∈ TB) : ∀ w ∈ (vx_at0 own ic X ns).filter goodWord, w ∈ TB := by
  intro w hw
  obtain ⟨ha, hg⟩ := List.mem_filter.mp hw
  rcases vx_split ha with rfl | ⟨h3, h4⟩
  · exact h2
  · exact h1 w h3 h4 hg
def inTabs (w : Cond) : Bool := (List.range 8).any (fun p => (tabP p).any (fun v => decide (v = w)))
theorem inTabs_ok {w : Cond} (h : inTabs w = true) : w ∈ lw_tb2 := by
  obtain ⟨p, -, hp⟩ := List.any_eq_true.mp h
  obtain ⟨v, hv, he⟩ := List.any_eq_true.mp hp
  have := of_decide_eq_true he
  subst this
  exact tabP_in hv
/-- a throw's words: its class, its constructor -/
def pmWt1 (Pg : Nat → pmMe) (j pc : Nat) (i : Instr) (x : Nat × Nat) : List Cond := match i with
  | .new ik => if x.1 = 70 then (match pmCo (Pg j) (pc + 4) with
      | some (.invokespecial ic, _) => [.classLink (pmNm (Pg j)).cls ik (pmXn x.2), .initialized (pmXn x.2), .methodLink (pmNm (Pg j)).cls ic (Bundle.init0 (pmXn x.2))]
      | _ => []) else []
  | _ => []
theorem pmWt1_of {TB : List Cond} {Pg : Nat → pmMe} {j pc : Nat} {i : Instr} {x : Nat × Nat} (h0 : ∀ k, k < 6 → ∀ w ∈ vxT (pmXn k) pmUp, vx_no w = true → goodWord w = true → w ∈ TB) (ho : pmOt Pg j pc i x = true) (h : ∀ w ∈ pmWt1 Pg j pc i x, w ∈ TB) : ∀ w ∈ pmWt Pg j pc i x, w ∈ TB := by
  intro w hw
  unfold pmWt at hw
  unfold pmWt1 at h
  unfold pmOt at ho
  split at hw
  · rename_i ik
    dsimp only at h ho
    split at hw
    · rename_i hx
      rw [if_pos hx] at h ho
      split at hw
      · rename_i ic y hc
        rw [hc] at h ho
        dsimp only at h ho
        simp only [Bool.and_eq_true, decide_eq_true_eq] at ho
        rcases List.mem_cons.mp hw with rfl | hw
        · exact h _ List.mem_cons_self
        · rcases List.mem_cons.mp hw with rfl | hw
          · exact h _ (List.mem_cons_of_mem _ List.mem_cons_self)
          · exact pmWt_of (h0 _ ho.1.1) (h _ (List.mem_cons_of_mem _ (List.mem_cons_of_mem _ List.mem_cons_self))) w hw
      · cases hw
    · cases hw
  · cases hw
/-- all of an entry's checks -/
def chkE (NM : Nat) (Pg : Nat → pmMe) (j q : Nat) (e : Instr × Nat × Nat × Nat) (hs ns : List Nat) : Bool :=
  decide (decode (pmBy (Pg j)) q = .ok (e.1, pmIl e.1 e.2.1)) && pmWo e.1 e.2.2 && hk (pmWs1 (pmNm (Pg j)).cls e.1 e.2.2 ++ (pmWc Pg (pmNm (Pg j)).cls e.1 e.2.2 ++ pmWt1 Pg j q e.1 e.2.2)) hs
    && pmOk (decide ((pmNm (Pg j)).name = "<init>")) (pmNm (Pg j)).cls e.1 e.2.2 && pmOx (pmNm (Pg j)).cls e.1 e.2.2 && pmOa e.1 e.2.2 && pmOc Pg e.1 e.2.2
    && hn (pmWn Pg (pmNm (Pg j)).cls e.1 e.2.2) ns && pmOt Pg j q e.1 e.2.2 && (match pmTg e.1 e.2.2 with | none => true | some t => decide (t < NM))
theorem chkE_ok {NM : Nat} {Pg : Nat → pmMe} {j q : Nat} {e : Instr × Nat × Nat × Nat} {hs ns : List Nat} (hu : ∀ c, c < 11 → ∀ w ∈ u_ws (pmCN c) (pmT c) (pmN c), w ∈ pmTB) (h0 : ∀ k, k < 6 → ∀ w ∈ vxT (pmXn k) pmUp, vx_no w = true → goodWord w = true → w ∈ pmTB) (h : chkE NM Pg j q e hs ns = true) : pmEnt NM Pg pmTB j q e.1 e.2.1 e.2.2 := by
  unfold chkE at h
  simp only [Bool.and_eq_true, decide_eq_true_eq] at h
  obtain ⟨⟨⟨⟨⟨⟨⟨⟨⟨h1, h2⟩, h3⟩, h4⟩, h5⟩, h6⟩, h7⟩, h8⟩, h9⟩, h10⟩ := h
  have hw := hk_ok h3
  refine ⟨h1, pmWs_of hu h2 (fun w h => hw w (List.mem_append_left _ h)), h4, h5, h6, h7, fun w h => hw w (List.mem_append_right _ (List.mem_append_left _ h)), hn_ok h8, h9, pmWt1_of h0 h9 (fun w h => hw w (List.mem_append_right _ (List.mem_append_right _ h))), fun t ht => ?_⟩
  rw [ht] at h10
  exact of_decide_eq_true h10
def chkC (NM : Nat) (Pg : Nat → pmMe) (j size : Nat) (hint : Nat → List Nat × List Nat) : Bool :=
  (List.range size).all (fun q => match pmCo (Pg j) q with | none => true | some e => chkE NM Pg j q e (hint q).1 (hint q).2)
theorem mok_of {NM : Nat} {Pg : Nat → pmMe} {j size : Nat} {hint : Nat → List Nat × List Nat} {hh : List Nat} (hu : ∀ c, c < 11 → ∀ w ∈ u_ws (pmCN c) (pmT c) (pmN c), w ∈ pmTB) (h0 : ∀ k, k < 6 → ∀ w ∈ vxT (pmXn k) pmUp, vx_no w = true → goodWord w = true → w ∈ pmTB)
    (h1 : chkC NM Pg j size hint = true) (h2 : ∀ q, size ≤ q → pmCo (Pg j) q = none) (h3 : (hk (pmWh (Pg j)) hh && pmOh (Pg j) && plainFor (pmNm (Pg j))) = true) : pmMOk NM Pg pmTB j := by
  simp only [Bool.and_eq_true] at h3
  refine ⟨fun q i n x hq => ?_, hk_ok h3.1.1, h3.1.2, h3.2⟩
  have hl : q < size := by
    rcases Nat.lt_or_ge q size with h | h
    · exact h
    · rw [h2 q h] at hq
      cases hq
  have h4 := List.all_eq_true.mp h1 q (List.mem_range.mpr hl)
  rw [hq] at h4
  exact chkE_ok (e := (i, n, x)) hu h0 h4
