/-! the law's calls of seen and areAlike, with other things about -/
section CALLS
variable {E : pmEv0} {d n : Nat} {J : pmG} {F : pmM} {m : pmI} {D : Nat → Nat → UInt64}
def rho9 (N : Nat) : Nat → Nat := fun i => if i = 113 then N else i
theorem calR_seen {a' : Nat → Int32} {m' : pmI} {w dd : Nat} (he : pmEv Pg E dd 141 [.ref 0] (sst (nz m) (mixR D (fun _ _ => 0))) (.inl (some (.ref 113)), sX a' m' (mixR D (fun _ _ => 0)), w + 1, 6 * w + 160)) (hF : okF9 J F) (hl : J.length ≤ 80000) :
    pmCalR (pmEv Pg E dd) 141 [.ref 0] (eS J F m D) (.inl (some (.ref (113 + J.length))), eS (J ++ [Sum.inr (0, 160)]) (setF F (113 + J.length) a') m' D, w + 1, 6 * w + 160) := by
  have hl2 : (J ++ [Sum.inr (0, 160)] : pmG).length = J.length + 1 := by
    rw [List.length_append]
    rfl
  have elo {α : Type} (f g : Nat → Nat → α) {i : Nat} (hi : i < 113) : mixR f g i = f i := by
    funext k
    exact if_pos hi
  have hsX : ∀ i, i < (sX a' m' (mixR D (fun _ _ => 0))).1.length → i < 113 ∨ i = 113 := fun i hi => by
    have : (sX a' m' (mixR D (fun _ _ => 0))).1.length = 114 := pmG0_app _
    omega
  refine ⟨id, rho9 (113 + J.length), [.ref 0], sst (nz m) (mixR D (fun _ _ => 0)), (.inl (some (.ref 113)), sX a' m' (mixR D (fun _ _ => 0)), w + 1, 6 * w + 160), he, rfl, ?_, ?_, ?_, ren_eq (fun i hi => ⟨(nz_lo hi).1, (nz_lo hi).2, elo D _ hi⟩), ?_, rfl, ?_, ⟨?_, ?_, ?_⟩, ?_, ?_, ?_, ?_, ?_, ?_⟩
  · show ∀ v ∈ [Value.ref 0], pmVv pmG0.length v
    rw [pmG0_len]
    exact okA_ok rfl
  · show pmVm pmG0.length _
    rw [pmG0_len]
    exact pmR0_vm
  · show pmG0.length ≤ 90000
    rw [pmG0_len]
    omega
  · show (Sum.inl (some (Value.ref (113 + J.length))) : pmO) = .inl ((some (Value.ref 113)).map (pmRe (rho9 (113 + J.length))))
    show (Sum.inl (some (Value.ref (113 + J.length))) : pmO) = .inl (some (Value.ref (rho9 (113 + J.length) 113)))
    rw [show rho9 (113 + J.length) 113 = 113 + J.length from if_pos rfl]
  · intro i hi
    have hi' : i < pmG0.length ∨ 90000 ≤ i := hi
    rw [pmG0_len] at hi'
    exact if_neg (by omega)
  · intro i hi
    exact if_neg (by omega)
  · intro i j hi hj e
    have e : (if i = 113 then 113 + J.length else i) = (if j = 113 then 113 + J.length else j) := e
    rcases hsX i hi with h1 | h1 <;> rcases hsX j hj with h2 | h2
    · rw [if_neg (by omega), if_neg (by omega)] at e
      exact e
    · rw [if_neg (by omega), if_pos h2] at e
      omega
    · rw [if_pos h1, if_neg (by omega)] at e
      omega
    · rw [h1, h2]
  · intro i hi
    rcases hsX i hi with h1 | h1
    · have er : rho9 (113 + J.length) i = i := if_neg (by omega)
      rw [er]
      refine ⟨?_, ?_, ?_, ?_, fun k => ?_, ?_⟩
      · show i < (pmG0 ++ (J ++ [Sum.inr (0, 160)])).length
        rw [pmG0_app]
        omega
      · show (pmG0 ++ (J ++ [Sum.inr (0, 160)]))[i]? = (pmG0 ++ [Sum.inr (0, 160)])[i]?
        rw [List.getElem?_append_left (by rw [pmG0_len]; exact h1), List.getElem?_append_left (by rw [pmG0_len]; exact h1)]
      · exact (elo _ _ h1).trans (elo _ _ h1).symm
      · exact (elo _ _ h1).trans (elo _ _ h1).symm
      · show mixR pmR0 _ i k = (mixR pmR0 _ i k).map _
        rw [elo _ _ h1, elo _ _ h1]
        cases hq : pmR0 i k with
        | none => rfl
        | some q =>
          have := pmR0_ok hq
          show some q = some (rho9 _ q)
          rw [show rho9 (113 + J.length) q = q from if_neg (by omega)]
      · show mixR D _ i = mixR (mixR D (fun _ _ => 0)) _ i
        rw [elo _ _ h1, elo _ _ h1, elo _ _ h1]
    · subst h1
      have er : rho9 (113 + J.length) 113 = 113 + J.length := if_pos rfl
      have hge : 113 ≤ 113 + J.length := by omega
      rw [er]
      refine ⟨?_, ?_, ?_, ?_, fun k => ?_, ?_⟩
      · show 113 + J.length < (pmG0 ++ (J ++ [Sum.inr (0, 160)])).length
        rw [pmG0_app]
        omega
      · show (pmG0 ++ (J ++ [Sum.inr (0, 160)]))[113 + J.length]? = some (.inr (0, 160))
        rw [List.getElem?_append_right (by rw [pmG0_len]; omega), pmG0_len, show 113 + J.length - 113 = J.length by omega]
        exact get_new
      · show mixR m'.1 (setF F (113 + J.length) a').1 (113 + J.length) = a'
        rw [mix_hi hge]
        exact if_pos rfl
      · show mixR m'.2 (setF F (113 + J.length) a').2.1 (113 + J.length) = fun _ => 0
        rw [mix_hi hge]
        exact if_pos rfl
      · show mixR pmR0 (setF F (113 + J.length) a').2.2.1 (113 + J.length) k = none
        rw [mix_hi hge]
        exact congrFun (if_pos rfl) k
      · show mixR D (setF F (113 + J.length) a').2.2.2 (113 + J.length) = fun _ => 0
        rw [mix_hi hge]
        exact if_pos rfl
  · show (pmG0 ++ (J ++ [Sum.inr (0, 160)])).length + pmG0.length = (pmG0 ++ J).length + (pmG0 ++ [Sum.inr (0, 160)]).length
    rw [pmG0_app, pmG0_app, pmG0_app, pmG0_len, hl2]
    show 113 + (J.length + 1) + 113 = 113 + J.length + (113 + 1)
    omega
  · show (pmG0 ++ (J ++ [Sum.inr (0, 160)])).length ≤ 90000
    rw [pmG0_app]
    omega
  · intro i hi
    show (pmG0 ++ (J ++ [Sum.inr (0, 160)]))[i]? = (pmG0 ++ J)[i]?
    rw [← List.append_assoc]
    exact List.getElem?_append_left hi
  · show pmVm (pmG0 ++ (J ++ [Sum.inr (0, 160)])).length _
    rw [pmG0_app]
    exact eS_vm (okF9_set hF hl a') m' D
  · intro i h1 h2
    have h1 : pmG0.length ≤ i := h1
    rw [pmG0_len] at h1
    rcases hsX i h2 with h3 | h3
    · omega
    · subst h3
      show rho9 _ 113 + pmG0.length = 113 + (pmG0 ++ J).length
      rw [pmG0_app, pmG0_len, show rho9 (113 + J.length) 113 = 113 + J.length from if_pos rfl]
      omega
  · intro i h1 h2
    have h1 : i < (pmG0 ++ J).length := h1
    rw [pmG0_app] at h1
    have hi : 113 ≤ i := Nat.le_of_not_lt fun h => h2 i (by show i < pmG0.length; rw [pmG0_len]; exact h) rfl
    refine ⟨?_, ?_, ?_, ?_⟩
    · show mixR m'.1 _ i = mixR m.1 _ i
      rw [mix_hi hi, mix_hi hi]
      exact if_neg (by omega)
    · show mixR m'.2 _ i = mixR m.2 _ i
      rw [mix_hi hi, mix_hi hi]
      exact if_neg (by omega)
    · show mixR pmR0 _ i = mixR pmR0 _ i
      rw [mix_hi hi, mix_hi hi]
      exact if_neg (by omega)
    · show mixR D _ i = mixR D _ i
      rw [mix_hi hi, mix_hi hi]
      exact if_neg (by omega)
/-- the law looks -/
theorem ec_seen {a' : Nat → Int32} {A : Ab} {H : List Ab} {S : Option Ab} {T : Nat} (hs : ∀ m H S T, CI A H S T m → ∃ m' w', fL_seen n m (fun _ => 0) = some (a', m', w') ∧ CI A H S T m' ∧ w' ≤ 56) (hc : CI A H S T m) (hF : okF9 J F) (hl : J.length ≤ 80000) (hd : 6 ≤ d) :
    EC E d 141 [.ref 0] (eS J F m D) 57 496 (fun v S' => ∃ m', v = some (.ref (113 + J.length)) ∧ S' = eS (J ++ [Sum.inr (0, 160)]) (setF F (113 + J.length) a') m' D ∧ CI A H S T m') := by
  obtain ⟨m', w, e1, c1, hw⟩ := hs (nz m) H S T hc.nz
  exact ⟨_, _, w + 1, 6 * w + 160, Or.inr (calR_seen (pmEv_le (seen_ev e1) hd) hF hl), by omega, by omega, m', rfl, rfl, c1⟩
def rho2 (r1 r2 : Nat) : Nat → Nat := fun i => if i = 0 then r1 else if i = 1 then r2 else i
/-- two rows of the same numbers -/
theorem ec_ali {r1 r2 : Nat} {a b : Nat → Int32} (h1 : ROW J F r1 a) (h2 : ROW J F r2 b) (hr : r1 ≠ r2) (hab : ∀ k, k < 160 → a k = b k) (hF : okF9 J F) (hd : 1 ≤ d) : EC E d 233 [.ref r1, .ref r2] (eS J F m D) 0 0 (fun v S' => v = some (.int 1) ∧ S' = eS J F m D) := by
  refine ⟨some (.int 1), eS J F m D, 0, 0, Or.inr ?_, Nat.le_refl _, Nat.le_refl _, rfl, rfl⟩
  have he := pmEv_le (ali_ok (E := E) hab) hd
  obtain ⟨⟨p1, p2⟩, p3, p4, p5, p6, p7⟩ := h1
  obtain ⟨⟨q1, q2⟩, q3, q4, q5, q6, q7⟩ := h2
  have hFl := hF.1
  have hren : pmRen (rho2 r1 r2) (s2 a b) (eS J F m D) := by
    have one : ∀ {r : Nat} {c : Nat → Int32}, 113 ≤ r → r < 113 + J.length → J[r - 113]? = some (.inr (0, 160)) → F.1 r = c → F.2.1 r = (fun _ => 0) → F.2.2.1 r = (fun _ => none) → F.2.2.2 r = (fun _ => 0) →
        r < (eS J F m D).1.length ∧ (eS J F m D).1[r]? = some (.inr (0, 160)) ∧ (eS J F m D).2.1 r = c ∧ (eS J F m D).2.2.1 r = (fun _ => 0) ∧ (∀ k, (eS J F m D).2.2.2.1 r k = none) ∧ (eS J F m D).2.2.2.2 r = fun _ => 0 := by
      intro r c g1 g2 g3 g4 g5 g6 g7
      refine ⟨?_, ?_, (mix_hi g1).trans g4, (mix_hi g1).trans g5, fun k => ?_, (mix_hi g1).trans g7⟩
      · show r < (pmG0 ++ J).length
        rw [pmG0_app]
        exact g2
      · show (pmG0 ++ J)[r]? = _
        rw [List.getElem?_append_right (by rw [pmG0_len]; exact g1), pmG0_len]
        exact g3
      · show mixR pmR0 F.2.2.1 r k = none
        rw [mix_hi g1, g6]
    have hsz : ∀ i, i < (s2 a b).1.length → i = 0 ∨ i = 1 := fun i hi => by
      have hi : i < 2 := hi
      omega
    refine ⟨fun i hi => ?_, fun i j hi hj e => ?_, fun i hi => ?_⟩
    · show (if i = 0 then r1 else if i = 1 then r2 else i) = i
      rw [if_neg (by omega), if_neg (by omega)]
    · rcases hsz i hi with rfl | rfl <;> rcases hsz j hj with rfl | rfl
      · rfl
      · exact absurd e hr
      · exact absurd e.symm hr
      · rfl
    · rcases hsz i hi with rfl | rfl
      · obtain ⟨o1, o2, o3, o4, o5, o6⟩ := one p1 p2 p3 p4 p5 p6 p7
        exact ⟨o1, o2, o3, o4, fun k => o5 k, o6⟩
      · obtain ⟨o1, o2, o3, o4, o5, o6⟩ := one q1 q2 q3 q4 q5 q6 q7
        exact ⟨o1, o2, o3, o4, fun k => o5 k, o6⟩
  have hT : (eS J F m D).1.length = 113 + J.length := pmG0_app J
  refine ⟨rho2 r1 r2, rho2 r1 r2, [.ref 0, .ref 1], s2 a b, _, he, rfl, ?_, ?_, ?_, hren, rfl, rfl, fun _ _ => rfl, hren, rfl, by show (eS J F m D).1.length ≤ 90000; omega, fun _ _ => rfl, ?_, ?_, fun i h1 h2 => ⟨rfl, rfl, rfl, rfl⟩⟩
  · intro v hv
    rcases List.mem_cons.mp hv with rfl | hv
    · exact Or.inl (show (0 : Nat) < (2 : Nat) from by decide)
    · rcases List.mem_cons.mp hv with rfl | hv
      · exact Or.inl (show (1 : Nat) < (2 : Nat) from by decide)
      · exact absurd hv List.not_mem_nil
  · intro i k q hq
    cases hq
  · show 2 ≤ 90000
    omega
  · show pmVm (eS J F m D).1.length _
    rw [hT]
    exact eS_vm hF m D
  · intro i h1 h2
    exact absurd h2 (Nat.not_lt.mpr h1)
end CALLS
