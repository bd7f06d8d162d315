/-! the law's rows: a row made by seen, two rows compared -/
/-- a run that took more before -/
theorem pmX_sh {E : pmEv0} {cal : Nat → List Value → pmS → pmR → Prop} {j a b : Nat} {r : pmR} : ∀ (n : Nat) (c : pmC) (kc ks : Nat), pmX Pg E cal j n c kc ks r → pmX Pg E cal j n c (kc + a) (ks + b) (r.1, r.2.1, r.2.2.1 + a, r.2.2.2 + b)
  | 0, _, _, _, h => h
  | n + 1, c, kc, ks, h => by
    obtain ⟨i, ln, x, hco, h⟩ := h
    refine ⟨i, ln, x, hco, ?_⟩
    rcases h with ⟨b', c', ps, h1, h2, h⟩ | ⟨c', ps, h1, h2, h⟩ | ⟨c', a', b', h1, h⟩ | ⟨t, as, rest, v, S', a', b', h1, h2, h3, h⟩ | ⟨t, as, rest, k, S', a', b', h1, h2, h3, h4, h⟩ | ⟨t, as, rest, k, S', a', b', h9, c', h1, h2, h3, h4, h5, h⟩ | ⟨v, ps, h1, h2, h⟩ | ⟨k, h1, h2, h3, h⟩ | ⟨L', h1, h⟩
    · exact Or.inl ⟨b', c', ps, h1, h2, pmX_sh n _ _ _ h⟩
    · exact Or.inr (Or.inl ⟨c', ps, h1, h2, pmX_sh n _ _ _ h⟩)
    · refine Or.inr (Or.inr (Or.inl ⟨c', a', b', h1, ?_⟩))
      have := pmX_sh (a := a) (b := b) n _ _ _ h
      rw [show kc + a + a' = kc + a' + a by omega, show ks + b + b' = ks + b' + b by omega]
      exact this
    · refine Or.inr (Or.inr (Or.inr (Or.inl ⟨t, as, rest, v, S', a', b', h1, h2, h3, ?_⟩)))
      have := pmX_sh (a := a) (b := b) n _ _ _ h
      rw [show kc + a + a' = kc + a' + a by omega, show ks + b + b' = ks + b' + b by omega]
      exact this
    · subst h
      refine Or.inr (Or.inr (Or.inr (Or.inr (Or.inl ⟨t, as, rest, k, S', a', b', h1, h2, h3, h4, ?_⟩))))
      rw [show kc + a + a' = kc + a' + a by omega, show ks + b + b' = ks + b' + b by omega]
    · refine Or.inr (Or.inr (Or.inr (Or.inr (Or.inr (Or.inl ⟨t, as, rest, k, S', a', b', h9, c', h1, h2, h3, h4, h5, ?_⟩)))))
      have := pmX_sh (a := a) (b := b) n _ _ _ h
      rw [show kc + a + a' = kc + a' + a by omega, show ks + b + b' = ks + b' + b by omega]
      exact this
    · subst h
      exact Or.inr (Or.inr (Or.inr (Or.inr (Or.inr (Or.inr (Or.inl ⟨v, ps, h1, h2, rfl⟩))))))
    · subst h
      refine Or.inr (Or.inr (Or.inr (Or.inr (Or.inr (Or.inr (Or.inr (Or.inl ⟨k, h1, h2, h3, ?_⟩)))))))
      rw [show kc + a + 1 = kc + 1 + a by omega, show ks + b + 6 = ks + 6 + b by omega]
    · exact Or.inr (Or.inr (Or.inr (Or.inr (Or.inr (Or.inr (Or.inr (Or.inr ⟨L', h1, pmX_sh n _ _ _ h⟩)))))))
/-- one more row behind -/
def setF (F : pmM) (N : Nat) (a : Nat → Int32) : pmM := (fun i => if i = N then a else F.1 i, fun i => if i = N then fun _ => 0 else F.2.1 i, fun i => if i = N then fun _ => none else F.2.2.1 i, fun i => if i = N then fun _ => 0 else F.2.2.2 i)
theorem okF9_set {J : pmG} {F : pmM} (h : okF9 J F) (hl : J.length ≤ 80000) (a : Nat → Int32) : okF9 (J ++ [.inr (0, 160)]) (setF F (113 + J.length) a) := by
  have hl2 : (J ++ [Sum.inr (0, 160)] : pmG).length = J.length + 1 := by
    rw [List.length_append]
    rfl
  refine ⟨by omega, fun i k q hq => ?_⟩
  have hq : (if i = 113 + J.length then fun _ => none else F.2.2.1 i) k = some q := hq
  split at hq
  · cases hq
  · have := h.2 i k q hq
    omega
theorem ext_set {J : pmG} {F : pmM} (h : okF9 J F) (hl : J.length ≤ 80000) (a : Nat → Int32) : EXT 1 J F (J ++ [.inr (0, 160)]) (setF F (113 + J.length) a) := by
  refine ⟨⟨_, rfl⟩, by rw [List.length_append]; exact Nat.le_refl _, okF9_set h hl a, fun i h1 h2 => ⟨if_neg (by omega), if_neg (by omega), if_neg (by omega), if_neg (by omega)⟩⟩
/-- a row of ints stands at r -/
def ROW (J : pmG) (F : pmM) (r : Nat) (a : Nat → Int32) : Prop := (113 ≤ r ∧ r < 113 + J.length) ∧ J[r - 113]? = some (.inr (0, 160)) ∧ F.1 r = a ∧ F.2.1 r = (fun _ => 0) ∧ F.2.2.1 r = (fun _ => none) ∧ F.2.2.2 r = (fun _ => 0)
theorem row_new {J : pmG} {F : pmM} {a : Nat → Int32} : ROW (J ++ [.inr (0, 160)]) (setF F (113 + J.length) a) (113 + J.length) a := by
  refine ⟨⟨by omega, ?_⟩, ?_, if_pos rfl, if_pos rfl, if_pos rfl, if_pos rfl⟩
  · rw [List.length_append]
    show 113 + J.length < 113 + (J.length + 1)
    omega
  · rw [show 113 + J.length - 113 = J.length by omega]
    exact get_new
theorem ROW.ext {J J' : pmG} {F F' : pmM} {r k : Nat} {a : Nat → Int32} (h : ROW J F r a) (e : EXT k J F J' F') : ROW J' F' r a := by
  obtain ⟨⟨h1, h2⟩, h3, h4, h5, h6, h7⟩ := h
  obtain ⟨⟨Y, rfl⟩, -, -, e4⟩ := e
  obtain ⟨g1, g2, g3, g4⟩ := e4 r h1 h2
  refine ⟨⟨h1, ?_⟩, get_app h3, g1.trans h4, g2.trans h5, g3.trans h6, g4.trans h7⟩
  rw [List.length_append]
  omega
theorem EXT.trans {J J1 J2 : pmG} {F F1 F2 : pmM} {k1 k2 : Nat} (h : EXT k1 J F J1 F1) (g : EXT k2 J1 F1 J2 F2) : EXT (k1 + k2) J F J2 F2 := by
  obtain ⟨⟨Y, rfl⟩, h2, h3, h4⟩ := h
  obtain ⟨⟨Y2, rfl⟩, g2, g3, g4⟩ := g
  refine ⟨⟨Y ++ Y2, List.append_assoc _ _ _⟩, by omega, g3, fun i h1 hi => ?_⟩
  obtain ⟨a1, a2, a3, a4⟩ := h4 i h1 hi
  obtain ⟨b1, b2, b3, b4⟩ := g4 i h1 (by rw [List.length_append]; omega)
  exact ⟨b1.trans a1, b2.trans a2, b3.trans a3, b4.trans a4⟩
section ROWS
variable {E : pmEv0} {d n : Nat} {J : pmG} {F : pmM} {m : pmI} {D : Nat → Nat → UInt64}
/-- no junk behind the class's things -/
def nz (m : pmI) : pmI := (mixR m.1 (fun _ _ => 0), mixR m.2 (fun _ _ => 0))
theorem nz_lo {m : pmI} {i : Nat} (hi : i < 113) : (nz m).1 i = m.1 i ∧ (nz m).2 i = m.2 i := by
  constructor
  · funext k
    exact if_pos hi
  · funext k
    exact if_pos hi
theorem CI.nz {A : Ab} {H : List Ab} {S : Option Ab} {T : Nat} {m : pmI} (h : CI A H S T m) : CI A H S T (nz m) := by
  obtain ⟨W, h, h1⟩ := h
  exact ⟨W, cInv_fr h (fun i hi => nz_lo (by omega)), h1⟩
theorem seen_ev {a' : Nat → Int32} {m' : pmI} {w : Nat} (he : fL_seen n (nz m) (fun _ => 0) = some (a', m', w)) : pmEv Pg E 6 141 [.ref 0] (sst (nz m) (mixR D (fun _ _ => 0))) (.inl (some (.ref 113)), sX a' m' (mixR D (fun _ _ => 0)), w + 1, 6 * w + 160) := by
  have hM := MML_seen
  obtain ⟨D0, hD0⟩ : ∃ D0, D0 = mixR D (fun _ _ => 0) := ⟨_, rfl⟩
  rw [← hD0]
  obtain ⟨k, hk⟩ := xL_seen (E := E) (D := D0) n (nz m) (fun _ => 0) _ he _ rfl
  have hk2 := pmX_sh (a := 1) (b := 160) k _ _ _ hk
  refine ⟨Nat.le_of_ble_eq_true rfl, ?_⟩
  show pmRn E 5 141 (0, [some (.ref 0), none, none, none, none], [], sst (nz m) D0) 0 0 _
  refine xs_gl hM.1 1 _ (3, [some (.ref 0), none, none, none, none], [.int (z 160)], sst (nz m) D0) [] rfl (fun _ h => absurd h List.not_mem_nil) ?_
  have eS0 : (pmG0 ++ [.inr (0, 160)], pmZ 113 (sst (nz m) D0).2) = sX (fun _ => 0) (nz m) D0 := by
    have e1 : ∀ {α : Type} (f g : Nat → Nat → α) (x : α), (∀ i k, i < 113 → f i k = f i k) → (∀ i k, 113 < i → f i k = g i k) → (∀ k, x = g 113 k) → (fun i k => if i = 113 then x else f i k) = mixR f g := fun f g x _ h2 h3 => by
      funext i k
      unfold mixR
      by_cases h : i = 113
      · subst h
        rw [if_pos rfl, if_neg (by omega)]
        exact h3 k
      · rw [if_neg h]
        by_cases h4 : i < 113
        · rw [if_pos h4]
        · rw [if_neg h4]
          exact h2 i k (by omega)
    have hz : ∀ {α : Type} (f : Nat → Nat → α) (x : α) (i k : Nat), 113 < i → mixR f (fun _ _ => x) i k = x := fun f x i k hi => if_neg (by omega)
    show (_, _, _, _, _) = (_, _, _, _, _)
    congr 1
    refine Prod.ext ?_ (Prod.ext ?_ (Prod.ext ?_ ?_))
    · refine e1 (nz m).1 (rowX (fun _ => 0)).1 0 (fun _ _ _ => rfl) (fun i k hi => (hz m.1 0 i k hi).trans ?_) (fun k => rfl)
      show (0 : Int32) = (if i = 113 then (fun _ => (0 : Int32)) else fun _ => 0) k
      split <;> rfl
    · exact e1 (nz m).2 (rowX (fun _ => 0)).2.1 0 (fun _ _ _ => rfl) (fun i k hi => hz m.2 0 i k hi) (fun k => rfl)
    · refine e1 pmR0 (rowX (fun _ => 0)).2.2.1 none (fun _ _ _ => rfl) (fun i k hi => ?_) (fun k => rfl)
      show pmR0 i k = none
      unfold pmR0
      rw [pmRl_no (by omega)]
      rfl
    · exact e1 D0 (rowX (fun _ => 0)).2.2.2 0 (fun _ _ _ => rfl) (fun i k hi => by rw [hD0]; exact hz D 0 i k hi) (fun k => rfl)
  have hst : pmRn E 5 141 (5, [some (.ref 0), none, none, none, none], [.ref 113], pmG0 ++ [.inr (0, 160)], pmZ 113 (sst (nz m) D0).2) (0 + 1) (0 + 160) (.inl (some (.ref 113)), sX a' m' D0, w + 1, 6 * w + 160) := by
    rw [eS0]
    refine xs_gl hM.1 1 _ (6, [some (.ref 0), some (.ref 113), none, none, none], [], sX (fun _ => 0) (nz m) D0) [] rfl (fun _ h => absurd h List.not_mem_nil) ⟨k, ?_⟩
    exact hk2
  obtain ⟨q, hq⟩ := hst
  refine ⟨q + 1, .newarray .int, 2, (61, 0), by rw [hM.1]; rfl, Or.inr (Or.inr (Or.inl ⟨_, 1, 160, ?_, hq⟩))⟩
  show (if pmG0.length < 90000 then _ else none) = _
  rw [if_pos (by rw [pmG0_len]; omega)]
  have e : pmG0.length = 113 := pmG0_len
  show some ((_, _, Value.ref pmG0.length :: _, _, pmZ pmG0.length _), _) = _
  rw [e]
  rfl
end ROWS
