/-! the cheapest plan by potentials: one more dancer -/
section PLACE
variable {C : Nat → Nat → Nat} {M N : Nat}
/-- prices, and who has an exit, of the first t dancers -/
def PS (C : Nat → Nat → Nat) (M N t : Nat) (u v : Nat → Int) (p : Nat → Nat) : Prop :=
  (∀ i j, 1 ≤ i → i ≤ N → 1 ≤ j → j ≤ M → u i + v j ≤ (C i j : Int)) ∧ (∀ j, 1 ≤ j → j ≤ M → ¬ p j = 0 → p j ≤ t ∧ u (p j) + v j = (C (p j) j : Int)) ∧
  (∀ j j', 1 ≤ j → j ≤ M → 1 ≤ j' → j' ≤ M → ¬ p j = 0 → p j = p j' → j = j') ∧ (∀ i, 1 ≤ i → i ≤ t → ∃ j, 1 ≤ j ∧ j ≤ M ∧ p j = i) ∧
  (∀ j, 1 ≤ j → j ≤ M → v j ≤ 0 ∧ (p j = 0 → v j = 0)) ∧ (∀ i, 1 ≤ i → i ≤ N → 0 ≤ u i)
theorem cnt_all : ∀ n : Nat, cnt (fun _ => true) n = n
  | 0 => rfl
  | n + 1 => by rw [cnt_s, cnt_all n, if_pos rfl]
/-- an exit is left -/
theorem PS_free {t : Nat} {u v : Nat → Int} {p : Nat → Nat} (h : PS C M N t u v p) (ht : t < M) : ∃ f, 1 ≤ f ∧ f ≤ M ∧ p f = 0 := by
  refine Classical.byContradiction fun hno => ?_
  have hall : ∀ j, 1 ≤ j → j ≤ M → ¬ p j = 0 := fun j h1 h2 h3 => hno ⟨j, h1, h2, h3⟩
  have := inj_cnt (P := fun _ => true) (N := t) (fun a => p (a + 1) - 1) M (fun _ => true) (fun a ha _ => by
    have h1 := hall (a + 1) (by omega) (by omega)
    have h2 := (h.2.1 (a + 1) (by omega) (by omega) h1).1
    exact ⟨by omega, rfl⟩) (fun a b ha hb _ _ e => by
    have h1 := hall (a + 1) (by omega) (by omega)
    have h2 := hall (b + 1) (by omega) (by omega)
    have := h.2.2.1 (a + 1) (b + 1) (by omega) (by omega) (by omega) (by omega) h1 (by omega)
    omega)
  rw [cnt_all, cnt_all] at this
  omega
theorem PS_bd {t : Nat} {u v : Nat → Int} {p : Nat → Nat} (h : PS C M N t u v p) (ht : t < M) (htN : t ≤ N) (hC : ∀ i j, C i j ≤ 1000) : (∀ i, 1 ≤ i → i ≤ N → 0 ≤ u i ∧ u i ≤ 1000) ∧ ∀ j, 1 ≤ j → j ≤ M → -1000 ≤ v j ∧ v j ≤ 0 := by
  obtain ⟨f, f1, f2, f3⟩ := PS_free h ht
  have hu : ∀ i, 1 ≤ i → i ≤ N → 0 ≤ u i ∧ u i ≤ 1000 := fun i h1 h2 => by
    have a := h.1 i f h1 h2 f1 f2
    have b := (h.2.2.2.2.1 f f1 f2).2 f3
    have c := hC i f
    have d := h.2.2.2.2.2 i h1 h2
    omega
  refine ⟨hu, fun j h1 h2 => ?_⟩
  have a := h.2.2.2.2.1 j h1 h2
  by_cases e : p j = 0
  · have := a.2 e
    omega
  · obtain ⟨b1, b2⟩ := h.2.1 j h1 h2 e
    have := hu (p j) (by omega) (by omega)
    omega
/-- the search for an exit, at its head -/
def GH (C : Nat → Nat → Nat) (M N d r j0 : Nat) (ord : Nat → Nat) (S : HS) : Prop :=
  (PS C M N (d - 1) (hu S) (hv S) (hp S) ∧ hp S 0 = d) ∧
  ((∀ j, hx S j = true → (j ≤ M ∧ ord j < r) ∧ (1 ≤ j → ¬ hp S j = 0)) ∧ cnt (hx S) (M + 1) = r) ∧
  (hx S j0 = false ∧ ((j0 = 0 ∧ r = 0) ∨ ((1 ≤ j0 ∧ j0 ≤ M ∧ ¬ r = 0) ∧ hx S 0 = true ∧ hx S (hw S j0) = true ∧ hu S (hp S (hw S j0)) + hv S j0 = (C (hp S (hw S j0)) j0 : Int)))) ∧
  (∀ j, 1 ≤ j → hx S j = true → hx S (hw S j) = true ∧ ord (hw S j) < ord j ∧ hu S (hp S (hw S j)) + hv S j = (C (hp S (hw S j)) j : Int)) ∧
  ∀ j, 1 ≤ j → j ≤ M → hx S j = false → (∀ j', hx S j' = true → hl S j ≤ cur C S (hp S j') j) ∧ (r = 0 → hl S j = 1000000) ∧ (¬ r = 0 → hx S (hw S j) = true ∧ hl S j = cur C S (hp S (hw S j)) j)
theorem GH_p {d r j0 : Nat} {ord : Nat → Nat} {S : HS} (h : GH C M N d r j0 ord S) (hd : 1 ≤ d ∧ d ≤ N) {j : Nat} (hj : j = j0 ∨ hx S j = true) (h0 : ¬ hp S j0 = 0) : 1 ≤ hp S j ∧ hp S j ≤ d ∧ (1 ≤ j → j ≤ M ∧ hp S j ≤ d - 1) ∧ j ≤ M := by
  have key : 1 ≤ j → j ≤ M → ¬ hp S j = 0 → 1 ≤ hp S j ∧ hp S j ≤ d ∧ (1 ≤ j → j ≤ M ∧ hp S j ≤ d - 1) ∧ j ≤ M := fun h1 h2 h3 => by
    have := (h.1.1.2.1 j h1 h2 h3).1
    exact ⟨by omega, by omega, fun _ => ⟨h2, this⟩, h2⟩
  by_cases e : j = 0
  · rw [e, h.1.2]
    exact ⟨hd.1, Nat.le_refl _, fun g => absurd g (by omega), by omega⟩
  · rcases hj with hj | hj
    · subst hj
      rcases h.2.2.1.2 with ⟨g, -⟩ | ⟨⟨g1, g2, -⟩, -⟩
      · exact absurd g e
      · exact key g1 g2 h0
    · have := h.2.1.1 j hj
      exact key (by omega) this.1.1 (this.2 (by omega))
theorem GH_r {d r j0 : Nat} {ord : Nat → Nat} {S : HS} (h : GH C M N d r j0 ord S) (hd : 1 ≤ d ∧ d ≤ N) (hN : N ≤ M) : r ≤ M := by
  obtain ⟨f, f1, f2, f3⟩ := PS_free h.1.1 (by omega)
  have hf : hx S f = false := Bool.eq_false_iff.mpr fun g => (h.2.1.1 f g).2 f1 f3
  have := cnt_lt2 (P := hx S) (Q := fun _ => true) (n := M + 1) (c := f) (fun _ _ _ => rfl) (by omega) hf rfl
  rw [cnt_all] at this
  have := h.2.1.2
  omega
theorem h_round {n : Nat} {m : pmI} {d r j0 : Nat} {ord : Nat → Nat} {S : HS} (hM : M ≤ 6) (hN : N ≤ M) (hn : 100 ≤ n) (hC : ∀ i j, C i j ≤ 1000) (hd : 1 ≤ d ∧ d ≤ N) (ht : htab m C M N) (hr : HR m S) (h : GH C M N d r j0 ord S) (h0 : ¬ hp S j0 = 0) : ∃ (e : Nat) (m' : pmI) (S' : HS), ((fX8_set_106 (z (j0 : Int)) (z 1) m).bind fun v5 => (fX1_updateSlack_98 n (z (j0 : Int)) v5).bind fun v6 => (fX1_leastSlack_98 n v6).bind fun v7 => (fX8_at_105 v7 v6).bind fun v8 => (fX1_shiftPotentials_98 n v8 v6).bind fun v9 => some (v7, v9)) = some (z (e : Int), m') ∧ HR m' S' ∧ hfr m m' ∧ GH C M N d (r + 1) e (fun j => if j = j0 then r else ord j) S' := by
  have hbd := PS_bd h.1.1 (show d - 1 < M by omega) (by omega) hC
  have hrM := GH_r h hd hN
  have hj0 := GH_p h hd (Or.inl rfl) h0
  have hx0 := h.2.2.1.1
  obtain ⟨f, f1, f2, f3⟩ := PS_free h.1.1 (show d - 1 < M by omega)
  -- visited
  obtain ⟨m1, e1, j1, o1, r1⟩ := w_1 m 106 j0 (z 1)
  have f1' : hfr m m1 := hfr_1 (by omega) j1 o1
  have hS1 : ∃ S1 : HS, S1 = mkH (hu S) (hv S) (hl S) (hp S) (hw S) (fun j => if j = j0 then true else hx S j) := ⟨_, rfl⟩
  obtain ⟨S1, hS1⟩ := hS1
  have u1 : hu S1 = hu S := by rw [hS1]; rfl
  have v1 : hv S1 = hv S := by rw [hS1]; rfl
  have l1 : hl S1 = hl S := by rw [hS1]; rfl
  have p1 : hp S1 = hp S := by rw [hS1]; rfl
  have w1 : hw S1 = hw S := by rw [hS1]; rfl
  have x1 : ∀ j, hx S1 j = if j = j0 then true else hx S j := by rw [hS1]; exact fun _ => rfl
  have x1t : ∀ j, hx S1 j = true ↔ j = j0 ∨ hx S j = true := fun j => by
    rw [x1]
    by_cases e : j = j0
    · rw [if_pos e]
      exact ⟨fun _ => Or.inl e, fun _ => rfl⟩
    · rw [if_neg e]
      exact ⟨Or.inr, fun g => g.elim (fun g => absurd g e) id⟩
  have x1f : ∀ j, hx S1 j = false → ¬ j = j0 ∧ hx S j = false := fun j g => ⟨fun e => (by rw [(x1t j).mpr (Or.inl e)] at g; cases g), Bool.eq_false_iff.mpr fun e => (by rw [(x1t j).mpr (Or.inr e)] at g; cases g)⟩
  have hr1 : HR m1 S1 := fun i hi => by
    obtain ⟨g1, g2, g3, g4, g5, g6⟩ := hr i hi
    rw [u1, v1, l1, p1, w1, o1 101 (by decide), o1 102 (by decide), o1 103 (by decide), o1 104 (by decide), o1 105 (by decide), r1]
    refine ⟨g1, g2, g3, g4, g5, ?_⟩
    by_cases e : i = j0
    · rw [if_pos e, if_pos ((x1t i).mpr (Or.inl e))]
    · rw [if_neg e, g6, x1, if_neg e]
  have ht1 := htab_f ht f1'
  have vis : ∀ j, hx S1 j = true → 1 ≤ hp S j ∧ hp S j ≤ d ∧ (1 ≤ j → j ≤ M ∧ hp S j ≤ d - 1) ∧ j ≤ M := fun j g => GH_p h hd ((x1t j).mp g) h0
  have inj : ∀ i j, hx S1 i = true → hx S1 j = true → hp S i = hp S j → i = j := fun i j gi gj e => by
    have a := vis i gi
    have b := vis j gj
    by_cases ei : i = 0
    · by_cases ej : j = 0
      · omega
      · rw [ei, h.1.2] at e
        have := b.2.2.1 (by omega)
        omega
    · by_cases ej : j = 0
      · rw [ej, h.1.2] at e
        have := a.2.2.1 (by omega)
        omega
      · exact h.1.1.2.2.1 i j (by omega) a.2.2.2 (by omega) b.2.2.2 (by omega) e
  have hb1 : hB C M N S1 := by
    unfold hB
    rw [u1, v1, l1]
    refine ⟨fun i h1 h2 => (by have := hbd.1 i h1 h2; omega), fun j h1 h2 => (by have := hbd.2 j h1 h2; omega), fun j h1 h2 h3 => ?_, hC⟩
    obtain ⟨-, h5, h6⟩ := h.2.2.2.2 j h1 h2 (x1f j h3).2
    by_cases e : r = 0
    · rw [h5 e]
      omega
    · obtain ⟨k1, k2⟩ := h6 e
      have a := vis _ ((x1t _).mpr (Or.inr k1))
      have b := hbd.1 _ a.1 (by omega)
      have c := hbd.2 j h1 h2
      have d1 := hC (hp S (hw S j)) j
      unfold cur at k2
      omega
  have hc : ∀ i j, cur C S1 i j = cur C S i j := fun i j => by unfold cur; rw [u1, v1]
  obtain ⟨m2, S2, e2, hr2, f2', ⟨u2, v2, p2, x2⟩, g2⟩ := h_update (n := n) hM hN hn ht1 hr1 hb1 (show j0 ≤ M from hj0.2.2.2) (by rw [p1]; omega)
  have x2' : ∀ j, hx S2 j = hx S1 j := fun j => by rw [x2]
  have e2' : ∀ j, 1 ≤ j → j ≤ M → hx S1 j = false → (∀ j', hx S1 j' = true → hl S2 j ≤ cur C S (hp S j') j) ∧ hx S1 (hw S2 j) = true ∧ hl S2 j = cur C S (hp S (hw S2 j)) j := fun j h1 h2 h3 => by
    obtain ⟨n1, n2⟩ := x1f j h3
    obtain ⟨h4, h5, h6⟩ := h.2.2.2.2 j h1 h2 n2
    have b := hbd.1 (hp S j0) hj0.1 (by omega)
    have c := hbd.2 j h1 h2
    have d1 := hC (hp S j0) j
    obtain ⟨q1, q2⟩ := g2 j
    rw [hc, l1, p1] at q1
    rw [hc, l1, p1, w1] at q2
    by_cases hlt : cur C S (hp S j0) j < hl S j
    · obtain ⟨k1, k2⟩ := q1 ⟨h1, h2, h3, hlt⟩
      rw [k1, k2]
      refine ⟨fun j' hj' => ?_, (x1t j0).mpr (Or.inl rfl), rfl⟩
      rcases (x1t j').mp hj' with e | e
      · rw [e]; exact Int.le_refl _
      · have := h4 j' e
        omega
    · obtain ⟨k1, k2⟩ := q2 (fun g => hlt g.2.2.2)
      rw [k1, k2]
      have hr0 : ¬ r = 0 := fun e => by
        have := h5 e
        unfold cur at hlt
        omega
      obtain ⟨k3, k4⟩ := h6 hr0
      refine ⟨fun j' hj' => ?_, (x1t _).mpr (Or.inr k3), k4⟩
      rcases (x1t j').mp hj' with e | e
      · rw [e]; omega
      · exact h4 j' e
  have hfree : hx S1 f = false := Bool.eq_false_iff.mpr fun g => by
    have := vis f g
    omega
  have hb2 : hB C M N S2 := by
    unfold hB
    rw [u2, v2, u1, v1]
    refine ⟨fun i h1 h2 => (by have := hbd.1 i h1 h2; omega), fun j h1 h2 => (by have := hbd.2 j h1 h2; omega), fun j h1 h2 h3 => ?_, hC⟩
    rw [x2'] at h3
    obtain ⟨-, k1, k2⟩ := e2' j h1 h2 h3
    have a := vis _ k1
    have b := hbd.1 _ a.1 (by omega)
    have c := hbd.2 j h1 h2
    have d1 := hC (hp S (hw S2 j)) j
    unfold cur at k2
    omega
  have ht2 := htab_f ht1 f2'
  obtain ⟨e, e3, ep1, ep2, ep3, ep4⟩ := h_least (n := n) hM hn ht2 hr2 hb2 ⟨f, f1, f2, by rw [x2']; exact hfree⟩
  rw [x2'] at ep3
  have ep4' : ∀ j, 1 ≤ j → j ≤ M → hx S1 j = false → hl S2 e ≤ hl S2 j := fun j h1 h2 h3 => ep4 j h1 h2 (by rw [x2']; exact h3)
  obtain ⟨m3, S3, e4, hr3, f3', ⟨p3, w3, x3⟩, su, sn, sj⟩ := h_shift (n := n) (dl := hl S2 e) hM hN hn ht2 hr2 (fun j _ hj => by rw [x2'] at hj; rw [p2, p1]; have := vis j hj; omega) (fun i j _ _ hi hj he => by rw [x2'] at hi hj; rw [p2, p1] at he; exact inj i j hi hj he)
  rw [p2, p1, u2, u1] at su sn
  simp only [x2'] at su sn sj
  rw [v2, v1] at sj
  have x3' : ∀ j, hx S3 j = hx S1 j := fun j => by rw [x3, x2']
  have p3' : hp S3 = hp S := by rw [p3, p2, p1]
  have hd0 : 0 ≤ hl S2 e := by
    obtain ⟨-, k1, k2⟩ := e2' e ep1 ep2 ep3
    have a := vis _ k1
    have := h.1.1.1 (hp S (hw S2 e)) e a.1 (by omega) ep1 ep2
    unfold cur at k2
    omega
  -- prices behind the shift
  have uin : ∀ j, hx S1 j = true → hu S3 (hp S j) = hu S (hp S j) + hl S2 e := fun j hj => su j (vis j hj).2.2.2 hj
  have uout : ∀ i, (∀ j, hx S1 j = true → ¬ hp S j = i) → hu S3 i = hu S i := fun i hi => sn i (fun j _ hj => hi j hj)
  have vin : ∀ j, hx S1 j = true → hv S3 j = hv S j - hl S2 e := fun j hj => ((sj j (vis j hj).2.2.2).1 hj).1
  have vout : ∀ j, j ≤ M → hx S1 j = false → hv S3 j = hv S j ∧ hl S3 j = hl S2 j - hl S2 e := fun j h1 hj => (sj j h1).2 hj
  have hx10 : hx S1 0 = true := by
    rcases h.2.2.1.2 with ⟨g, -⟩ | ⟨-, g, -⟩
    · exact (x1t 0).mpr (Or.inl g.symm)
    · exact (x1t 0).mpr (Or.inr g)
  have tight : ∀ a b, hx S1 a = true → hx S1 b = true → hu S (hp S a) + hv S b = (C (hp S a) b : Int) → hu S3 (hp S3 a) + hv S3 b = (C (hp S3 a) b : Int) := fun a b ha hb' hh => by
    rw [p3', uin a ha, vin b hb']
    omega
  have hwS3 : ∀ j, hw S3 j = hw S2 j := fun j => by rw [w3]
  refine ⟨e, m3, S3, ?_, hr3, hfr_tr f1' (hfr_tr f2' f3'), ⟨⟨?_, ?_, ?_, ?_, ?_, ?_⟩, by rw [p3']; exact h.1.2⟩, ⟨fun j hj => ?_, ?_⟩, ⟨by rw [x3']; exact ep3, Or.inr ⟨⟨ep1, ep2, Nat.succ_ne_zero r⟩, by rw [x3']; exact hx10, ?_, ?_⟩⟩, fun j h1 hj => ?_, fun j h1 h2 hj => ?_⟩
  · rw [s_106 (by omega), obind, e1, e2, obind, e3, obind, a_105 (by omega), obind, (hr2 e (by omega)).2.2.1, e4, obind]
  · -- feasible
    intro i j h1 h2 h3 h4
    have hf := h.1.1.1 i j h1 h2 h3 h4
    by_cases hi : ∃ j', hx S1 j' = true ∧ hp S j' = i
    · obtain ⟨j', k1, k2⟩ := hi
      have hu3 := uin j' k1
      rw [k2] at hu3
      rw [hu3]
      by_cases hj : hx S1 j = true
      · rw [vin j hj]
        omega
      · have hj' := Bool.eq_false_iff.mpr hj
        have a1 := (e2' j h3 h4 hj').1 j' k1
        have a2 := ep4' j h3 h4 hj'
        rw [(vout j h4 hj').1]
        rw [k2] at a1
        unfold cur at a1
        omega
    · rw [uout i (fun j' k1 k2 => hi ⟨j', k1, k2⟩)]
      by_cases hj : hx S1 j = true
      · rw [vin j hj]
        omega
      · rw [(vout j h4 (Bool.eq_false_iff.mpr hj)).1]
        exact hf
  · -- tight
    intro j h1 h2 h3
    rw [p3'] at h3 ⊢
    obtain ⟨k1, k2⟩ := h.1.1.2.1 j h1 h2 h3
    refine ⟨k1, ?_⟩
    by_cases hj : hx S1 j = true
    · rw [uin j hj, vin j hj]
      omega
    · rw [(vout j h2 (Bool.eq_false_iff.mpr hj)).1, uout (hp S j) (fun j' q1 q2 => ?_)]
      · exact k2
      · have a := vis j' q1
        by_cases e0 : j' = 0
        · rw [e0, h.1.2] at q2
          omega
        · have := h.1.1.2.2.1 j' j (by omega) a.2.2.2 h1 h2 (by omega) q2
          rw [this] at q1
          exact hj q1
  · rw [p3']; exact h.1.1.2.2.1
  · rw [p3']; exact h.1.1.2.2.2.1
  · intro j h1 h2
    rw [p3']
    have a := h.1.1.2.2.2.2.1 j h1 h2
    by_cases hj : hx S1 j = true
    · have b := vis j hj
      rw [vin j hj]
      exact ⟨by omega, fun g => by omega⟩
    · rw [(vout j h2 (Bool.eq_false_iff.mpr hj)).1]
      exact a
  · intro i h1 h2
    have a := h.1.1.2.2.2.2.2 i h1 h2
    by_cases hi : ∃ j', hx S1 j' = true ∧ hp S j' = i
    · obtain ⟨j', k1, k2⟩ := hi
      have hu3 := uin j' k1
      rw [k2] at hu3
      rw [hu3]
      omega
    · rw [uout i (fun j' k1 k2 => hi ⟨j', k1, k2⟩)]
      exact a
  · rw [x3'] at hj
    have a := vis j hj
    refine ⟨⟨a.2.2.2, ?_⟩, fun _ => by rw [p3']; omega⟩
    show (if j = j0 then r else ord j) < r + 1
    by_cases e0 : j = j0
    · rw [if_pos e0]; omega
    · rw [if_neg e0]
      have := (h.2.1.1 j ((x1t j).mp hj |>.elim (fun g => absurd g e0) id)).1.2
      omega
  · rw [cnt_congr (Q := fun k => if k = j0 then true else hx S k) (fun k _ => by rw [x3', x1]), cnt_set hx0 (by omega), h.2.1.2]
  · rw [x3', hwS3]
    exact (e2' e ep1 ep2 ep3).2.1
  · obtain ⟨-, k1, k2⟩ := e2' e ep1 ep2 ep3
    rw [hwS3, p3', uin _ k1, (vout e ep2 ep3).1]
    unfold cur at k2
    omega
  · rw [x3'] at hj ⊢
    have a := vis j hj
    have hwj : hw S2 j = hw S j := by
      have := ((g2 j).2 (fun g => by rw [hj] at g; cases g.2.2.1)).2
      rw [this, w1]
    rw [hwS3, hwj]
    by_cases e0 : j = j0
    · rcases h.2.2.1.2 with ⟨g, -⟩ | ⟨-, -, g1, g2'⟩
      · omega
      · rw [e0]
        have hne : ¬ hw S j0 = j0 := fun g => by rw [g, hx0] at g1; cases g1
        refine ⟨(x1t _).mpr (Or.inr g1), ?_, ?_⟩
        · show (if hw S j0 = j0 then r else ord (hw S j0)) < (if j0 = j0 then r else ord j0)
          rw [if_neg hne, if_pos rfl]
          exact (h.2.1.1 _ g1).1.2
        · exact tight _ _ ((x1t _).mpr (Or.inr g1)) ((x1t _).mpr (Or.inl rfl)) g2'
    · have hjS : hx S j = true := (x1t j).mp hj |>.elim (fun g => absurd g e0) id
      obtain ⟨g1, g2', g3⟩ := h.2.2.2.1 j h1 hjS
      have hne : ¬ hw S j = j0 := fun g => by rw [g, hx0] at g1; cases g1
      refine ⟨(x1t _).mpr (Or.inr g1), ?_, tight _ _ ((x1t _).mpr (Or.inr g1)) hj g3⟩
      show (if hw S j = j0 then r else ord (hw S j)) < (if j = j0 then r else ord j)
      rw [if_neg hne, if_neg e0]
      exact g2'
  · rw [x3'] at hj
    obtain ⟨k1, k2, k3⟩ := e2' j h1 h2 hj
    obtain ⟨q1, q2⟩ := vout j h2 hj
    refine ⟨fun j' hj' => ?_, fun g => absurd g (Nat.succ_ne_zero r), fun _ => ⟨by rw [x3', hwS3]; exact k2, ?_⟩⟩
    · rw [x3'] at hj'
      have := k1 j' hj'
      unfold cur at this ⊢
      rw [p3', uin j' hj', q1, q2]
      omega
    · unfold cur at k3 ⊢
      rw [hwS3, p3', uin _ k2, q1, q2]
      omega
end PLACE

