/-! the cheapest plan by potentials: the whole of it -/
theorem chain5 {α β γ δ ε κ : Type} (a : Option α) (b : α → Option β) (c : β → Option γ) (d : γ → β → Option δ) (e : δ → β → Option ε) (g : γ → ε → Option κ) : (a.bind fun v5 => (b v5).bind fun v6 => (c v6).bind fun v7 => (d v7 v6).bind fun v8 => (e v8 v6).bind fun v9 => g v7 v9) = (a.bind fun v5 => (b v5).bind fun v6 => (c v6).bind fun v7 => (d v7 v6).bind fun v8 => (e v8 v6).bind fun v9 => some (v7, v9)).bind fun p => g p.1 p.2 := by
  simp only [Option.bind_assoc, Option.bind_some]
theorem c_fill101 {n : Nat} (hn : 100 ≤ n) (x : Int32) (m : pmI) : ∃ m', fX8_fill_101 n x m = some m' ∧ m'.2 = m.2 ∧ (∀ a, ¬ a = 101 → m'.1 a = m.1 a) ∧ ∀ b, b < 7 → m'.1 101 b = x := by
  obtain ⟨m1, e1, h1⟩ := fillg (q := 101) (L := 7) x (lX8_fill_101_l2 n x) (fun k i m hi => by
    show bX8_fill_101_l2 n x (lX8_fill_101_l2 n x k) (z (i : Int)) m = _
    unfold bX8_fill_101_l2
    rw [if_pos (zlt (by omega)), if_pos (okI_z (by omega)), z_nat (by omega), pmLet_eq, z_add]) (fun k m => by
    show bX8_fill_101_l2 n x (lX8_fill_101_l2 n x k) (z ((7 : Nat) : Int)) m = _
    unfold bX8_fill_101_l2
    rw [if_neg (zge (by omega))]) (n := n) (by omega) m
  unfold fX8_fill_101
  rw [e1, obind]
  exact ⟨m1, rfl, h1⟩
theorem c_fill102 {n : Nat} (hn : 100 ≤ n) (x : Int32) (m : pmI) : ∃ m', fX8_fill_102 n x m = some m' ∧ m'.2 = m.2 ∧ (∀ a, ¬ a = 102 → m'.1 a = m.1 a) ∧ ∀ b, b < 7 → m'.1 102 b = x := by
  obtain ⟨m1, e1, h1⟩ := fillg (q := 102) (L := 7) x (lX8_fill_102_l2 n x) (fun k i m hi => by
    show bX8_fill_102_l2 n x (lX8_fill_102_l2 n x k) (z (i : Int)) m = _
    unfold bX8_fill_102_l2
    rw [if_pos (zlt (by omega)), if_pos (okI_z (by omega)), z_nat (by omega), pmLet_eq, z_add]) (fun k m => by
    show bX8_fill_102_l2 n x (lX8_fill_102_l2 n x k) (z ((7 : Nat) : Int)) m = _
    unfold bX8_fill_102_l2
    rw [if_neg (zge (by omega))]) (n := n) (by omega) m
  unfold fX8_fill_102
  rw [e1, obind]
  exact ⟨m1, rfl, h1⟩
theorem c_fill103 {n : Nat} (hn : 100 ≤ n) (x : Int32) (m : pmI) : ∃ m', fX8_fill_103 n x m = some m' ∧ m'.2 = m.2 ∧ (∀ a, ¬ a = 103 → m'.1 a = m.1 a) ∧ ∀ b, b < 7 → m'.1 103 b = x := by
  obtain ⟨m1, e1, h1⟩ := fillg (q := 103) (L := 7) x (lX8_fill_103_l2 n x) (fun k i m hi => by
    show bX8_fill_103_l2 n x (lX8_fill_103_l2 n x k) (z (i : Int)) m = _
    unfold bX8_fill_103_l2
    rw [if_pos (zlt (by omega)), if_pos (okI_z (by omega)), z_nat (by omega), pmLet_eq, z_add]) (fun k m => by
    show bX8_fill_103_l2 n x (lX8_fill_103_l2 n x k) (z ((7 : Nat) : Int)) m = _
    unfold bX8_fill_103_l2
    rw [if_neg (zge (by omega))]) (n := n) (by omega) m
  unfold fX8_fill_103
  rw [e1, obind]
  exact ⟨m1, rfl, h1⟩
theorem c_fill105 {n : Nat} (hn : 100 ≤ n) (x : Int32) (m : pmI) : ∃ m', fX8_fill_105 n x m = some m' ∧ m'.2 = m.2 ∧ (∀ a, ¬ a = 105 → m'.1 a = m.1 a) ∧ ∀ b, b < 7 → m'.1 105 b = x := by
  obtain ⟨m1, e1, h1⟩ := fillg (q := 105) (L := 7) x (lX8_fill_105_l2 n x) (fun k i m hi => by
    show bX8_fill_105_l2 n x (lX8_fill_105_l2 n x k) (z (i : Int)) m = _
    unfold bX8_fill_105_l2
    rw [if_pos (zlt (by omega)), if_pos (okI_z (by omega)), z_nat (by omega), pmLet_eq, z_add]) (fun k m => by
    show bX8_fill_105_l2 n x (lX8_fill_105_l2 n x k) (z ((7 : Nat) : Int)) m = _
    unfold bX8_fill_105_l2
    rw [if_neg (zge (by omega))]) (n := n) (by omega) m
  unfold fX8_fill_105
  rw [e1, obind]
  exact ⟨m1, rfl, h1⟩
theorem c_fill106 {n : Nat} (hn : 100 ≤ n) (x : Int32) (m : pmI) : ∃ m', fX8_fill_106 n x m = some m' ∧ m'.2 = m.2 ∧ (∀ a, ¬ a = 106 → m'.1 a = m.1 a) ∧ ∀ b, b < 7 → m'.1 106 b = x := by
  obtain ⟨m1, e1, h1⟩ := fillg (q := 106) (L := 7) x (lX8_fill_106_l2 n x) (fun k i m hi => by
    show bX8_fill_106_l2 n x (lX8_fill_106_l2 n x k) (z (i : Int)) m = _
    unfold bX8_fill_106_l2
    rw [if_pos (zlt (by omega)), if_pos (okI_z (by omega)), z_nat (by omega), pmLet_eq, z_add]) (fun k m => by
    show bX8_fill_106_l2 n x (lX8_fill_106_l2 n x k) (z ((7 : Nat) : Int)) m = _
    unfold bX8_fill_106_l2
    rw [if_neg (zge (by omega))]) (n := n) (by omega) m
  unfold fX8_fill_106
  rw [e1, obind]
  exact ⟨m1, rfl, h1⟩
section POT
variable {C : Nat → Nat → Nat} {M N n : Nat}
theorem PS_congr {t : Nat} {u v : Nat → Int} {p p' : Nat → Nat} (h : PS C M N t u v p) (e : ∀ j, 1 ≤ j → j ≤ M → p' j = p j) : PS C M N t u v p' := by
  obtain ⟨h1, h2, h3, h4, h5, h6⟩ := h
  refine ⟨h1, fun j a b => by rw [e j a b]; exact h2 j a b, fun j j' a b a' b' => by rw [e j a b, e j' a' b']; exact h3 j j' a b a' b', fun i a b => ?_, fun j a b => by rw [e j a b]; exact h5 j a b, h6⟩
  obtain ⟨j, j1, j2, j3⟩ := h4 i a b
  exact ⟨j, j1, j2, by rw [e j j1 j2]; exact j3⟩
theorem h_search (hM : M ≤ 6) (hN : N ≤ M) (hn : 100 ≤ n) (hC : ∀ i j, C i j ≤ 1000) {d : Nat} (hd : 1 ≤ d ∧ d ≤ N) {m : pmI} {S : HS} (ht : htab m C M N) (hr : HR m S) (h : GH C M N d 0 0 (fun _ => 0) S) : ∃ (e r : Nat) (ord : Nat → Nat) (m' : pmI) (S' : HS), lX1_place_98_l30 n n (z 0) (z 0) m = some (z (e : Int), m') ∧ HR m' S' ∧ hfr m m' ∧ GH C M N d r e ord S' ∧ hp S' e = 0 := by
  have F := whl (fun k (u : Int32 × Int32 × pmI) => lX1_place_98_l30 n k u.1 u.2.1 u.2.2)
    (fun a u => ∃ r j0 ord S, (u.1 = z ((j0 : Nat) : Int) ∧ u.2.1 = z ((r : Nat) : Int) ∧ a = M + 1 - r) ∧ HR u.2.2 S ∧ hfr m u.2.2 ∧ GH C M N d r j0 ord S)
    (fun rr => ∃ (e r : Nat) (ord : Nat → Nat) (m' : pmI) (S' : HS), rr = some (z (e : Int), m') ∧ HR m' S' ∧ hfr m m' ∧ GH C M N d r e ord S' ∧ hp S' e = 0)
    (fun k a u hI rr hr0 => by
      obtain ⟨i2, i3, mm⟩ := u
      obtain ⟨r, j0, ord, S, ⟨h1, h2, h3⟩, y1, y2, y3⟩ := hI
      have h1 : i2 = z (j0 : Int) := h1
      have h2 : i3 = z (r : Int) := h2
      have y1 : HR mm S := y1
      have y2 : hfr m mm := y2
      subst h1 h2
      have hr0 : bX1_place_98_l30 n (lX1_place_98_l30 n k) (z (j0 : Int)) (z (r : Int)) mm = rr := hr0
      unfold bX1_place_98_l30 at hr0
      have ht' := htab_f ht y2
      have hrM := GH_r y3 hd hN
      have hj0 : j0 ≤ M := by
        rcases y3.2.2.1.2 with ⟨g, -⟩ | ⟨⟨-, g, -⟩, -⟩ <;> omega
      have hpj : hp S j0 ≤ N := by
        rcases y3.2.2.1.2 with ⟨g, -⟩ | ⟨⟨g1, g2, -⟩, -⟩
        · rw [g, y3.1.2]; omega
        · by_cases e : hp S j0 = 0
          · omega
          · have := (y3.1.1.2.1 j0 g1 g2 e).1
            omega
      rw [ht'.2.1, if_neg (zge (by omega)), a_103 (by omega), obind, (y1 j0 (by omega)).2.2.2.1] at hr0
      by_cases e0 : hp S j0 = 0
      · left
        rw [if_pos (by rw [e0]; rfl)] at hr0
        exact ⟨j0, r, ord, mm, S, hr0.symm, y1, y2, y3, e0⟩
      · right
        obtain ⟨e, m', S', e1, g1, g2, g3⟩ := h_round (n := n) hM hN hn hC hd ht' y1 y3 e0
        have hz : ¬ z (hp S j0 : Int) = z 0 := zne (by omega)
        rw [if_neg hz, chain5 (g := fun v7 v9 => lX1_place_98_l30 n k v7 (z (r : Int) + z 1) v9), e1, obind, show z 1 = z (1 : Int) from rfl, z_add] at hr0
        exact ⟨M + 1 - (r + 1), (z (e : Int), z ((r + 1 : Nat) : Int), m'), by omega, ⟨r + 1, e, _, S', ⟨rfl, rfl, rfl⟩, g1, hfr_tr y2 g2, g3⟩, hr0.symm⟩)
    n (M + 1) (z ((0 : Nat) : Int), z ((0 : Nat) : Int), m) (by omega) ⟨0, 0, _, S, ⟨rfl, rfl, rfl⟩, hr, hfr_rf, h⟩
  exact F
def rk (S : HS) (ord : Nat → Nat) (r e : Nat) : Nat := if hx S e = true then ord e else r
def AU (C : Nat → Nat → Nat) (M d r j0 : Nat) (ord : Nat → Nat) (S : HS) (e : Nat) (p : Nat → Nat) : Prop :=
  (∀ j j', j ≤ M → j' ≤ M → ¬ j = e → ¬ j' = e → ¬ p j = 0 → p j = p j' → j = j') ∧ (∀ i, 1 ≤ i → i ≤ d → ∃ j, j ≤ M ∧ ¬ j = e ∧ p j = i) ∧
  (∀ j, 1 ≤ j → j ≤ M → ¬ j = e → ¬ p j = 0 → p j ≤ d ∧ hu S (p j) + hv S j = (C (p j) j : Int)) ∧ (∀ j, hx S j = true → ord j < rk S ord r e → p j = hp S j) ∧
  (∀ j, 1 ≤ j → j ≤ M → ¬ j = e → p j = 0 → hv S j = 0) ∧ (e = 0 ∨ (1 ≤ e ∧ e ≤ M ∧ (hx S e = true ∨ e = j0)))
theorem h_aug (hM : M ≤ 6) (hN : N ≤ M) (hn : 100 ≤ n) {d r j0 : Nat} {ord : Nat → Nat} (hd : 1 ≤ d ∧ d ≤ N) {m : pmI} {S : HS} (ht : htab m C M N) (hr : HR m S) (h : GH C M N d r j0 ord S) (h0 : hp S j0 = 0) : ∃ (m' : pmI) (S' : HS), jX1_place_98_91 n (z (j0 : Int)) m = some m' ∧ HR m' S' ∧ hfr m m' ∧ PS C M N d (hu S') (hv S') (hp S') := by
  have hrM := GH_r h hd hN
  have hx0 := h.2.2.1.1
  have hj : (1 ≤ j0 ∧ j0 ≤ M ∧ ¬ r = 0) ∧ hx S 0 = true ∧ hx S (hw S j0) = true ∧ hu S (hp S (hw S j0)) + hv S j0 = (C (hp S (hw S j0)) j0 : Int) := by
    rcases h.2.2.1.2 with ⟨g, -⟩ | g
    · rw [g, h.1.2] at h0
      omega
    · exact g
  have inj : ∀ i j, i ≤ M → j ≤ M → ¬ hp S i = 0 → hp S i = hp S j → i = j := fun i j hi hj hz e => by
    by_cases ei : i = 0
    · by_cases ej : j = 0
      · omega
      · rw [ei, h.1.2] at e
        have := (h.1.1.2.1 j (by omega) hj (by omega)).1
        omega
    · by_cases ej : j = 0
      · rw [ej, h.1.2] at e
        have := (h.1.1.2.1 i (by omega) hi hz).1
        omega
      · exact h.1.1.2.2.1 i j (by omega) hi (by omega) hj hz e
  have vz : ∀ j, hx S j = true → j ≤ M ∧ 1 ≤ hp S j ∧ hp S j ≤ d := fun j g => by
    have a := h.2.1.1 j g
    by_cases e : j = 0
    · rw [e, h.1.2]; exact ⟨by omega, hd.1, Nat.le_refl _⟩
    · have b := a.2 (by omega)
      have := (h.1.1.2.1 j (by omega) a.1.1 b).1
      exact ⟨a.1.1, by omega, by omega⟩
  have F := whl (fun k (u : Int32 × Int32 × pmI) => lX1_place_98_l93 n k u.1 u.2.1 u.2.2)
    (fun a u => ∃ e s p, (u.1 = z ((e : Nat) : Int) ∧ u.2.1 = z ((s : Nat) : Int) ∧ a = rk S ord r e ∧ s + rk S ord r e ≤ M) ∧ HR u.2.2 (mkH (hu S) (hv S) (hl S) p (hw S) (hx S)) ∧ hfr m u.2.2 ∧ AU C M d r j0 ord S e p)
    (fun rr => ∃ (m' : pmI) (p : Nat → Nat), rr = some m' ∧ HR m' (mkH (hu S) (hv S) (hl S) p (hw S) (hx S)) ∧ hfr m m' ∧ AU C M d r j0 ord S 0 p)
    (fun k a u hI rr hr0 => by
      obtain ⟨i2, i3, mm⟩ := u
      obtain ⟨e, s, p, ⟨h1, h2, h3, h4⟩, y1, y2, y3⟩ := hI
      have h1 : i2 = z (e : Int) := h1
      have h2 : i3 = z (s : Int) := h2
      have y1 : HR mm (mkH (hu S) (hv S) (hl S) p (hw S) (hx S)) := y1
      have y2 : hfr m mm := y2
      subst h1 h2
      have hr0 : bX1_place_98_l93 n (lX1_place_98_l93 n k) (z (e : Int)) (z (s : Int)) mm = rr := hr0
      unfold bX1_place_98_l93 at hr0
      rw [(htab_f ht y2).2.1, if_neg (zge (by omega))] at hr0
      by_cases e0 : e = 0
      · left
        rw [if_pos (by rw [e0]; rfl)] at hr0
        rw [e0] at y3
        exact ⟨mm, p, hr0.symm, y1, y2, y3⟩
      · right
        obtain ⟨a1, a2, a3, a4, a5, a6⟩ := y3
        obtain ⟨q1, q2, q3⟩ := a6.elim (fun g => absurd g e0) id
        have hf : hx S (hw S e) = true ∧ ord (hw S e) < rk S ord r e ∧ hu S (hp S (hw S e)) + hv S e = (C (hp S (hw S e)) e : Int) := by
          unfold rk
          by_cases hxe : hx S e = true
          · rw [if_pos hxe]
            exact h.2.2.2.1 e q1 hxe
          · have ee : e = j0 := q3.elim (fun g => absurd g hxe) id
            rw [if_neg hxe, ee]
            exact ⟨hj.2.2.1, (h.2.1.1 _ hj.2.2.1).1.2, hj.2.2.2⟩
        obtain ⟨g1, g2, g3⟩ := hf
        have gv := vz _ g1
        have pf : p (hw S e) = hp S (hw S e) := a4 _ g1 g2
        have rf : rk S ord r (hw S e) = ord (hw S e) := by unfold rk; rw [if_pos g1]
        have nef : ¬ hw S e = e := fun g => by rw [g] at rf g2; omega
        have hz : ¬ z (e : Int) = z 0 := zne (by omega)
        obtain ⟨m1, e1, j1, o1, r1⟩ := w_1 mm 103 e (z (p (hw S e) : Int))
        have v104 : mm.1 104 e = z (hw S e : Int) := (y1 e (by omega)).2.2.2.2.1.resolve_right (fun g => by have g : hw S e = 99 := g; omega)
        have v103 : mm.1 103 (hw S e) = z (p (hw S e) : Int) := (y1 (hw S e) (by omega)).2.2.2.1
        rw [if_neg hz, a_104 (by omega), obind, v104, a_103 (by omega), obind, v103, s_103 (by omega), obind, e1, show z 1 = z (1 : Int) from rfl, z_add] at hr0
        refine ⟨rk S ord r (hw S e), (z (hw S e : Int), z ((s + 1 : Nat) : Int), m1), by omega, ⟨hw S e, s + 1, fun j => if j = e then p (hw S e) else p j, ⟨rfl, rfl, rfl, by omega⟩, fun i hi => ?_, hfr_tr y2 (hfr_1 (by omega) j1 o1), fun j j' hj1 hj2 hne hne' hnz heq => ?_, fun i hi1 hi2 => ?_, fun j hj1 hj2 hne hnz => ?_, fun j hjx hjr => ?_, fun j hj1 hj2 hne hz2 => ?_, ?_⟩, hr0.symm⟩
        · obtain ⟨k1, k2, k3, k4, k5, k6⟩ := y1 i hi
          refine ⟨by rw [o1 101 (by decide)]; exact k1, by rw [o1 102 (by decide)]; exact k2, by rw [o1 105 (by decide)]; exact k3, ?_, by rw [o1 104 (by decide)]; exact k5, by rw [o1 106 (by decide)]; exact k6⟩
          rw [r1]
          show _ = z ((if i = e then p (hw S e) else p i : Nat) : Int)
          by_cases ei : i = e
          · rw [if_pos ei, if_pos ei]
          · rw [if_neg ei, if_neg ei]
            exact k4
        · have hnz : ¬ (if j = e then p (hw S e) else p j) = 0 := hnz
          have heq : (if j = e then p (hw S e) else p j) = (if j' = e then p (hw S e) else p j') := heq
          by_cases ej : j = e
          · by_cases ej' : j' = e
            · rw [ej, ej']
            · rw [if_pos ej] at hnz heq
              rw [if_neg ej'] at heq
              exact absurd (a1 (hw S e) j' gv.1 hj2 nef ej' hnz heq).symm hne'
          · rw [if_neg ej] at hnz heq
            by_cases ej' : j' = e
            · rw [if_pos ej'] at heq
              exact absurd (a1 j (hw S e) hj1 gv.1 ej nef hnz heq) hne
            · rw [if_neg ej'] at heq
              exact a1 j j' hj1 hj2 ej ej' hnz heq
        · obtain ⟨j, k1, k2, k3⟩ := a2 i hi1 hi2
          by_cases ej : j = hw S e
          · refine ⟨e, q2, fun g => nef g.symm, ?_⟩
            show (if e = e then p (hw S e) else p e) = i
            rw [if_pos rfl, ← ej]
            exact k3
          · refine ⟨j, k1, ej, ?_⟩
            show (if j = e then p (hw S e) else p j) = i
            rw [if_neg k2]
            exact k3
        · have hnz : ¬ (if j = e then p (hw S e) else p j) = 0 := hnz
          show (if j = e then p (hw S e) else p j) ≤ d ∧ hu S (if j = e then p (hw S e) else p j) + hv S j = (C (if j = e then p (hw S e) else p j) j : Int)
          by_cases ej : j = e
          · rw [if_pos ej, pf, ej]
            exact ⟨gv.2.2, g3⟩
          · rw [if_neg ej] at hnz ⊢
            exact a3 j hj1 hj2 ej hnz
        · rw [rf] at hjr
          show (if j = e then p (hw S e) else p j) = hp S j
          have ej : ¬ j = e := fun g => by
            rw [g] at hjx hjr
            unfold rk at g2
            rw [if_pos hjx] at g2
            omega
          rw [if_neg ej]
          exact a4 j hjx (by omega)
        · have hz2 : (if j = e then p (hw S e) else p j) = 0 := hz2
          by_cases ej : j = e
          · rw [if_pos ej, pf] at hz2
            omega
          · rw [if_neg ej] at hz2
            exact a5 j hj1 hj2 ej hz2
        · by_cases ew : hw S e = 0
          · exact Or.inl ew
          · exact Or.inr ⟨by omega, gv.1, Or.inl g1⟩)
    n (rk S ord r j0) (z (j0 : Int), z ((0 : Nat) : Int), m) (by unfold rk; rw [if_neg (by rw [hx0]; decide)]; omega) ⟨j0, 0, hp S, ⟨rfl, rfl, rfl, by unfold rk; rw [if_neg (by rw [hx0]; decide)]; omega⟩, hr, hfr_rf, fun j j' h1 h2 _ _ h3 h4 => inj j j' h1 h2 h3 h4, fun i h1 h2 => ?_, fun j h1 h2 _ h3 => ?_, fun _ _ _ => rfl, fun j h1 h2 _ h3 => (h.1.1.2.2.2.2.1 j h1 h2).2 h3, Or.inr ⟨hj.1.1, hj.1.2.1, Or.inr rfl⟩⟩
  · obtain ⟨m', p, e1, g1, g2, a1, a2, a3, a4, a5, a6⟩ := F
    have e1 : lX1_place_98_l93 n n (z (j0 : Int)) (z 0) m = some m' := e1
    unfold jX1_place_98_91
    rw [e1, obind]
    refine ⟨m', _, rfl, g1, g2, h.1.1.1, fun j h1 h2 h3 => a3 j h1 h2 (by omega) h3, fun j j' h1 h2 h3 h4 h5 h6 => a1 j j' h2 h4 (by omega) (by omega) h5 h6, fun i h1 h2 => ?_, fun j h1 h2 => ⟨(h.1.1.2.2.2.2.1 j h1 h2).1, fun h3 => a5 j h1 h2 (by omega) h3⟩, h.1.1.2.2.2.2.2⟩
    obtain ⟨j, k1, k2, k3⟩ := a2 i h1 h2
    exact ⟨j, by omega, k1, k3⟩
  · by_cases e : i = d
    · exact ⟨0, by omega, by omega, by rw [h.1.2, e]⟩
    · obtain ⟨j, k1, k2, k3⟩ := h.1.1.2.2.2.1 i h1 (by omega)
      exact ⟨j, k2, fun g => by rw [g, h0] at k3; omega, k3⟩
  · obtain ⟨k1, k2⟩ := h.1.1.2.1 j h1 h2 h3
    exact ⟨by omega, k2⟩
theorem h_place (hM : M ≤ 6) (hN : N ≤ M) (hn : 100 ≤ n) (hC : ∀ i j, C i j ≤ 1000) {d : Nat} (hd : 1 ≤ d ∧ d ≤ N) {m : pmI} {u v : Nat → Int} {p : Nat → Nat} (ht : htab m C M N) (hr : ∀ i, i < 7 → m.1 101 i = z (u i) ∧ m.1 102 i = z (v i) ∧ m.1 103 i = z (p i : Int)) (h : PS C M N (d - 1) u v p) : ∃ (m' : pmI) (u' v' : Nat → Int) (p' : Nat → Nat), fX1_place_98 n (z (d : Int)) m = some m' ∧ (∀ i, i < 7 → m'.1 101 i = z (u' i) ∧ m'.1 102 i = z (v' i) ∧ m'.1 103 i = z (p' i : Int)) ∧ hfr m m' ∧ PS C M N d u' v' p' := by
  obtain ⟨m1, e1, j1, o1, r1⟩ := c_fill106 hn (z 0) m
  obtain ⟨m2, e2, j2, o2, r2⟩ := c_fill105 hn (z 1000000) m1
  obtain ⟨m3, e3, j3, o3, r3⟩ := w_1 m2 103 0 (z (d : Int))
  have f3 : hfr m m3 := hfr_tr (hfr_1 (q := 106) (by omega) j1 o1) (hfr_tr (hfr_1 (q := 105) (by omega) j2 o2) (hfr_1 (by omega) j3 o3))
  have hr3 : HR m3 (mkH u v (fun _ => 1000000) (fun j => if j = 0 then d else p j) (fun _ => 99) (fun _ => false)) := fun i hi => by
    obtain ⟨g1, g2, g4⟩ := hr i hi
    refine ⟨by rw [o3 101 (by decide), o2 101 (by decide), o1 101 (by decide)]; exact g1, by rw [o3 102 (by decide), o2 102 (by decide), o1 102 (by decide)]; exact g2, by rw [o3 105 (by decide), r2 i hi]; rfl, ?_, Or.inr rfl, ?_⟩
    · rw [r3]
      show _ = z ((if i = 0 then d else p i : Nat) : Int)
      by_cases e : i = 0
      · rw [if_pos e, if_pos e]
      · rw [if_neg e, if_neg e, o2 103 (by decide), o1 103 (by decide)]
        exact g4
    · rw [o3 106 (by decide), o2 106 (by decide), r1 i hi]
      rfl
  have c0 : ∀ n, cnt (fun _ => false) n = 0 := fun n => by
    induction n with
    | zero => rfl
    | succ n ih => rw [cnt_s, ih, if_neg (by decide)]
  have hG : GH C M N d 0 0 (fun _ => 0) (mkH u v (fun _ => 1000000) (fun j => if j = 0 then d else p j) (fun _ => 99) (fun _ => false)) :=
    ⟨⟨PS_congr h (fun j h1 _ => show (if j = 0 then d else p j) = p j from if_neg (by omega)), show (if (0 : Nat) = 0 then d else p 0) = d from if_pos rfl⟩, ⟨fun j g => (nomatch (show false = true from g)), c0 _⟩, ⟨rfl, Or.inl ⟨rfl, rfl⟩⟩, fun j _ g => (nomatch (show false = true from g)), fun j _ _ _ => ⟨fun j' g => (nomatch (show false = true from g)), fun _ => rfl, fun g => absurd rfl g⟩⟩
  obtain ⟨e, r, ord, m4, S4, e4, g1, g2, g3, g4⟩ := h_search (n := n) hM hN hn hC hd (htab_f ht f3) hr3 hG
  obtain ⟨m5, S5, e5, k1, k2, k3⟩ := h_aug (n := n) hM hN hn hd (htab_f (htab_f ht f3) g2) g1 g3 g4
  unfold fX1_place_98
  have e3 : fX8_set_103 (z 0) (z (d : Int)) m2 = some m3 := by rw [show z 0 = z ((0 : Nat) : Int) from rfl, s_103 (by omega), e3]
  rw [e1, obind, e2, obind, e3, obind, e4, obind]
  exact ⟨m5, hu S5, hv S5, hp S5, e5, fun i hi => ⟨(k1 i hi).1, (k1 i hi).2.1, (k1 i hi).2.2.2.1⟩, hfr_tr f3 (hfr_tr g2 k2), k3⟩
end POT

