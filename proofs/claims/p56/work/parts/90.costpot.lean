/-! the cheapest plan by potentials: its cost -/
def mask (w : Nat → Nat) (s : Nat → Nat) : Nat → Nat → Nat
  | 0 => w
  | t + 1 => fun j => if j = s t then 0 else mask w s t j
theorem mask_at {w s : Nat → Nat} {j : Nat} : ∀ {t : Nat}, (∀ k, k < t → ¬ s k = j) → mask w s t j = w j
  | 0, _ => rfl
  | t + 1, h => by
    show (if j = s t then 0 else mask w s t j) = w j
    rw [if_neg (fun g => h t (by omega) g.symm)]
    exact mask_at (fun k hk => h k (by omega))
theorem mask_in {w s : Nat → Nat} {j : Nat} : ∀ {t k : Nat}, k < t → s k = j → mask w s t j = 0
  | t + 1, k, hk, he => by
    show (if j = s t then 0 else mask w s t j) = 0
    by_cases e : j = s t
    · rw [if_pos e]
    · rw [if_neg e]
      have : ¬ k = t := fun g => e (by rw [← he, g])
      exact mask_in (by omega) he
theorem mask_sum {w s : Nat → Nat} {M : Nat} : ∀ {t : Nat}, (∀ k, k < t → s k < M) → (∀ i j, i < j → j < t → ¬ s i = s j) → nsum (fun k => w (s k)) t + nsum (mask w s t) M = nsum w M
  | 0, _, _ => Nat.zero_add _
  | t + 1, h1, h2 => by
    have ih := mask_sum (w := w) (s := s) (M := M) (t := t) (fun k hk => h1 k (by omega)) (fun i j a b => h2 i j a (by omega))
    have hs := nsum_set (f := mask w s t) (k := s t) (v := 0) (n := M) (h1 t (by omega))
    have hm : mask w s t (s t) = w (s t) := mask_at (fun k hk => h2 k t hk (by omega))
    show nsum (fun k => w (s k)) t + w (s t) + nsum (fun j => if j = s t then 0 else mask w s t j) M = nsum w M
    omega
theorem nsum_0 {f : Nat → Nat} : ∀ {n : Nat}, (∀ k, k < n → f k = 0) → nsum f n = 0
  | 0, _ => rfl
  | n + 1, h => by
    show nsum f n + f n = 0
    rw [nsum_0 (fun k hk => h k (by omega)), h n (by omega)]
theorem psum_n {g : Nat → Nat → Nat} {s : Nat → Nat} : ∀ {d k : Nat}, psum g s d k = nsum (fun i => g (k + i) (s (k + i))) d
  | 0, _ => rfl
  | d + 1, k => by
    have ih := psum_n (g := g) (s := s) (d := d) (k := k + 1)
    have sh' : ∀ (f : Nat → Nat) n, nsum f (n + 1) = f 0 + nsum (fun i => f (i + 1)) n := fun f n => by
      induction n with
      | zero => show 0 + f 0 = f 0 + 0; omega
      | succ n ih =>
        show nsum f (n + 1) + f (n + 1) = f 0 + (nsum (fun i => f (i + 1)) n + f (n + 1))
        rw [ih]
        omega
    rw [sh']
    show g k (s k) + psum g s d (k + 1) = g (k + 0) (s (k + 0)) + nsum (fun i => g (k + (i + 1)) (s (k + (i + 1)))) d
    rw [ih, nsum_congr (g := fun i => g (k + (i + 1)) (s (k + (i + 1)))) (fun i _ => by rw [show k + 1 + i = k + (i + 1) by omega])]
    rfl
theorem nsum_lef {f g : Nat → Nat} : ∀ {n : Nat}, (∀ k, k < n → f k ≤ g k) → nsum f n ≤ nsum g n
  | 0, _ => Nat.le_refl _
  | n + 1, h => by
    have ih := nsum_lef (f := f) (g := g) (n := n) (fun k hk => h k (by omega))
    have := h n (by omega)
    show nsum f n + f n ≤ nsum g n + g n
    omega
theorem nsum_in {f : Nat → Nat} : ∀ {n k : Nat}, k < n → f k ≤ nsum f n
  | n + 1, k, h => by
    show f k ≤ nsum f n + f n
    by_cases e : k = n
    · rw [e]; omega
    · have := nsum_in (f := f) (n := n) (k := k) (by omega)
      omega
section COSTP
variable {c : Nat → Nat → Option Nat} {M N : Nat}
/-- all dancers have an exit: the sum is the cost of the best plan, or there is none -/
theorem pot_opt (hc : ∀ k e l, c k e = some l → l ≤ 64) (hM : M ≤ 6) (hN : N ≤ M) {u v : Nat → Int} {p : Nat → Nat} (h : PS (fun i j => cf c (i - 1) (j - 1)) M N N u v p) : (nsum (fun j => if p (j + 1) = 0 then 0 else cf c (p (j + 1) - 1) j) M < 1000 → ∃ x, bst c M N 0 0 = some x ∧ x.1 = nsum (fun j => if p (j + 1) = 0 then 0 else cf c (p (j + 1) - 1) j) M) ∧ (1000 ≤ nsum (fun j => if p (j + 1) = 0 then 0 else cf c (p (j + 1) - 1) j) M → bst c M N 0 0 = none) := by
  obtain ⟨h1, h2, h3, h4, h5, h6⟩ := h
  -- the exit of each dancer
  have hex : ∀ k, k < N → ∃ j, j < M ∧ p (j + 1) = k + 1 := fun k hk => by
    obtain ⟨j, j1, j2, j3⟩ := h4 (k + 1) (by omega) (by omega)
    exact ⟨j - 1, by omega, by rw [show j - 1 + 1 = j by omega]; exact j3⟩
  have hs : ∃ s : Nat → Nat, ∀ k, k < N → s k < M ∧ p (s k + 1) = k + 1 := ⟨fun k => (ff (fun j => decide (p (j + 1) = k + 1)) M 0).getD 0, fun k hk => by
    obtain ⟨j, j1, j2⟩ := hex k hk
    dsimp only
    cases hf : ff (fun j => decide (p (j + 1) = k + 1)) M 0 with
    | none =>
      have := ff_none hf j (Nat.zero_le _) (by omega)
      exact absurd j2 (of_decide_eq_false this)
    | some i =>
      obtain ⟨-, g2, g3, -⟩ := ff_some hf
      exact ⟨by show i < M; omega, of_decide_eq_true g3⟩⟩
  obtain ⟨s, hs⟩ := hs
  have sinj : ∀ i j, i < j → j < N → ¬ s i = s j := fun i j hij hj e => by
    have a := (hs i (by omega)).2
    have b := (hs j hj).2
    rw [e, b] at a
    omega
  -- the sum, by dancers
  have hS : nsum (fun k => cf c k (s k)) N = nsum (fun j => if p (j + 1) = 0 then 0 else cf c (p (j + 1) - 1) j) M := by
    have e := mask_sum (w := fun j => if p (j + 1) = 0 then 0 else cf c (p (j + 1) - 1) j) (s := s) (M := M) (t := N) (fun k hk => (hs k hk).1) sinj
    have e0 : nsum (mask (fun j => if p (j + 1) = 0 then 0 else cf c (p (j + 1) - 1) j) s N) M = 0 := nsum_0 (fun j hj => by
      by_cases hp : p (j + 1) = 0
      · by_cases hk : ∃ k, k < N ∧ s k = j
        · obtain ⟨k, k1, k2⟩ := hk
          exact mask_in k1 k2
        · rw [mask_at (fun k k1 k2 => hk ⟨k, k1, k2⟩)]
          exact if_pos hp
      · have a := (h2 (j + 1) (by omega) (by omega) hp).1
        have b := (hs (p (j + 1) - 1) (by omega)).2
        refine mask_in (k := p (j + 1) - 1) (by omega) ?_
        have hk := (hs (p (j + 1) - 1) (by omega)).1
        have := h3 (s (p (j + 1) - 1) + 1) (j + 1) (by omega) (by omega) (by omega) (by omega) (by omega) (by omega)
        omega)
    rw [e0, Nat.add_zero] at e
    rw [← e]
    refine nsum_congr fun k hk => ?_
    obtain ⟨a, b⟩ := hs k hk
    rw [b, if_neg (Nat.succ_ne_zero k)]
    rfl
  rw [← hS]
  -- prices: the sum is at most any plan's
  have w : ∃ w : Nat → Nat, (∀ j, j < M → (w j : Int) = - v (j + 1)) ∧ ∀ j, j < M → p (j + 1) = 0 → w j = 0 := ⟨fun j => (- v (j + 1)).toNat, fun j hj => by
    have := (h5 (j + 1) (by omega) (by omega)).1
    dsimp only
    omega, fun j hj hp => by
    have := (h5 (j + 1) (by omega) (by omega)).2 hp
    dsimp only
    omega⟩
  obtain ⟨w, w1, w2⟩ := w
  have U : ∃ U : Nat → Nat, ∀ k, k < N → (U k : Int) = u (k + 1) := ⟨fun k => (u (k + 1)).toNat, fun k hk => by
    have := h6 (k + 1) (by omega) (by omega)
    dsimp only
    omega⟩
  obtain ⟨U, hU⟩ := U
  have tight : ∀ k, k < N → cf c k (s k) + w (s k) = U k := fun k hk => by
    obtain ⟨a, b⟩ := hs k hk
    have t := (h2 (s k + 1) (by omega) (by omega) (by omega)).2
    rw [b] at t
    have e1 := w1 (s k) a
    have e2 := hU k hk
    have t : u (k + 1) + v (s k + 1) = (cf c k (s k) : Int) := t
    omega
  have slack : ∀ k j, k < N → j < M → U k ≤ cf c k j + w j := fun k j hk hj => by
    have t := h1 (k + 1) (j + 1) (by omega) (by omega) (by omega) (by omega)
    have e1 := w1 j hj
    have e2 := hU k hk
    have t : u (k + 1) + v (j + 1) ≤ (cf c k j : Int) := t
    omega
  have add : ∀ (f g : Nat → Nat) n, nsum (fun k => f k + g k) n = nsum f n + nsum g n := fun f g n => by
    induction n with
    | zero => rfl
    | succ n ih =>
      show nsum (fun k => f k + g k) n + (f n + g n) = nsum f n + f n + (nsum g n + g n)
      rw [ih]
      omega
  have hw : nsum (fun k => w (s k)) N = nsum w M := by
    have e := mask_sum (w := w) (s := s) (M := M) (t := N) (fun k hk => (hs k hk).1) sinj
    have e0 : nsum (mask w s N) M = 0 := nsum_0 (fun j hj => by
      by_cases hk : ∃ k, k < N ∧ s k = j
      · obtain ⟨k, k1, k2⟩ := hk
        exact mask_in k1 k2
      · rw [mask_at (fun k k1 k2 => hk ⟨k, k1, k2⟩)]
        refine w2 j hj (Decidable.byContradiction fun hp => ?_)
        have a := (h2 (j + 1) (by omega) (by omega) hp).1
        obtain ⟨b1, b2⟩ := hs (p (j + 1) - 1) (by omega)
        have := h3 (s (p (j + 1) - 1) + 1) (j + 1) (by omega) (by omega) (by omega) (by omega) (by omega) (by omega)
        exact hk ⟨p (j + 1) - 1, by omega, by omega⟩)
    omega
  have opt : ∀ e : Nat → Nat, (∀ k, k < N → e k < M) → (∀ i j, i < j → j < N → ¬ e i = e j) → nsum (fun k => cf c k (s k)) N ≤ nsum (fun k => cf c k (e k)) N := fun e e1 e2 => by
    have a := add (fun k => cf c k (s k)) (fun k => w (s k)) N
    have b := add (fun k => cf c k (e k)) (fun k => w (e k)) N
    have c1 := nsum_congr (f := fun k => cf c k (s k) + w (s k)) (g := U) (n := N) tight
    have c2 := nsum_lef (f := U) (g := fun k => cf c k (e k) + w (e k)) (n := N) (fun k hk => slack k (e k) hk (e1 k hk))
    have c3 := mask_sum (w := w) (s := e) (M := M) (t := N) e1 e2
    omega
  have hg : ∀ k e l, c k e = some l → cf c k e = l := fun k e l g => by unfold cf; rw [g]
  have plan : ∀ x, bst c M N 0 0 = some x → nsum (fun k => cf c k (s k)) N ≤ x.1 := fun x hx => by
    obtain ⟨-, g2, g3, g4⟩ := bst_plan hM (by omega) hx
    have := opt (fun k => x.2.getD k 0) (fun k hk => (g2 k hk).1) g3
    have e := g4 (cf c) hg
    rw [psum_n] at e
    have e : nsum (fun i => cf c (0 + i) (x.2.getD (0 + i - 0) 0)) N = x.1 := e
    rw [nsum_congr (g := fun k => cf c k (x.2.getD k 0)) (fun k _ => by rw [Nat.zero_add, Nat.sub_zero])] at e
    omega
  have real : nsum (fun k => cf c k (s k)) N < 1000 → ∃ x, bst c M N 0 0 = some x ∧ x.1 ≤ nsum (fun k => cf c k (s k)) N := fun hlt => by
    obtain ⟨x, x1, x2⟩ := bst_min (c := c) (M := M) hM (g := cf c) (s := s) hg (d := N) (k := 0) (u := 0) (by omega) (fun i _ hi => by
      obtain ⟨a, b⟩ := hs i (by omega)
      refine ⟨a, un_0 _ (by omega), ?_⟩
      cases hci : c i (s i) with
      | some l => exact ⟨l, rfl⟩
      | none =>
        exfalso
        have := nsum_in (f := fun k => cf c k (s k)) (n := N) (k := i) (by omega)
        have e : cf c i (s i) = 1000 := by unfold cf; rw [hci]
        try dsimp only at this
        omega) (fun i j _ hij hj => sinj i j hij (by omega))
    refine ⟨x, x1, ?_⟩
    rw [psum_n, nsum_congr (g := fun k => cf c k (s k)) (fun k _ => by rw [Nat.zero_add])] at x2
    exact x2
  constructor
  · intro hlt
    obtain ⟨x, x1, x2⟩ := real hlt
    exact ⟨x, x1, Nat.le_antisymm x2 (plan x x1)⟩
  · intro hge
    cases hb : bst c M N 0 0 with
    | none => rfl
    | some x =>
      have a := plan x hb
      have b := bst_bd hc hb
      omega
variable {m : pmI} {n : Nat}
theorem c_pot (hc : ∀ k e l, c k e = some l → l ≤ 64) (hM : M ≤ 6) (hN8 : N ≤ 8) (ht : tab m c M N) (hn : 100 ≤ n) : ∃ m', fX1_costByPotentials_98 n m = some (z (match bst c M N 0 0 with | none => -1 | some x => (x.1 : Int)), m') ∧ hfr m m' := by
  have p2 := p2_64 M (by omega)
  unfold fX1_costByPotentials_98
  rw [ht.1, ht.2.1]
  by_cases hN : N ≤ M
  · obtain ⟨m1, e1, j1, o1, r1⟩ := c_fill101 hn (z 0) m
    obtain ⟨m2, e2, j2, o2, r2⟩ := c_fill102 hn (z 0) m1
    obtain ⟨m3, e3, j3, o3, r3⟩ := c_fill103 hn (z 0) m2
    have f3 : hfr m m3 := hfr_tr (hfr_1 (q := 101) (by omega) j1 o1) (hfr_tr (hfr_1 (q := 102) (by omega) j2 o2) (hfr_1 (q := 103) (by omega) j3 o3))
    have hC : ∀ i j, (fun i j => cf c (i - 1) (j - 1)) i j ≤ 1000 := fun i j => cf_le hc _ _
    have ht3 : htab m3 (fun i j => cf c (i - 1) (j - 1)) M N := htab_f ⟨ht.1, ht.2.1, fun k e hk he => ht.2.2 hN k e hk he⟩ f3
    have F := forI (fun q i (x : pmI) => lX1_costByPotentials_98_l39 n q i x) (N + 1)
      (fun t x => 1 ≤ t ∧ ∃ u v p, (∀ i, i < 7 → x.1 101 i = z (u i) ∧ x.1 102 i = z (v i) ∧ x.1 103 i = z ((p i : Nat) : Int)) ∧ hfr m3 x ∧ PS (fun i j => cf c (i - 1) (j - 1)) M N (t - 1) u v p)
      (fun r => ∃ m' u v p, r = some m' ∧ (∀ i, i < 7 → m'.1 101 i = z (u i) ∧ m'.1 102 i = z (v i) ∧ m'.1 103 i = z ((p i : Nat) : Int)) ∧ hfr m3 m' ∧ PS (fun i j => cf c (i - 1) (j - 1)) M N N u v p)
      (fun q t x hlt hI => by
        obtain ⟨t1, u, v, p, y1, y2, y3⟩ := hI
        have htx := htab_f ht3 y2
        obtain ⟨m4, u', v', p', e4, g1, g2, g3⟩ := h_place (n := n) hM hN hn hC (d := t) (by omega) htx y1 y3
        show ∃ s', _ ∧ bX1_costByPotentials_98_l39 n (lX1_costByPotentials_98_l39 n q) (z (t : Int)) x = _
        unfold bX1_costByPotentials_98_l39
        rw [htx.1, if_neg (zge (by omega)), e4, obind, show z 1 = z (1 : Int) from rfl, z_add]
        exact ⟨m4, ⟨by omega, u', v', p', g1, hfr_tr y2 g2, g3⟩, rfl⟩)
      (fun q x hI => by
        obtain ⟨-, u, v, p, y1, y2, y3⟩ := hI
        refine ⟨x, u, v, p, ?_, y1, y2, y3⟩
        show bX1_costByPotentials_98_l39 n (lX1_costByPotentials_98_l39 n q) (z ((N + 1 : Nat) : Int)) x = _
        unfold bX1_costByPotentials_98_l39
        rw [(htab_f ht3 y2).1, if_pos (zlt (by omega))]) N 1 n m3 (by omega) (by omega) ⟨Nat.le_refl _, fun _ => 0, fun _ => 0, fun _ => 0, fun i hi => ⟨by rw [o3 101 (by decide), o2 101 (by decide), r1 i hi], by rw [o3 102 (by decide), r2 i hi], by rw [r3 i hi]; rfl⟩, hfr_rf, fun i j _ _ _ _ => by show (0 : Int) + 0 ≤ _; omega, fun j _ _ h => absurd rfl h, fun j j' _ _ _ _ h => absurd rfl h, fun i h1 h2 => by omega, fun j _ _ => ⟨Int.le_refl _, fun _ => rfl⟩, fun i _ _ => Int.le_refl _⟩
    obtain ⟨m4, u, v, p, e4, g1, g2, g3⟩ := F
    have e4 : lX1_costByPotentials_98_l39 n n (z 1) m3 = some m4 := e4
    have ht4 := htab_f ht3 g2
    obtain ⟨a1, a2⟩ := pot_opt hc hM hN g3
    have hbd : nsum (fun j => if p (j + 1) = 0 then 0 else cf c (p (j + 1) - 1) j) M ≤ M * 1000 := nsum_bd (fun j _ => by
      split
      · omega
      · exact cf_le hc _ _)
    have S := suml (fun q a b => lX1_costByPotentials_98_l62 n m4 q a (b + z 1)) M (fun j => if p (j + 1) = 0 then 0 else cf c (p (j + 1) - 1) j) (fun q j s hj => by
      show bX1_costByPotentials_98_l62 n m4 (lX1_costByPotentials_98_l62 n m4 q) (z (s : Int)) (z (j : Int) + z 1) = _
      unfold bX1_costByPotentials_98_l62 fX1_costOf_98
      have hp7 := (g1 (j + 1) (by omega)).2.2
      rw [show z 1 = z (1 : Int) from rfl, z_add, ht4.2.1, if_neg (zge (by omega)), show ((j : Int) + 1) = ((j + 1 : Nat) : Int) by omega, a_103 (by omega), obind, hp7]
      by_cases h0 : p (j + 1) = 0
      · rw [if_neg (by rw [h0]; decide), if_pos h0, z_add, z_add]
        rfl
      · have hN' := (g3.2.1 (j + 1) (by omega) (by omega) h0).1
        rw [if_pos (zlt (by omega)), z_sub, z_sub, z_mul, z_add, show ((p (j + 1) : Int) - 1) * 6 + (((j + 1 : Nat) : Int) - 1) = ((6 * (p (j + 1) - 1) + j : Nat) : Int) by omega, a_99 (by omega), obind, obind, ht4.2.2 _ _ (by omega) hj, if_neg h0, z_add, z_add]
        rfl) (fun q s => by
      show bX1_costByPotentials_98_l62 n m4 (lX1_costByPotentials_98_l62 n m4 q) (z (s : Int)) (z (M : Int) + z 1) = _
      unfold bX1_costByPotentials_98_l62
      rw [show z 1 = z (1 : Int) from rfl, z_add, ht4.2.1, if_pos (zlt (by omega))]) M 0 n (by omega) (by omega)
    have S : lX1_costByPotentials_98_l62 n m4 n (z 0) (z 1) = some (z ((nsum (fun j => if p (j + 1) = 0 then 0 else cf c (p (j + 1) - 1) j) M : Nat) : Int)) := S
    rw [if_neg (zge (by omega)), e1, obind, e2, obind, e3, obind, e4, obind, S, obind]
    by_cases hlt : nsum (fun j => if p (j + 1) = 0 then 0 else cf c (p (j + 1) - 1) j) M < 1000
    · obtain ⟨x, x1, x2⟩ := a1 hlt
      rw [if_pos (zlt (by omega)), x1, ← x2]
      exact ⟨m4, rfl, hfr_tr f3 g2⟩
    · rw [if_neg (zge (by omega)), a2 (by omega)]
      exact ⟨m4, rfl, hfr_tr f3 g2⟩
  · rw [if_pos (zlt (by omega)), bst_over hM (u := 0) (by omega) (by show M < 0 + N; omega)]
    exact ⟨m, rfl, hfr_rf⟩
end COSTP
section LAW20
variable {E : pmEv0} {n : Nat} {self : lSelf} {i5 : Int32} {m : pmI} {D : Nat → Nat → UInt64} {w k : Nat} {W : Wd}
theorem lfr_h {m m1 : pmI} (h : hfr m m1) : lfr m m1 := ⟨fun i a => h.1 i (by omega), h.2⟩
theorem c_exitPot (h : cInv m W) (hn : 100 ≤ n) : cQ m W (fX8_exitCostByPotentials n m) (qCost (wA W)).1 (z (qCost (wA W)).2) 3 := by
  have w := h.2.1
  obtain ⟨m1, e1, t1, f1⟩ := c_measure (n := n) h.1 w hn
  obtain ⟨m2, e2, f2⟩ := c_pot (n := n) dis_le w.2.2.2.2.2.2.1 w.1 t1 hn
  have ff := lfr_tr f1 (lfr_h f2)
  unfold fX8_exitCostByPotentials qCost
  rw [e1, obind, e2, obind]
  dsimp only
  rw [show bst (dis (wA W)) (aEn (wA W)) (aC (wA W)) 0 0 = bestP (wA W) from rfl]
  cases hb : bestP (wA W) with
  | none =>
    rw [if_pos rfl]
    exact ⟨m2, rfl, cOut_l ff, cInv_l h ff⟩
  | some x =>
    have := best_bd w hb
    dsimp only
    rw [if_neg (zne (by omega))]
    exact ⟨m2, rfl, cOut_l ff, cInv_l h ff⟩
end LAW20

