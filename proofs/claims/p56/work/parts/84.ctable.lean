/-! exit plans: the class's table -/
def val : Option Pl → Nat
  | none => 1000
  | some x => x.1
def dis (A : Ab) (k e : Nat) : Option Nat := dst (clo A false) (aCe A k) (aEx A e)
def cf (c : Nat → Nat → Option Nat) (k e : Nat) : Nat := match c k e with
  | none => 1000
  | some l => l
def bestP (A : Ab) : Option Pl := bst (dis A) (aEn A) (aC A) 0 0
def cost (A : Ab) : Int := match bestP A with
  | none => -1
  | some x => (x.1 : Int)
theorem dis_le {A : Ab} (k e l : Nat) (h : dis A k e = some l) : l ≤ 64 := dst_le h
theorem cf_le {c : Nat → Nat → Option Nat} (hc : ∀ k e l, c k e = some l → l ≤ 64) (k e : Nat) : cf c k e ≤ 1000 := by
  unfold cf
  cases h : c k e with
  | none => exact Nat.le_refl _
  | some l =>
    have := hc k e l h
    show l ≤ 1000
    omega
theorem val_better {a b : Option Pl} (ha : ∀ x, a = some x → x.1 < 1000) (hb : ∀ x, b = some x → x.1 < 1000) : val (better a b) = min (val a) (val b) := by
  cases a with
  | none =>
    show val b = min 1000 (val b)
    cases b with
    | none => rfl
    | some y =>
      have := hb y rfl
      show y.1 = min 1000 y.1
      omega
  | some x =>
    have := ha x rfl
    cases b with
    | none =>
      show x.1 = min x.1 1000
      omega
    | some y =>
      show val (if y.1 < x.1 then some y else some x) = min x.1 y.1
      split
      · show y.1 = _
        omega
      · show x.1 = _
        omega
theorem shl1 : ∀ M : Nat, M < 7 → ((z 1) <<< (z (M : Int) &&& 31)) - z 1 = z ((2 ^ M : Nat) - 1 : Int) := by decide +kernel
theorem unC : ∀ u : Nat, u < 64 → ∀ e : Nat, e < 6 → (((Int32.toUInt32 (z (u : Int)) >>> (Int32.toUInt32 (z (e : Int)) &&& Int32.toUInt32 31)).toInt32 &&& (z 1)) = (z 0) ↔ un u e = true) := by decide +kernel
theorem orC : ∀ u : Nat, u < 64 → ∀ e : Nat, e < 6 → un u e = true → z (u : Int) ||| ((z 1) <<< (z (e : Int) &&& 31)) = z (ad u e : Int) := by decide +kernel
theorem bcC0 : ∀ u : Nat, u < 64 → fJ6_bitCount_0f7a4 (z (u : Int)) m00 = some (z (bcn u : Int)) := by decide +kernel
theorem bcC {u : Nat} (hu : u < 64) (m : pmI) : fJ6_bitCount_0f7a4 (z (u : Int)) m = some (z (bcn u : Int)) := bcC0 u hu
theorem bcn_6 : ∀ u : Nat, u < 64 → bcn u ≤ 6 := by decide
theorem accl (l : Nat → Int32 → Int32 → Option Int32) (len : Nat) (v : Nat → Int32) (hs : ∀ k i, i < len → l (k + 1) (v i) (z (i : Int)) = l k (v (i + 1)) (z ((i : Int) + 1))) (he : ∀ k, l (k + 1) (v len) (z (len : Int)) = some (v len)) : ∀ (d i k : Nat), i + d = len → d < k → l k (v i) (z (i : Int)) = some (v len)
  | 0, i, k + 1, h1, _ => by
    obtain rfl : i = len := by omega
    exact he k
  | d + 1, i, k + 1, h1, h2 => by
    rw [hs k i (by omega)]
    exact accl l len v hs he d (i + 1) k (by omega) (by omega)
/-- the table's value at a set of used exits -/
def rv (c : Nat → Nat → Option Nat) (M N u : Nat) : Nat := val (bst c M (N - bcn u) (bcn u) u)
section CTAB
variable {m : pmI} {n : Nat} {c : Nat → Nat → Option Nat} {M N : Nat}
def tab (m : pmI) (c : Nat → Nat → Option Nat) (M N : Nat) : Prop := m.1 98 0 = z (N : Int) ∧ m.1 98 1 = z (M : Int) ∧ (N ≤ M → ∀ k e, k < N → e < M → m.1 99 (6 * k + e) = z (cf c k e : Int))
theorem bst_u (c : Nat → Nat → Option Nat) {M N u : Nat} (h : bcn u < N) : bst c M (N - bcn u) (bcn u) u = pick (fun e => cand u e (c (bcn u) e) (bst c M (N - (bcn u + 1)) (bcn u + 1) (ad u e))) M := by
  rw [show N - bcn u = (N - (bcn u + 1)) + 1 by omega]
  rfl
theorem cand_val (hc : ∀ k e l, c k e = some l → l ≤ 64) {d k u e : Nat} (hd : d ≤ 8) (hu : un u e = true) : val (cand u e (c k e) (bst c M d (k + 1) (ad u e))) = min 1000 (cf c k e + val (bst c M d (k + 1) (ad u e))) ∧ ∀ x, cand u e (c k e) (bst c M d (k + 1) (ad u e)) = some x → x.1 < 1000 := by
  unfold cand cf
  rw [if_pos hu]
  cases h : c k e with
  | none =>
    refine ⟨?_, fun x g => (nomatch g)⟩
    show 1000 = min 1000 (1000 + _)
    omega
  | some l =>
    have hl := hc k e l h
    cases hb : bst c M d (k + 1) (ad u e) with
    | none =>
      refine ⟨?_, fun x g => (nomatch g)⟩
      show 1000 = min 1000 (l + 1000)
      omega
    | some y =>
      have hy := bst_bd hc hb
      refine ⟨?_, fun x g => ?_⟩
      · show l + y.1 = min 1000 (l + y.1)
        omega
      · cases g
        show l + y.1 < 1000
        omega
theorem pick_bd {f : Nat → Option Pl} (h : ∀ e x, f e = some x → x.1 < 1000) {e : Nat} : ∀ x, pick f e = some x → x.1 < 1000 := fun x hx => by
  obtain ⟨e', -, h2, -⟩ := pick_some hx
  exact h e' x h2
theorem cand_lt (hc : ∀ k e l, c k e = some l → l ≤ 64) {d k u : Nat} (hd : d ≤ 8) : ∀ e x, cand u e (c k e) (bst c M d (k + 1) (ad u e)) = some x → x.1 < 1000 := fun e x h => (cand_val hc hd (cand_some h).1).2 x h
theorem c_small (hc : ∀ k e l, c k e = some l → l ≤ 64) (hM : M ≤ 6) (hN : N ≤ M) (ht : tab m c M N) (hn : 100 ≤ n) {u : Nat} (hu : u < 2 ^ M) (hb : bcn u < N) (hr : ∀ u', u < u' → u' < 2 ^ M → m.1 100 u' = z (rv c M N u' : Int)) : fX1_smallestRest_98 n (z (bcn u : Int)) (z (u : Int)) m = some (z (rv c M N u : Int)) := by
  have p2 := p2_64 M (by omega)
  have F := accl (lX1_smallestRest_98_l7 n (z (bcn u : Int)) (z (u : Int)) m) M (fun e => z (val (pick (fun e => cand u e (c (bcn u) e) (bst c M (N - (bcn u + 1)) (bcn u + 1) (ad u e))) e) : Int)) (fun k e he => by
    show bX1_smallestRest_98_l7 n (z (bcn u : Int)) (z (u : Int)) m (lX1_smallestRest_98_l7 n (z (bcn u : Int)) (z (u : Int)) m k) _ (z (e : Int)) = _
    unfold bX1_smallestRest_98_l7
    rw [ht.2.1, if_pos (zlt (by omega))]
    have hbd := cand_lt (M := M) hc (d := N - (bcn u + 1)) (k := bcn u) (u := u) (by omega)
    have hpa := pick_bd hbd (e := e)
    have hvb := val_better hpa (hbd e)
    show _ = lX1_smallestRest_98_l7 n (z (bcn u : Int)) (z (u : Int)) m k (z (val (better (pick (fun e => cand u e (c (bcn u) e) (bst c M (N - (bcn u + 1)) (bcn u + 1) (ad u e))) e) (cand u e (c (bcn u) e) (bst c M (N - (bcn u + 1)) (bcn u + 1) (ad u e)))) : Int)) (z ((e : Int) + 1))
    have hv1000 : val (pick (fun e => cand u e (c (bcn u) e) (bst c M (N - (bcn u + 1)) (bcn u + 1) (ad u e))) e) ≤ 1000 := by
      cases h : pick (fun e => cand u e (c (bcn u) e) (bst c M (N - (bcn u + 1)) (bcn u + 1) (ad u e))) e with
      | none => exact Nat.le_refl _
      | some x => exact Nat.le_of_lt (hpa x h)
    by_cases hue : un u e = true
    · have a := ad_ok u (by omega) e (by omega) hue
      have aM := ad_M M (by omega) u hu e he hue
      rw [if_pos ((unC u (by omega) e (by omega)).mpr hue), z_mul, z_add, show (bcn u : Int) * 6 + (e : Int) = ((6 * bcn u + e : Nat) : Int) by omega, a_99 (by omega), obind, ht.2.2 hN _ _ hb he, orC u (by omega) e (by omega) hue, a_100 (by omega), obind, hr _ a.2 aM, z_add]
      have erv : rv c M N (ad u e) = val (bst c M (N - (bcn u + 1)) (bcn u + 1) (ad u e)) := by
        unfold rv
        rw [a.1.2]
      obtain ⟨q1, q2⟩ := cand_val (M := M) hc (d := N - (bcn u + 1)) (k := bcn u) (by omega) hue
      have hcf := cf_le hc (bcn u) e
      have hv2 : val (bst c M (N - (bcn u + 1)) (bcn u + 1) (ad u e)) ≤ 1000 := by
        cases h : bst c M (N - (bcn u + 1)) (bcn u + 1) (ad u e) with
        | none => exact Nat.le_refl _
        | some x =>
          have := bst_bd hc h
          show x.1 ≤ 1000
          omega
      rw [hvb, q1, erv]
      generalize val (pick (fun e => cand u e (c (bcn u) e) (bst c M (N - (bcn u + 1)) (bcn u + 1) (ad u e))) e) = V at *
      generalize val (bst c M (N - (bcn u + 1)) (bcn u + 1) (ad u e)) = B at *
      generalize cf c (bcn u) e = C at *
      unfold fJ9_min_7cf53
      by_cases hl : C + B < V
      · rw [if_pos (zlt (by omega)), obind, z_add, show (C : Int) + (B : Int) = ((min V (min 1000 (C + B)) : Nat) : Int) by omega]
      · rw [if_neg (zge (by omega)), obind, z_add, show min V (min 1000 (C + B)) = V by omega]
    · have h0 : cand u e (c (bcn u) e) (bst c M (N - (bcn u + 1)) (bcn u + 1) (ad u e)) = none := if_neg hue
      rw [if_neg (fun g => hue ((unC u (by omega) e (by omega)).mp g)), z_add, h0]
      have : ∀ a : Option Pl, better a none = a := fun a => by cases a <;> rfl
      rw [this]) (fun k => by
    show bX1_smallestRest_98_l7 n (z (bcn u : Int)) (z (u : Int)) m (lX1_smallestRest_98_l7 n (z (bcn u : Int)) (z (u : Int)) m k) _ (z (M : Int)) = _
    unfold bX1_smallestRest_98_l7
    rw [ht.2.1, if_neg (zge (by omega))]) M 0 n (by omega) (by omega)
  have F : lX1_smallestRest_98_l7 n (z (bcn u : Int)) (z (u : Int)) m n (z 1000) (z 0) = _ := F
  unfold fX1_smallestRest_98
  rw [F, obind]
  unfold rv
  rw [bst_u c hb]
theorem c_tabL (hc : ∀ k e l, c k e = some l → l ≤ 64) (hM : M ≤ 6) (hN : N ≤ M) (hn : 100 ≤ n) : ∀ (u q : Nat) (m : pmI), u ≤ 2 ^ M → u < q → tab m c M N → (∀ u', u ≤ u' → u' < 2 ^ M → m.1 100 u' = z (rv c M N u' : Int)) → ∃ m', lX1_costByTable_98_l22 n q (z ((u : Int) - 1)) m = some m' ∧ (∀ u', u' < 2 ^ M → m'.1 100 u' = z (rv c M N u' : Int)) ∧ m'.2 = m.2 ∧ ∀ i, ¬ i = 100 → m'.1 i = m.1 i := by
  have p2 := p2_64 M (by omega)
  intro u
  induction u with
  | zero =>
    intro q m h1 h2 ht hr
    obtain ⟨q, rfl⟩ : ∃ j, q = j + 1 := ⟨q - 1, by omega⟩
    show ∃ m', bX1_costByTable_98_l22 n (lX1_costByTable_98_l22 n q) (z (((0 : Nat) : Int) - 1)) m = _ ∧ _
    unfold bX1_costByTable_98_l22
    rw [if_pos (by decide)]
    exact ⟨m, rfl, fun u' h => hr u' (Nat.zero_le _) h, rfl, fun _ _ => rfl⟩
  | succ u ih =>
    intro q m h1 h2 ht hr
    obtain ⟨q, rfl⟩ : ∃ j, q = j + 1 := ⟨q - 1, by omega⟩
    show ∃ m', bX1_costByTable_98_l22 n (lX1_costByTable_98_l22 n q) (z (((u + 1 : Nat) : Int) - 1)) m = _ ∧ _
    have b6 := bcn_6 u (by omega)
    unfold bX1_costByTable_98_l22
    rw [show ((u + 1 : Nat) : Int) - 1 = (u : Int) by omega, if_neg (zge (by omega)), bcC (by omega), obind, ht.1]
    have key : ∃ m', jX1_costByTable_98_54 n (lX1_costByTable_98_l22 n q) (z (u : Int)) (z (u : Int)) (z (rv c M N u : Int)) m = some m' ∧ (∀ u', u' < 2 ^ M → m'.1 100 u' = z (rv c M N u' : Int)) ∧ m'.2 = m.2 ∧ ∀ i, ¬ i = 100 → m'.1 i = m.1 i := by
      obtain ⟨m1, e1, j1, o1, r1⟩ := w_1 m 100 u (z (rv c M N u : Int))
      obtain ⟨m2, e2, g2, j2, o2⟩ := ih q m1 (by omega) (by omega) ⟨by rw [o1 98 (by decide)]; exact ht.1, by rw [o1 98 (by decide)]; exact ht.2.1, by rw [o1 99 (by decide)]; exact ht.2.2⟩ (fun u' h3 h4 => by
        rw [r1]
        by_cases e : u' = u
        · rw [if_pos e, e]
        · rw [if_neg e]
          exact hr u' (by omega) h4)
      unfold jX1_costByTable_98_54
      rw [s_100 (by omega), obind, e1, z_add]
      exact ⟨m2, e2, g2, by rw [j2, j1], fun i hi => by rw [o2 i hi, o1 i hi]⟩
    by_cases hb : bcn u < N
    · rw [if_pos (zlt (by omega)), c_small hc hM hN ht hn (by omega) hb (fun u' h3 h4 => hr u' (by omega) h4), obind]
      exact key
    · have e0 : rv c M N u = 0 := by
        unfold rv
        rw [show N - bcn u = 0 by omega]
        rfl
      rw [e0] at key
      rw [if_neg (zge (by omega))]
      exact key
theorem c_table (hc : ∀ k e l, c k e = some l → l ≤ 64) (hM : M ≤ 6) (hN8 : N ≤ 8) (ht : tab m c M N) (hn : 100 ≤ n) : ∃ m', fX1_costByTable_98 n m = some (z (match bst c M N 0 0 with | none => -1 | some x => (x.1 : Int)), m') ∧ (N ≤ M → ∀ u', u' < 2 ^ M → m'.1 100 u' = z (rv c M N u' : Int)) ∧ m'.2 = m.2 ∧ ∀ i, ¬ i = 100 → m'.1 i = m.1 i := by
  have p2 := p2_64 M (by omega)
  unfold fX1_costByTable_98
  rw [ht.1, ht.2.1]
  by_cases hN : N ≤ M
  · obtain ⟨m1, e1, g1, j1, o1⟩ := c_tabL hc hM hN hn (2 ^ M) n m (Nat.le_refl _) (by omega) ht (fun u' h3 h4 => by omega)
    have e1 : lX1_costByTable_98_l22 n n (z ((2 ^ M : Nat) - 1 : Int)) m = some m1 := e1
    have h0 := g1 0 (by omega)
    have erv : rv c M N 0 = val (bst c M N 0 0) := rfl
    rw [if_neg (zge (by omega)), shl1 M (by omega), e1, obind, show z 0 = z ((0 : Nat) : Int) from rfl, a_100 (by omega), obind, obind, h0, erv]
    cases hb : bst c M N 0 0 with
    | none =>
      rw [show val none = 1000 from rfl, if_neg (zge (by omega))]
      exact ⟨m1, rfl, fun _ => g1, j1, o1⟩
    | some x =>
      have := bst_bd hc hb
      rw [show val (some x) = x.1 from rfl, if_pos (zlt (by omega))]
      exact ⟨m1, rfl, fun _ => g1, j1, o1⟩
  · rw [if_pos (zlt (by omega)), bst_over hM (u := 0) (by omega) (by show M < 0 + N; omega)]
    exact ⟨m, rfl, fun h => absurd h hN, rfl, fun _ _ => rfl⟩
theorem c_firstExit (hc : ∀ k e l, c k e = some l → l ≤ 64) (hM : M ≤ 6) (hN : N ≤ M) (ht : tab m c M N) (hr : ∀ u', u' < 2 ^ M → m.1 100 u' = z (rv c M N u' : Int)) (hn : 100 ≤ n) {u : Nat} (hu : u < 2 ^ M) (hb : bcn u < N) {x : Pl} (hx : bst c M (N - bcn u) (bcn u) u = some x) : ∃ (e : Nat) (y : Pl), fX1_firstExitFor_98 n (z (bcn u : Int)) (z (u : Int)) m = some (z (e : Int)) ∧ e < M ∧ un u e = true ∧ bst c M (N - (bcn u + 1)) (bcn u + 1) (ad u e) = some y ∧ x.2 = e :: y.2 := by
  have p2 := p2_64 M (by omega)
  have hx2 := hx
  rw [bst_u c hb] at hx2
  obtain ⟨e, he, h2, h3, -⟩ := pick_some hx2
  obtain ⟨hue, l, y, hl, hy, hxe⟩ := cand_some h2
  refine ⟨e, y, ?_, he, hue, hy, by rw [hxe]⟩
  have hrvu : rv c M N u = x.1 := by
    unfold rv
    rw [hx]
    rfl
  have hxb := bst_bd hc hx
  have erv : ∀ e', e' < M → un u e' = true → rv c M N (ad u e') = val (bst c M (N - (bcn u + 1)) (bcn u + 1) (ad u e')) := fun e' h4 h5 => by
    unfold rv
    rw [(ad_ok u (by omega) e' (by omega) h5).1.2]
  have vb : ∀ d k u, d ≤ 8 → val (bst c M d k u) ≤ 1000 := fun d k u hd => by
    cases h : bst c M d k u with
    | none => exact Nat.le_refl _
    | some x =>
      have := bst_bd hc h
      show x.1 ≤ 1000
      omega
  have S := srch (lX1_firstExitFor_98_l2 n (z (bcn u : Int)) (z (u : Int)) m) M (fun e => un u e && decide (cf c (bcn u) e + rv c M N (ad u e) = rv c M N u)) (fun e => z (e : Int)) (fun k e' he' => by
    show bX1_firstExitFor_98_l2 n (z (bcn u : Int)) (z (u : Int)) m (lX1_firstExitFor_98_l2 n (z (bcn u : Int)) (z (u : Int)) m k) (z (e' : Int)) = _
    unfold bX1_firstExitFor_98_l2 jX1_firstExitFor_98_23
    rw [ht.2.1, if_pos (zlt (by omega))]
    by_cases h5 : un u e' = true
    · have a := ad_ok u (by omega) e' (by omega) h5
      have aM := ad_M M (by omega) u hu e' he' h5
      have hcf := cf_le hc (bcn u) e'
      have hv := vb (N - (bcn u + 1)) (bcn u + 1) (ad u e') (by omega)
      rw [← erv e' he' h5] at hv
      unfold fX1_costOf_98
      rw [if_pos ((unC u (by omega) e' (by omega)).mpr h5), if_neg z10, z_mul, z_add, show (bcn u : Int) * 6 + (e' : Int) = ((6 * bcn u + e' : Nat) : Int) by omega, a_99 (by omega), obind, obind, ht.2.2 hN _ _ hb he', orC u (by omega) e' (by omega) h5, a_100 (by omega), obind, hr _ aM, a_100 (by omega), obind, hr _ hu, z_add, h5, Bool.true_and, z_add]
      by_cases h6 : cf c (bcn u) e' + rv c M N (ad u e') = rv c M N u
      · rw [if_pos (by rw [← h6]; rfl), if_pos (decide_eq_true h6)]
      · rw [if_neg (zne (by omega)), if_neg (by rw [decide_eq_false h6]; decide)]
    · rw [if_neg (fun g => h5 ((unC u (by omega) e' (by omega)).mp g)), if_pos rfl, z_add, if_neg (by rw [Bool.and_eq_true]; exact fun g => h5 g.1)]) (fun k => by
    show bX1_firstExitFor_98_l2 n (z (bcn u : Int)) (z (u : Int)) m (lX1_firstExitFor_98_l2 n (z (bcn u : Int)) (z (u : Int)) m k) (z (M : Int)) = _
    unfold bX1_firstExitFor_98_l2
    rw [ht.2.1, if_neg (zge (by omega))]) M 0 n (by omega) (by omega)
  have hff : ff (fun e => un u e && decide (cf c (bcn u) e + rv c M N (ad u e) = rv c M N u)) M 0 = some e := by
    refine ff_at (Nat.zero_le _) (by omega) ?_ (fun t _ ht' => ?_)
    · try dsimp only
      rw [hue, erv e he hue, hy, hrvu, hxe, decide_eq_true]
      · rfl
      · show cf c (bcn u) e + y.1 = l + y.1
        unfold cf
        rw [hl]
    · try dsimp only
      by_cases h5 : un u t = true
      · rw [h5, Bool.true_and, decide_eq_false_iff_not, hrvu, erv t (by omega) h5]
        intro g
        cases h6 : c (bcn u) t with
        | none =>
          have : cf c (bcn u) t = 1000 := by unfold cf; rw [h6]
          omega
        | some l' =>
          cases h7 : bst c M (N - (bcn u + 1)) (bcn u + 1) (ad u t) with
          | none =>
            rw [h7] at g
            have g : cf c (bcn u) t + 1000 = x.1 := g
            omega
          | some y' =>
            rw [h7] at g
            have g : cf c (bcn u) t + y'.1 = x.1 := g
            have h8 := h3 t ht' (l' + y'.1, t :: y'.2) (by
              show cand u t (c (bcn u) t) _ = _
              rw [h6, h7]
              exact cand_mk h5)
            have h8 : x.1 < l' + y'.1 := h8
            have : cf c (bcn u) t = l' := by unfold cf; rw [h6]
            omega
      · rw [Bool.eq_false_iff.mpr h5, Bool.false_and]
  rw [hff] at S
  have S : lX1_firstExitFor_98_l2 n (z (bcn u : Int)) (z (u : Int)) m n (z 0) = some (.inr (z (e : Int))) := S
  unfold fX1_firstExitFor_98
  rw [S, obind, oS_r]
theorem c_exitFor (hc : ∀ k e l, c k e = some l → l ≤ 64) (hM : M ≤ 6) (hN : N ≤ M) (ht : tab m c M N) (hr : ∀ u', u' < 2 ^ M → m.1 100 u' = z (rv c M N u' : Int)) (hn : 100 ≤ n) {x : Pl} (hx : bst c M N 0 0 = some x) {j : Nat} (hj : j < N) : fX1_exitForSlot_98 n (z (j : Int)) m = some (z (x.2.getD j 0 : Int)) := by
  have p2 := p2_64 M (by omega)
  have key : ∀ (t k u q : Nat) (i3 : Int32) (x : Pl), k + t = j + 1 → t < q → bst c M (N - k) k u = some x → u < 2 ^ M → bcn u = k → lX1_exitForSlot_98_l7 n (z (j : Int)) m q (z (u : Int)) i3 (z (k : Int)) = some (if t = 0 then i3 else z (x.2.getD (j - k) 0 : Int)) := by
    intro t
    induction t with
    | zero =>
      intro k u q i3 x h1 h2 hx hu hb
      obtain ⟨q, rfl⟩ : ∃ j, q = j + 1 := ⟨q - 1, by omega⟩
      show bX1_exitForSlot_98_l7 n (z (j : Int)) m (lX1_exitForSlot_98_l7 n (z (j : Int)) m q) (z (u : Int)) i3 (z (k : Int)) = _
      unfold bX1_exitForSlot_98_l7
      rw [if_pos (zlt (by omega)), if_pos rfl]
    | succ t ih =>
      intro k u q i3 x h1 h2 hx hu hb
      obtain ⟨q, rfl⟩ : ∃ j, q = j + 1 := ⟨q - 1, by omega⟩
      subst hb
      obtain ⟨e, y, g1, g2, g3, g4, g5⟩ := c_firstExit hc hM hN ht hr hn hu (by omega) hx
      show bX1_exitForSlot_98_l7 n (z (j : Int)) m (lX1_exitForSlot_98_l7 n (z (j : Int)) m q) (z (u : Int)) i3 (z (bcn u : Int)) = _
      unfold bX1_exitForSlot_98_l7
      have i1 := ih (bcn u + 1) (ad u e) q (z (e : Int)) y (by omega) (by omega) g4 (ad_M M (by omega) u hu e g2 g3) (ad_ok u (by omega) e (by omega) g3).1.2
      rw [if_neg (zge (by omega)), if_pos (zlt (by omega)), g1, obind, if_neg (zne (by omega)), orC u (by omega) e (by omega) g3, z_add]
      have i1 : lX1_exitForSlot_98_l7 n (z (j : Int)) m q (z (ad u e : Int)) (z (e : Int)) (z ((bcn u : Int) + 1)) = _ := i1
      rw [i1, if_neg (Nat.succ_ne_zero t), g5]
      congr 1
      by_cases h0 : t = 0
      · rw [if_pos h0, show j - bcn u = 0 by omega]
        rfl
      · rw [if_neg h0, show j - bcn u = (j - (bcn u + 1)) + 1 by omega]
        rfl
  have F := key (j + 1) 0 0 n (z (-1)) x (by omega) (by omega) hx (by omega) rfl
  have F : lX1_exitForSlot_98_l7 n (z (j : Int)) m n (z 0) (z (-1)) (z 0) = _ := F
  unfold fX1_exitForSlot_98
  rw [F, obind, if_neg (by omega), Nat.sub_zero]
end CTAB

