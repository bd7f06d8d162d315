/-! the law's isWell: dancer by dancer -/
section WEL1
variable {n : Nat} {m : pmI} {W : Wd}
theorem spot_at {A : Ab} (w : wfA A) {j : Nat} (hj : j < aC A) : spot A (aCe A j : Int) = some j := by
  unfold spot
  refine ff_at (Nat.zero_le _) (by omega) (decide_eq_true rfl) (fun t _ ht => decide_eq_false (fun h => ?_))
  exact (w.2.2.2.1 t j ht hj).2 (by omega)
theorem spot_ce {A : Ab} {c j : Nat} (h : spot A (c : Int) = some j) : j < aC A ∧ aCe A j = c := by
  obtain ⟨-, h2, h3, -⟩ := ff_some h
  have := of_decide_eq_true h3
  exact ⟨by omega, by omega⟩
theorem y_on_from (h : cInv m W) (hn : 200 ≤ n) {c : Nat} (hc : c < 64) : ∀ (d k q w : Nat), k + d = aC (wA W) → d < q → (∀ i, i < aC (wA W) → rnk (wA W) i < k → ¬ aCe (wA W) i = c) →
    lL_on_0_l2 n (z ((c % 8 : Nat) : Int)) (z ((c / 8 : Nat) : Int)) q (z (k : Int)) m w = some (match spot (wA W) (c : Int) with | some j => .inr (z (aNu (wA W) j : Int), m, w) | none => .inl (m, w))
  | 0, k, q + 1, w, hk, _, hno => by
    have w1 := h.2.1.1
    show bL_on_0_l2 n _ _ (lL_on_0_l2 n _ _ q) (z (k : Int)) m w = _
    unfold bL_on_0_l2
    rw [y_dancers h, obind, if_neg (zge (by omega))]
    cases hs : spot (wA W) (c : Int) with
    | none => rfl
    | some j =>
      obtain ⟨j1, j2⟩ := spot_ce hs
      exact absurd j2 (hno j j1 (by have := rnk_bd j1; omega))
  | d + 1, k, q + 1, w, hk, hq, hno => by
    have w1 := h.2.1.1
    have hk8 : k < aC (wA W) := by omega
    obtain ⟨i, hi, hr, hb⟩ := byRank_ex (A := wA W) hk8
    have hci := (h.2.1.2.2.1 i hi).2.1
    show bL_on_0_l2 n _ _ (lL_on_0_l2 n _ _ q) (z (k : Int)) m w = _
    unfold bL_on_0_l2
    rw [y_dancers h, obind, if_pos (zlt (by omega)), y_byNails_at h hn hi hb hk8, obind]
    dsimp only
    have next : ¬ aCe (wA W) i = c → lL_on_0_l2 n (z ((c % 8 : Nat) : Int)) (z ((c / 8 : Nat) : Int)) q (z (k : Int) + z 1) m (w + 0) = some (match spot (wA W) (c : Int) with | some j => .inr (z (aNu (wA W) j : Int), m, w) | none => .inl (m, w)) := fun hne => by
      rw [z_add]
      exact y_on_from h hn hc d (k + 1) q w (by omega) (by omega) (fun t ht1 ht2 => by
        by_cases e : rnk (wA W) t = k
        · rw [rnk_inj ht1 hi (e.trans hr.symm)]; exact hne
        · exact hno t ht1 (by omega))
    rw [y_column h hn hi, obind, oT_l]
    by_cases e1 : aCe (wA W) i % 8 = c % 8
    · rw [if_pos (show z ((aCe (wA W) i % 8 : Nat) : Int) = z ((c % 8 : Nat) : Int) by rw [e1]), y_row h hn hi, obind, oT_l]
      by_cases e2 : aCe (wA W) i / 8 = c / 8
      · have e : aCe (wA W) i = c := by omega
        rw [if_pos (show z ((aCe (wA W) i / 8 : Nat) : Int) = z ((c / 8 : Nat) : Int) by rw [e2]), ← e, spot_at h.2.1 hi]
        rfl
      · rw [if_neg (zne (by omega))]
        exact next (fun e => e2 (by rw [e]))
    · rw [if_neg (zne (by omega))]
      exact next (fun e => e1 (by rw [e]))
/-- who stands on a cell -/
theorem y_on (h : cInv m W) (hn : 200 ≤ n) {c : Nat} (hc : c < 64) : fL_on_0 n (z ((c % 8 : Nat) : Int)) (z ((c / 8 : Nat) : Int)) m = some (match spot (wA W) (c : Int) with | some j => (z (aNu (wA W) j : Int), m, 0) | none => (z (-1), m, 0)) := by
  have w1 := h.2.1.1
  unfold fL_on_0
  rw [show z 0 = z ((0 : Nat) : Int) from rfl, y_on_from h hn hc (aC (wA W)) 0 n 0 (by omega) (by omega) (fun i _ hi => absurd hi (Nat.not_lt_zero _)), obind]
  cases spot (wA W) (c : Int) with
  | none => rfl
  | some j => rfl
theorem szA_pos {A : Ab} {c : Nat} (hc : c < 64) (hp : aP A c = false) : 1 ≤ szA A c := by
  unfold szA
  rw [hp, if_neg (by decide)]
  exact cnt_pos (P := K (aP A) c) K_rf hc
theorem szA_le {A : Ab} {c : Nat} : szA A c ≤ 64 := by
  unfold szA
  split
  · omega
  · exact cnt_le _ _
theorem y_isProp (h : cInv m W) (hn : 200 ≤ n) {c : Nat} (hc : c < 64) : ∃ m', fL_isProp_0 n (z ((c % 8 : Nat) : Int)) (z ((c / 8 : Nat) : Int)) m = some ((if aP (wA W) c = true then z 1 else z 0), m', 0) ∧ cInv m' W := by
  obtain ⟨m', e, i⟩ := y_size h hn hc
  have hle := szA_le (A := wA W) (c := c)
  unfold fL_isProp_0
  rw [e, obind, oT_l]
  by_cases hp : aP (wA W) c = true
  · rw [if_pos (show z (szA (wA W) c : Int) = z 0 by unfold szA; rw [if_pos hp]; rfl), if_pos hp]
    exact ⟨m', rfl, i⟩
  · have := szA_pos hc (Bool.eq_false_iff.mpr hp)
    rw [if_neg (zne (by omega)), if_neg hp]
    exact ⟨m', rfl, i⟩
theorem y_own (h : cInv m W) (hn : 200 ≤ n) {j : Nat} (hj : j < aC (wA W)) : ∃ m', fL_distance_0 n (z (aNu (wA W) j : Int)) (z ((aCe (wA W) j % 8 : Nat) : Int)) (z ((aCe (wA W) j / 8 : Nat) : Int)) m = some (z 0, m', 0) ∧ cInv m' W := by
  have hcj := (h.2.1.2.2.1 j hj).2.1
  obtain ⟨m', t, w, e, i, -, ht⟩ := y_dist h hn (d := (aNu (wA W) j : Int)) (x := ((aCe (wA W) j % 8 : Nat) : Int)) (y := ((aCe (wA W) j / 8 : Nat) : Int)) (y_nu h hj) (by omega) (by omega)
  have eq : qDist (wA W) (aNu (wA W) j : Int) ((aCe (wA W) j % 8 : Nat) : Int) ((aCe (wA W) j / 8 : Nat) : Int) = (0, 0) := by
    unfold qDist
    rw [slot_at h.2.1 hj]
    dsimp only
    rw [if_pos (isCb_t (isC_of hcj)), cxy, Int.toNat_natCast, show dst (clo (wA W) true) (aCe (wA W) j) (aCe (wA W) j) = some 0 from ff_at (Nat.le_refl _) (by omega) (R_z.mpr rfl) (fun t _ ht => absurd ht (Nat.not_lt_zero _))]
    rfl
  rw [eq] at ht
  obtain ⟨t1, t2⟩ := ht rfl
  rw [t1, t2] at e
  exact ⟨m', e, i⟩
theorem mir_mod {c : Nat} : mir c % 8 = 7 - c % 8 := by
  unfold mir
  omega
theorem mir_div {c : Nat} (hc : c < 64) : mir c / 8 = c / 8 := by
  unfold mir
  omega
/-- what counts at a rank -/
def pR (A : Ab) (t : Nat) : Nat := nsum (fun i => if rnk A i = t then (if aPa A i = -1 then 0 else 1) else 0) (aC A)
def nR (A : Ab) (t : Nat) : Nat := nsum (fun i => if rnk A i = t then aNa A i else 0) (aC A)
theorem z_and1 {b : Nat} (hb : b ≤ 1) : z (b : Int) &&& z 1 = z (b : Int) := by
  rcases (show b = 0 ∨ b = 1 by omega) with rfl | rfl <;> rfl
theorem z_and0 {b : Nat} (hb : b ≤ 1) : z (b : Int) &&& z 0 = z 0 := by
  rcases (show b = 0 ∨ b = 1 by omega) with rfl | rfl <;> rfl
abbrev lWel : Type := Int32 → Int32 → Int32 → Int32 → pmI → Nat → Option ((Int32 × Int32 × Int32 × pmI × Nat) ⊕ (Int32 × pmI × Nat))
/-- one dancer: from the mirror cell's look on -/
theorem well_92 (h : cInv m W) (hn : 200 ≤ n) {self : lWel} {p s k w : Nat} {b0 b1 : Int32} {i : Nat} (hi : i < aC (wA W)) (x8 : Int32) (hx8 : x8 = if aPa (wA W) i = -1 then z (-900001) else z (aPa (wA W) i)) :
    ∃ m' w', jL_isWell_0_92 n self (z (p : Int)) (z (s : Int)) (z (k : Int)) (z (aNu (wA W) i : Int)) (z ((aCe (wA W) i % 8 : Nat) : Int)) (z ((aCe (wA W) i / 8 : Nat) : Int)) x8 b0 b1 m w = self (z (p : Int)) (z (s : Int)) (b0 &&& b1) (z (k : Int) + z 1) m' w' ∧ cInv m' W ∧ w' = w := by
  have hw := h.2.1.2.2.1 i hi
  have hnu := hw.1
  have hX := h.2.1.2.1
  have rj := pa_rg h.2.1 hi
  obtain ⟨m2, e2, i2⟩ := y_isProp h hn hw.2.1
  obtain ⟨m3, e3, i3⟩ := y_own i2 hn hi
  unfold jL_isWell_0_92
  rw [y_present h hn hi, obind, if_neg z10, y_nails h hn hi, obind, oT_l, if_neg (zge (by omega)), y_nails h hn hi, obind, oT_l, if_neg (zge (by omega)), e2, obind]
  dsimp only
  rw [if_pos (show (if aP (wA W) (aCe (wA W) i) = true then z 1 else z 0) = z 0 by rw [hw.2.2.2, if_neg (by decide)]), y_free i2 hn hw.2.1, obind, oT_l, if_pos (show (if aP (wA W) (aCe (wA W) i) = true ∨ ¬ spot (wA W) (aCe (wA W) i) = none then z 0 else z 1) = z 0 from if_pos (Or.inr (by rw [spot_at h.2.1 hi]; exact Option.some_ne_none i))), y_on i2 hn hw.2.1, obind, spot_at h.2.1 hi]
  dsimp only
  rw [if_pos rfl]
  have fin : ∀ w9, jL_isWell_0_181 n self (z (p : Int)) (z (s : Int)) (b0 &&& b1) (z (k : Int)) (z (aNu (wA W) i : Int)) (z ((aCe (wA W) i % 8 : Nat) : Int)) (z ((aCe (wA W) i / 8 : Nat) : Int)) m2 w9 = self (z (p : Int)) (z (s : Int)) (b0 &&& b1) (z (k : Int) + z 1) m3 (w9 + 0) := fun w9 => by
    unfold jL_isWell_0_181
    rw [e3, obind]
    dsimp only
    rw [if_pos rfl]
  by_cases e : aPa (wA W) i = -1
  · rw [if_pos e] at hx8
    rw [hx8, if_pos (zlt (by omega)), fin]
    exact ⟨m3, _, rfl, i3, rfl⟩
  · rw [if_neg e] at hx8
    obtain ⟨j, j1, j2, j3, j4⟩ := slot_pa h.2.1 hi e
    obtain ⟨j5, j6⟩ := slot_lt j3
    have hne : ¬ aNu (wA W) j = aNu (wA W) i := fun he => by
      rcases Nat.lt_or_ge j i with g | g
      · have := (h.2.1.2.2.2.1 j i g hi).1; omega
      · have := (h.2.1.2.2.2.1 i j (by omega) j1).1; omega
    rw [hx8, if_neg (zge (by omega)), if_neg (zne (by omega)), ← j6, y_partner i2 hn j1, if_neg (by rw [j4]; omega), obind]
    dsimp only
    rw [if_pos (show z (aPa (wA W) j) = z (aNu (wA W) i : Int) by rw [j4]), fin]
    exact ⟨m3, _, rfl, i3, rfl⟩
/-- all the dancers -/
theorem well_l9 (hn : 200 ≤ n) : ∀ (d k q p s b w : Nat) (m : pmI), cInv m W → k + d = aC (wA W) → d < q → b ≤ 1 → p ≤ k → s ≤ 20 * k →
    ∃ (P S b' : Nat) (m' : pmI) (w' : Nat), lL_isWell_0_l9 n q (z (p : Int)) (z (s : Int)) (z (b : Int)) (z (k : Int)) m w = some (.inl (z (P : Int), z (S : Int), z (b' : Int), m', w')) ∧ cInv m' W ∧ b' ≤ 1 ∧ (b' = 1 ↔ b = 1 ∧ ∀ i, i < aC (wA W) → k ≤ rnk (wA W) i → ¬ spot (wA W) (mir (aCe (wA W) i) : Int) = none) ∧
      P + nsum (pR (wA W)) k = p + nsum (pR (wA W)) (aC (wA W)) ∧ S + nsum (nR (wA W)) k = s + nsum (nR (wA W)) (aC (wA W)) ∧ w' ≤ w + d
  | 0, k, q + 1, p, s, b, w, m, h, hk, _, hb, hp, hs => by
    have w1 := h.2.1.1
    refine ⟨p, s, b, m, w, ?_, h, hb, ⟨fun e => ⟨e, fun i hi hr => ?_⟩, fun e => e.1⟩, by rw [show k = aC (wA W) by omega], by rw [show k = aC (wA W) by omega], by omega⟩
    · show bL_isWell_0_l9 n (lL_isWell_0_l9 n q) _ _ _ _ _ _ = _
      unfold bL_isWell_0_l9
      rw [y_dancers h, obind, if_neg (zge (by omega))]
    · have := rnk_bd hi
      omega
  | d + 1, k, q + 1, p, s, b, w, m, h, hk, hq, hb, hp, hs => by
    have w1 := h.2.1.1
    have hk8 : k < aC (wA W) := by omega
    obtain ⟨i, hi, hr, hby⟩ := byRank_ex (A := wA W) hk8
    have hw := h.2.1.2.2.1 i hi
    have rj := pa_rg h.2.1 hi
    have pk : pR (wA W) k = if aPa (wA W) i = -1 then 0 else 1 := rank_one (fun i => if aPa (wA W) i = -1 then 0 else 1) hi hr
    have nk : nR (wA W) k = aNa (wA W) i := rank_one (aNa (wA W)) hi hr
    -- behind the partner
    have step : ∀ (x8 v : Int32) (dp w9 : Nat), dp ≤ 1 → pR (wA W) k = dp → w9 ≤ w + 1 → v = z (dp : Int) → (x8 = if aPa (wA W) i = -1 then z (-900001) else z (aPa (wA W) i)) →
        ∃ (P S b' : Nat) (m' : pmI) (w' : Nat), jL_isWell_0_70 n (lL_isWell_0_l9 n q) (z (s : Int) + z (aNa (wA W) i : Int)) (z (b : Int)) (z (k : Int)) (z (aNu (wA W) i : Int)) (z ((aCe (wA W) i % 8 : Nat) : Int)) (z ((aCe (wA W) i / 8 : Nat) : Int)) x8 (z (p : Int)) v m w9 = some (.inl (z (P : Int), z (S : Int), z (b' : Int), m', w')) ∧ cInv m' W ∧ b' ≤ 1 ∧ (b' = 1 ↔ b = 1 ∧ ∀ i, i < aC (wA W) → k ≤ rnk (wA W) i → ¬ spot (wA W) (mir (aCe (wA W) i) : Int) = none) ∧
          P + nsum (pR (wA W)) k = p + nsum (pR (wA W)) (aC (wA W)) ∧ S + nsum (nR (wA W)) k = s + nsum (nR (wA W)) (aC (wA W)) ∧ w' ≤ w + (d + 1) := by
      intro x8 v dp w9 hdp hpk hw9 hv hx8
      have on := y_on h hn (mir_lt hw.2.1)
      rw [mir_mod, mir_div hw.2.1] at on
      unfold jL_isWell_0_70
      rw [show z 7 - z ((aCe (wA W) i % 8 : Nat) : Int) = z ((7 - aCe (wA W) i % 8 : Nat) : Int) by rw [z_sub]; congr 1; omega, on, obind, z_add, hv, z_add]
      have bit : ∀ (b2 : Nat), b2 ≤ 1 → (b2 = 1 ↔ ¬ spot (wA W) (mir (aCe (wA W) i) : Int) = none) → ∃ (P S b' : Nat) (m' : pmI) (w' : Nat), jL_isWell_0_92 n (lL_isWell_0_l9 n q) (z ((p + dp : Nat) : Int)) (z ((s + aNa (wA W) i : Nat) : Int)) (z (k : Int)) (z (aNu (wA W) i : Int)) (z ((aCe (wA W) i % 8 : Nat) : Int)) (z ((aCe (wA W) i / 8 : Nat) : Int)) x8 (z (b : Int)) (z (b2 : Int)) m (w9 + 0) = some (.inl (z (P : Int), z (S : Int), z (b' : Int), m', w')) ∧ cInv m' W ∧ b' ≤ 1 ∧ (b' = 1 ↔ b = 1 ∧ ∀ i, i < aC (wA W) → k ≤ rnk (wA W) i → ¬ spot (wA W) (mir (aCe (wA W) i) : Int) = none) ∧
          P + nsum (pR (wA W)) k = p + nsum (pR (wA W)) (aC (wA W)) ∧ S + nsum (nR (wA W)) k = s + nsum (nR (wA W)) (aC (wA W)) ∧ w' ≤ w + (d + 1) := by
        intro b2 hb2 hbi
        obtain ⟨m3, w3, e3, i3, hw3⟩ := well_92 h hn (self := lL_isWell_0_l9 n q) (p := p + dp) (s := s + aNa (wA W) i) (k := k) (w := w9 + 0) (b0 := z (b : Int)) (b1 := z (b2 : Int)) hi x8 hx8
        have hand : z (b : Int) &&& z (b2 : Int) = z ((if b2 = 1 then b else 0 : Nat) : Int) := by
          rcases (show b2 = 0 ∨ b2 = 1 by omega) with rfl | rfl
          · exact z_and0 hb
          · exact z_and1 hb
        rw [e3, hand, z_add]
        obtain ⟨P, S, b', m', w', f1, f2, f3, f4, f5, f6, f7⟩ := well_l9 hn d (k + 1) q (p + dp) (s + aNa (wA W) i) (if b2 = 1 then b else 0) w3 m3 i3 (by omega) (by omega) (by split <;> omega) (by omega) (by have := hw.2.2.1; omega)
        refine ⟨P, S, b', m', w', f1, f2, f3, ?_, ?_, ?_, by omega⟩
        · rw [f4]
          constructor
          · rintro ⟨g1, g2⟩
            have hb21 : b2 = 1 := by
              rcases (show b2 = 0 ∨ b2 = 1 by omega) with rfl | rfl
              · rw [if_neg (by decide)] at g1; cases g1
              · rfl
            rw [if_pos hb21] at g1
            refine ⟨g1, fun t ht1 ht2 => ?_⟩
            by_cases e : rnk (wA W) t = k
            · rw [rnk_inj ht1 hi (e.trans hr.symm)]; exact hbi.mp hb21
            · exact g2 t ht1 (by omega)
          · rintro ⟨g1, g2⟩
            have hb21 := hbi.mpr (g2 i hi (by omega))
            rw [if_pos hb21]
            exact ⟨g1, fun t ht1 ht2 => g2 t ht1 (by omega)⟩
        · rw [nsum_s, hpk] at f5
          omega
        · rw [nsum_s, nk] at f6
          omega
      cases hsp : spot (wA W) (mir (aCe (wA W) i) : Int) with
      | none =>
        dsimp only
        rw [if_pos (zlt (by omega))]
        obtain ⟨P, S, b', m', w', f⟩ := bit 0 (by omega) (by rw [hsp]; decide)
        rw [show z 0 = z ((0 : Nat) : Int) from rfl]
        exact ⟨P, S, b', m', w', f⟩
      | some j =>
        have hj := spot_ce hsp
        have := (h.2.1.2.2.1 j hj.1).1
        have := h.2.1.2.1
        dsimp only
        rw [if_neg (zge (by omega))]
        obtain ⟨P, S, b', m', w', f⟩ := bit 1 (by omega) (by rw [hsp]; exact ⟨fun _ => Option.some_ne_none j, fun _ => rfl⟩)
        rw [show z 1 = z ((1 : Nat) : Int) from rfl]
        exact ⟨P, S, b', m', w', f⟩
    have unf : lL_isWell_0_l9 n (q + 1) (z (p : Int)) (z (s : Int)) (z (b : Int)) (z (k : Int)) m w = bL_isWell_0_l9 n (lL_isWell_0_l9 n q) (z (p : Int)) (z (s : Int)) (z (b : Int)) (z (k : Int)) m w := rfl
    rw [unf]
    unfold bL_isWell_0_l9
    rw [y_dancers h, obind, if_pos (zlt (by omega)), y_byNails_at h hn hi hby hk8, obind]
    dsimp only
    rw [y_column h hn hi, obind, oT_l, y_row h hn hi, obind, oT_l, y_partner h hn hi, obind]
    by_cases e : aPa (wA W) i = -1
    · rw [if_pos e]
      dsimp only
      rw [y_nails h hn hi, obind, oT_l, if_pos (zlt (by omega))]
      exact step _ _ 0 _ (by omega) (by rw [pk, if_pos e]) (by omega) rfl (by rw [if_pos e])
    · rw [if_neg e]
      dsimp only
      rw [y_nails h hn hi, obind, oT_l, if_neg (zge (by omega))]
      exact step _ _ 1 _ (by omega) (by rw [pk, if_neg e]) (by omega) rfl (by rw [if_neg e])
end WEL1
