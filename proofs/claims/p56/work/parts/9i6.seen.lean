/-! what the law sees is told by the state alone -/
/-- the class's side, its state, history and keep given -/
def CI (A : Ab) (H : List Ab) (S : Option Ab) (T : Nat) (m : pmI) : Prop := ∃ W, cInv m W ∧ wA W = A ∧ wH W = H ∧ wS W = S ∧ wT W = T
theorem CI.of {m : pmI} {W : Wd} (h : cInv m W) : CI (wA W) (wH W) (wS W) (wT W) m := ⟨W, h, rfl, rfl, rfl, rfl⟩
section SEEN
variable {n : Nat} {A : Ab}
theorem ix160 {k : Nat} (h : k < 160) {x : Int32} (hx : x = z (k : Int)) : okI x 160 = true ∧ Int32.toNatClampNeg x = k := by
  subst hx
  exact ⟨okI_z (by omega), z_nat (by omega)⟩
theorem s_dist {m : pmI} {W : Wd} (h : cInv m W) (hn : 200 ≤ n) {d e : Int} (hd : -2147483648 ≤ d ∧ d < 2147483648) (he : -2147483648 ≤ e ∧ e < 2147483648) : ∃ m' w, fL_exitDistance_0 n (z d) (z e) m = some ((if (qExit (wA W) d e).1 = 0 then z (qExit (wA W) d e).2 else if (qExit (wA W) d e).1 = 1 then z (-900001) else z (-900002)), m', w) ∧ w ≤ 1 ∧ cInv m' W := by
  obtain ⟨m', e1, -, i1⟩ := c_exitDistance (n := n) h (by omega) hd he
  unfold fL_exitDistance_0
  rw [e1, obind]
  rcases qExit_c (wA W) d e with q | q | q
  · rw [if_pos q, if_pos q]
    exact ⟨m', 0, rfl, by omega, i1⟩
  · rw [q]
    exact ⟨m', 1, rfl, by omega, i1⟩
  · rw [q]
    exact ⟨m', 1, rfl, by omega, i1⟩
theorem s_117 (hn : 200 ≤ n) {k nu : Nat} (hk : k < 8) (hnu : nu < 2000000) : ∀ (d e : Nat) (a : Nat → Int32), e + d ≤ 6 → ∃ a', ∀ q m H S T w, d < q → e + d = aEn A → CI A H S T m → ∃ m' w', lL_seen_0_l117 n (z (k : Int)) (z (nu : Int)) q (z (e : Int)) m w a = some (m', w', a') ∧ CI A H S T m' ∧ w' ≤ w + d
  | 0, e, a, h6 => by
    refine ⟨a, fun q m H S T w hq he hc => ?_⟩
    obtain ⟨W, h, rfl, rfl, rfl, rfl⟩ := hc
    obtain ⟨q, rfl⟩ := Nat.exists_eq_succ_of_ne_zero (show q ≠ 0 by omega)
    unfold lL_seen_0_l117 bL_seen_0_l117
    rw [y_exits h, obind, if_neg (zge (by omega))]
    exact ⟨m, w, rfl, CI.of h, by omega⟩
  | d + 1, e, a, h6 => by
    obtain ⟨x, hx⟩ : ∃ x, x = (if (qExit A (nu : Int) (e : Int)).1 = 0 then z (qExit A (nu : Int) (e : Int)).2 else if (qExit A (nu : Int) (e : Int)).1 = 1 then z (-900001) else z (-900002)) := ⟨_, rfl⟩
    obtain ⟨a', ih⟩ := s_117 hn hk hnu d (e + 1) (up1 a (50 + 6 * k + e) x) (by omega)
    refine ⟨a', fun q m H S T w hq he hc => ?_⟩
    obtain ⟨W, h, rfl, rfl, rfl, rfl⟩ := hc
    obtain ⟨q, rfl⟩ := Nat.exists_eq_succ_of_ne_zero (show q ≠ 0 by omega)
    obtain ⟨m1, w1, e1, hw, i1⟩ := s_dist (n := n) h hn (d := (nu : Int)) (e := (e : Int)) (by omega) (by omega)
    rw [← hx] at e1
    have hi := ix160 (k := 50 + 6 * k + e) (by omega) (x := z 50 + z 6 * z (k : Int) + z (e : Int)) (by rw [z_mul, z_add, z_add]; congr 1)
    obtain ⟨m2, w2, e2, c2, h2⟩ := ih q m1 _ _ _ (w + w1) (by omega) (by omega) (CI.of i1)
    refine ⟨m2, w2, ?_, c2, by omega⟩
    unfold lL_seen_0_l117 bL_seen_0_l117
    rw [y_exits h, obind, if_pos (zlt (by omega)), e1, obind]
    dsimp only
    rw [hi.1, if_pos rfl, hi.2, pmLet_eq, z_add]
    exact e2
theorem s_43 (hn : 200 ≤ n) (h8 : aC A ≤ 8) (hX : aX A ≤ 1000000) (hNu : ∀ i, i < aC A → aNu A i < aX A) (h6 : aEn A ≤ 6) : ∀ (d k : Nat) (a : Nat → Int32), k + d = aC A → ∃ a', ∀ q m H S T w, d < q → CI A H S T m → ∃ m' w', lL_seen_0_l43 n q (z (k : Int)) m w a = some (m', w', a') ∧ CI A H S T m' ∧ w' ≤ w + 7 * d
  | 0, k, a, hkd => by
    refine ⟨a, fun q m H S T w hq hc => ?_⟩
    obtain ⟨W, h, rfl, rfl, rfl, rfl⟩ := hc
    obtain ⟨q, rfl⟩ := Nat.exists_eq_succ_of_ne_zero (show q ≠ 0 by omega)
    unfold lL_seen_0_l43 bL_seen_0_l43
    rw [y_dancers h, obind, if_neg (zge (by omega))]
    exact ⟨m, w, rfl, CI.of h, by omega⟩
  | d + 1, k, a, hkd => by
    obtain ⟨i, hi, -, hr⟩ := byRank_ex (A := A) (t := k) (by omega)
    have hnu := hNu i hi
    obtain ⟨p, hp⟩ : ∃ p, p = (if aPa A i = -1 then z (-900001) else z (aPa A i)) := ⟨_, rfl⟩
    obtain ⟨a1, h1⟩ : ∃ a1, a1 = up1 (up1 (up1 (up1 a (6 + 5 * k) (z (aNu A i : Int))) (7 + 5 * k) (z 8 * z ((aCe A i / 8 : Nat) : Int) + z ((aCe A i % 8 : Nat) : Int))) (8 + 5 * k) (z (aNa A i : Int))) (9 + 5 * k) p := ⟨_, rfl⟩
    obtain ⟨a2, ih1⟩ := s_117 (A := A) hn (k := k) (nu := aNu A i) (by omega) (by omega) (aEn A) 0 a1 (by omega)
    obtain ⟨a', ih⟩ := s_43 hn h8 hX hNu h6 d (k + 1) a2 (by omega)
    refine ⟨a', fun q m H S T w hq hc => ?_⟩
    obtain ⟨W, h, rfl, rfl, rfl, rfl⟩ := hc
    obtain ⟨q, rfl⟩ := Nat.exists_eq_succ_of_ne_zero (show q ≠ 0 by omega)
    obtain ⟨wp, ep, hwp⟩ : ∃ wp, fL_partner_0 n (z (aNu (wA W) i : Int)) m = some (p, m, wp) ∧ wp ≤ 1 := by
      rw [y_partner h hn hi, hp]
      split
      · exact ⟨1, rfl, by omega⟩
      · exact ⟨0, rfl, by omega⟩
    have i6 := ix160 (k := 6 + 5 * k) (by omega) (x := z 6 + z 5 * z (k : Int)) (by rw [z_mul, z_add]; congr 1)
    have i7 := ix160 (k := 7 + 5 * k) (by omega) (x := z 7 + z 5 * z (k : Int)) (by rw [z_mul, z_add]; congr 1)
    have i8 := ix160 (k := 8 + 5 * k) (by omega) (x := z 8 + z 5 * z (k : Int)) (by rw [z_mul, z_add]; congr 1)
    have i9 := ix160 (k := 9 + 5 * k) (by omega) (x := z 9 + z 5 * z (k : Int)) (by rw [z_mul, z_add]; congr 1)
    obtain ⟨m1, w1, e1, c1, hw1⟩ := ih1 n m _ _ _ ((w + 0) + wp) (by omega) (by omega) (CI.of h)
    obtain ⟨m2, w2, e2, c2, hw2⟩ := ih q m1 _ _ _ w1 (by omega) c1
    refine ⟨m2, w2, ?_, c2, by omega⟩
    unfold lL_seen_0_l43 bL_seen_0_l43
    rw [y_dancers h, obind, if_pos (zlt (by omega)), y_byNails_at h hn hi hr (by omega), obind]
    dsimp only
    rw [i6.1, if_pos rfl, i6.2, pmLet_eq, y_row h hn hi, obind, oT_l, y_column h hn hi, obind, oT_l, i7.1, if_pos rfl, i7.2, pmLet_eq, y_nails h hn hi, obind, oT_l, i8.1, if_pos rfl, i8.2, pmLet_eq, ep, obind]
    dsimp only
    rw [i9.1, if_pos rfl, i9.2, pmLet_eq, ← h1, show z 0 = z ((0 : Nat) : Int) from rfl, e1, obind]
    dsimp only
    rw [z_add]
    exact e2
theorem k_figLen {m : pmI} {W : Wd} (h : cInv m W) {g : Nat} (hg6 : g < 6) : fX8_figureLength (z (g : Int)) m = some (.inl (z (aFl (wA W) g : Int)), m) := by
  unfold fX8_figureLength
  have hg : (0 : Int) ≤ (g : Int) ∧ (g : Int) < 6 := by omega
  rw [c_figF (by omega), obind, if_pos (figB_t hg), tf0, obind, oT_l, c_movesIn h.1 hg6, obind]
theorem s_159 (hn : 200 ≤ n) : ∀ (d g : Nat) (a : Nat → Int32), g + d = 6 → ∃ a', ∀ q m H S T w, d < q → CI A H S T m → ∃ m', lL_seen_0_l159 n q (z (g : Int)) m w a = some (m', w, a') ∧ CI A H S T m'
  | 0, g, a, hg => by
    refine ⟨a, fun q m H S T w hq hc => ?_⟩
    obtain ⟨q, rfl⟩ := Nat.exists_eq_succ_of_ne_zero (show q ≠ 0 by omega)
    unfold lL_seen_0_l159 bL_seen_0_l159
    rw [if_neg (zge (by omega))]
    exact ⟨m, rfl, hc⟩
  | d + 1, g, a, hg => by
    obtain ⟨a1, h1⟩ : ∃ a1, a1 = up1 (up1 a (100 + 2 * g) (z ((figL A g).1 : Int))) (101 + 2 * g) (z (aFl A g : Int)) := ⟨_, rfl⟩
    obtain ⟨a', ih⟩ := s_159 hn d (g + 1) a1 (by omega)
    refine ⟨a', fun q m H S T w hq hc => ?_⟩
    obtain ⟨W, h, rfl, rfl, rfl, rfl⟩ := hc
    obtain ⟨q, rfl⟩ := Nat.exists_eq_succ_of_ne_zero (show q ≠ 0 by omega)
    have i0 := ix160 (k := 100 + 2 * g) (by omega) (x := z 100 + z 2 * z (g : Int)) (by rw [z_mul, z_add]; congr 1)
    have i1 := ix160 (k := 101 + 2 * g) (by omega) (x := z 101 + z 2 * z (g : Int)) (by rw [z_mul, z_add]; congr 1)
    obtain ⟨m1, e1, c1⟩ := k_writeFigure (n := n) h hn (g := g) (by omega)
    obtain ⟨m2, e2, c2⟩ := ih q m1 (wH W) (wS W) (wT W) w (by omega) ⟨_, c1, rfl, rfl, rfl, rfl⟩
    refine ⟨m2, ?_, c2⟩
    unfold lL_seen_0_l159 bL_seen_0_l159
    rw [if_pos (zlt (by omega)), e1, obind, oT_l, i0.1, if_pos rfl, i0.2, pmLet_eq, k_figLen c1 (by omega), obind, oT_l, i1.1, if_pos rfl, i1.2, pmLet_eq, z_add]
    rw [h1] at e2
    exact e2
theorem s_199 (hn : 200 ≤ n) : ∀ (d c : Nat) (a : Nat → Int32), c + d = 64 → ∃ a', ∀ q m H S T w, d < q → CI A H S T m → ∃ m', lL_seen_0_l199 n q (z (c : Int)) m w a = some (m', w, a') ∧ CI A H S T m'
  | 0, c, a, hg => by
    refine ⟨a, fun q m H S T w hq hc => ?_⟩
    obtain ⟨q, rfl⟩ := Nat.exists_eq_succ_of_ne_zero (show q ≠ 0 by omega)
    unfold lL_seen_0_l199 bL_seen_0_l199
    rw [if_neg (zge (by omega))]
    exact ⟨m, rfl, hc⟩
  | d + 1, c, a, hg => by
    obtain ⟨x, hx⟩ : ∃ x, x = (z 3 * a (112 + c % 30) + (if aP A c = true ∨ ¬ spot A (c : Int) = none then z 0 else z 1)) + (if 0 < szA A c then z 0 else z 2) := ⟨_, rfl⟩
    obtain ⟨a', ih⟩ := s_199 hn d (c + 1) (up1 a (112 + c % 30) x) (by omega)
    refine ⟨a', fun q m H S T w hq hc => ?_⟩
    obtain ⟨W, h, rfl, rfl, rfl, rfl⟩ := hc
    obtain ⟨q, rfl⟩ := Nat.exists_eq_succ_of_ne_zero (show q ≠ 0 by omega)
    have hc64 : c < 64 := by omega
    have i0 := ix160 (k := 112 + c % 30) (by omega) (x := z 112 + (z (c : Int) - z (c : Int) / z 30 * z 30)) (by rw [z_md (b := 30) (b' := 30) rfl (by omega), z_add]; rfl)
    obtain ⟨m1, e1, c1⟩ := y_size (n := n) h hn hc64
    obtain ⟨m2, e2, c2⟩ := ih q m1 (wH W) (wS W) (wT W) w (by omega) ⟨_, c1, rfl, rfl, rfl, rfl⟩
    refine ⟨m2, ?_, c2⟩
    have hj : ∀ s3, s3 = (if aP (wA W) c = true ∨ ¬ spot (wA W) (c : Int) = none then z 0 else z 1) → jL_seen_0_244 n (lL_seen_0_l199 n q) (z (c : Int)) (z 112 + (z (c : Int) - z (c : Int) / z 30 * z 30)) (z 3 * a (112 + c % 30)) s3 m w a = some (m2, w, a') := by
      intro s3 hs3
      subst hs3
      unfold jL_seen_0_244
      have hs := szA_le (A := wA W) (c := c)
      rw [z_md8 hc64, z_div8 c hc64, e1, obind, oT_l]
      by_cases h0 : 0 < szA (wA W) c
      · rw [if_pos h0] at hx
        rw [if_pos (show z 0 < z (szA (wA W) c : Int) from zlt (by omega)), i0.1, if_pos rfl, i0.2, pmLet_eq, z_add]
        rw [hx] at e2
        exact e2
      · rw [if_neg h0] at hx
        rw [if_neg (show ¬ z 0 < z (szA (wA W) c : Int) from zge (by omega)), i0.1, if_pos rfl, i0.2, pmLet_eq, z_add]
        rw [hx] at e2
        exact e2
    unfold lL_seen_0_l199 bL_seen_0_l199
    rw [if_pos (zlt (by omega)), i0.1, if_pos rfl, i0.2, z_md8 hc64, z_div8 c hc64, y_free h hn hc64, obind, oT_l]
    by_cases hf : aP (wA W) c = true ∨ ¬ spot (wA W) (c : Int) = none
    · rw [if_pos hf] at hj ⊢
      rw [if_pos rfl]
      exact hj _ rfl
    · rw [if_neg hf] at hj ⊢
      rw [if_neg (by decide)]
      exact hj _ rfl
/-- what the law sees of a state -/
theorem s_all (hn : 200 ≤ n) (h8 : aC A ≤ 8) (hX : aX A ≤ 1000000) (hNu : ∀ i, i < aC A → aNu A i < aX A) (h6 : aEn A ≤ 6) : ∃ a', ∀ m H S T, CI A H S T m → ∃ m' w', fL_seen n m (fun _ => 0) = some (a', m', w') ∧ CI A H S T m' ∧ w' ≤ 56 := by
  obtain ⟨a1, h1⟩ : ∃ a1, a1 = up1 (up1 (up1 (up1 (up1 (fun _ => 0) 0 (z (aC A : Int))) 1 (z (aEn A : Int))) 2 (z ((cnt (lead (aP A)) 64 : Nat) : Int))) 3 (aLo A)) 4 (aLo A) := ⟨_, rfl⟩
  obtain ⟨a2, k1⟩ := s_43 (n := n) hn h8 hX hNu h6 (aC A) 0 a1 (Nat.zero_add _)
  obtain ⟨a3, k2⟩ := s_159 (n := n) (A := A) hn 6 0 a2 rfl
  obtain ⟨a4, k3⟩ := s_199 (n := n) (A := A) hn 64 0 a3 rfl
  refine ⟨a4, fun m H S T hc => ?_⟩
  obtain ⟨W, h, rfl, rfl, rfl, rfl⟩ := hc
  obtain ⟨m1, e1, c1⟩ := y_areas (n := n) h hn
  obtain ⟨m2, w2, e2, c2, hw⟩ := k1 n m1 _ _ _ 0 (by omega) (CI.of c1)
  obtain ⟨m3, e3, c3⟩ := k2 n m2 _ _ _ w2 (by omega) c2
  obtain ⟨m4, e4, c4⟩ := k3 n m3 _ _ _ w2 (by omega) c3
  refine ⟨m4, w2, ?_, c4, by omega⟩
  unfold fL_seen
  rw [y_dancers h, obind, if_pos (by decide), pmLet_eq, y_exits h, obind, if_pos (by decide), pmLet_eq, e1, obind]
  dsimp only
  rw [if_pos (by decide), pmLet_eq, y_lost c1, obind, if_pos (by decide), pmLet_eq, y_lostP c1 hn, obind, if_pos (by decide), pmLet_eq]
  show (lL_seen_0_l43 n n (z 0) m1 0 (up1 (up1 (up1 (up1 (up1 (fun _ => 0) 0 (z (aC (wA W) : Int))) 1 (z (aEn (wA W) : Int))) 2 (z ((cnt (lead (aP (wA W))) 64 : Nat) : Int))) 3 (aLo (wA W))) 4 (aLo (wA W)))).bind _ = _
  rw [← h1, show z 0 = z ((0 : Nat) : Int) from rfl, e2, obind]
  dsimp only
  rw [e3, obind]
  dsimp only
  rw [e4, obind]
end SEEN
