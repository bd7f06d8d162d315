/-! what stays sound -/
theorem nsum_congr {f g : Nat → Nat} : ∀ {n : Nat}, (∀ k, k < n → f k = g k) → nsum f n = nsum g n
  | 0, _ => rfl
  | n + 1, h => by
    unfold nsum
    rw [nsum_congr (fun k hk => h k (by omega)), h n (by omega)]
theorem nsum_sh {f : Nat → Nat} {k : Nat} : ∀ {n : Nat}, k < n + 1 → nsum (sh k f) n + f k = nsum f (n + 1)
  | 0, h => by
    obtain rfl : k = 0 := by omega
    show 0 + f 0 = 0 + f 0
    rfl
  | n + 1, h => by
    show nsum (sh k f) n + sh k f n + f k = nsum f (n + 1) + f (n + 1)
    rcases Nat.lt_or_ge k (n + 1) with h1 | h1
    · have ih := nsum_sh (f := f) (k := k) (n := n) h1
      have e : sh k f n = f (n + 1) := if_neg (by omega)
      omega
    · obtain rfl : k = n + 1 := by omega
      have e : sh (n + 1) f n = f n := if_pos (by omega)
      rw [nsum_congr (f := sh (n + 1) f) (g := f) (fun i hi => show sh (n + 1) f i = f i from if_pos (by omega)), e]
      rfl
theorem nsum_set {f : Nat → Nat} {k v : Nat} : ∀ {n : Nat}, k < n → nsum (fun i => if i = k then v else f i) n + f k = nsum f n + v
  | n + 1, h => by
    show nsum _ n + (if n = k then v else f n) + f k = nsum f n + f n + v
    rcases Nat.lt_or_ge k n with h1 | h1
    · have ih := nsum_set (f := f) (k := k) (v := v) (n := n) h1
      rw [if_neg (show ¬ n = k by omega)]
      omega
    · obtain rfl : n = k := by omega
      rw [nsum_congr (g := f) (fun i hi => if_neg (by omega)), if_pos rfl]
      omega
section WF
variable {A : Ab}
theorem wf_prop (w : wfA A) {c : Nat} (hc : c < 64) (hp : aP A c = false) (hs : spot A c = none) (hn : ¬ cnt (aP A) 64 = 20) : wfA (uP A (fun k => if k = c then true else aP A k)) := by
  obtain ⟨w1, w2, w3, w4, w5, w6, w7, w8, w9, w10, w11⟩ := w
  refine ⟨w1, w2, fun k hk => ⟨(w3 k hk).1, (w3 k hk).2.1, (w3 k hk).2.2.1, ?_⟩, w4, w5, w6, w7, w8, w9, ?_, w11⟩
  · show (if aCe A k = c then true else aP A (aCe A k)) = false
    have hk' : k < aC A := hk
    have := ff_none hs k (Nat.zero_le _) (by omega)
    rw [if_neg (by have := of_decide_eq_false this; omega)]
    exact (w3 k hk).2.2.2
  · show cnt (fun k => if k = c then true else aP A k) 64 ≤ 20
    rw [cnt_set hp hc]
    omega
theorem wf_take (w : wfA A) {c : Nat} (hc : c < 64) (hp : aP A c = true) : wfA (uP A (fun k => if k = c then false else aP A k)) := by
  obtain ⟨w1, w2, w3, w4, w5, w6, w7, w8, w9, w10, w11⟩ := w
  refine ⟨w1, w2, fun k hk => ⟨(w3 k hk).1, (w3 k hk).2.1, (w3 k hk).2.2.1, ?_⟩, w4, w5, w6, w7, w8, w9, ?_, w11⟩
  · show (if aCe A k = c then false else aP A (aCe A k)) = false
    split
    · rfl
    · exact (w3 k hk).2.2.2
  · show cnt (fun k => if k = c then false else aP A k) 64 ≤ 20
    have := cnt_clr hp hc
    omega
theorem wf_add (w : wfA A) {c v : Nat} (hc : c < 64) (hp : aP A c = false) (hs : spot A c = none) (h8 : ¬ aC A = 8) (hv : v ≤ 20) (hx : aX A < 1000000) : wfA (uMo (uD A (aC A + 1) (aX A + 1) (fun k => if k = aC A then aX A else aNu A k) (fun k => if k = aC A then c else aCe A k) (fun k => if k = aC A then v else aNa A k) (fun k => if k = aC A then -1 else aPa A k)) (aLo A) (aBr A + z v) (aGi A) (aGo A)) := by
  obtain ⟨w1, w2, w3, w4, w5, w6, w7, w8, w9, w10, w11⟩ := w
  refine ⟨show aC A + 1 ≤ 8 by omega, show aX A + 1 ≤ 1000000 by omega, fun k hk => ?_, fun i j hij hj => ?_, fun i hi => ?_, w6, w7, w8, w9, w10, ?_⟩
  · have hk' : k < aC A + 1 := hk
    show (if k = aC A then aX A else aNu A k) < aX A + 1 ∧ (if k = aC A then c else aCe A k) < 64 ∧ (if k = aC A then v else aNa A k) ≤ 20 ∧ aP A (if k = aC A then c else aCe A k) = false
    by_cases e : k = aC A
    · rw [if_pos e, if_pos e, if_pos e]
      exact ⟨by omega, hc, hv, hp⟩
    · rw [if_neg e, if_neg e, if_neg e]
      have := w3 k (by omega)
      exact ⟨by omega, this.2⟩
  · have hj' : j < aC A + 1 := hj
    show (if i = aC A then aX A else aNu A i) < (if j = aC A then aX A else aNu A j) ∧ ¬ (if i = aC A then c else aCe A i) = (if j = aC A then c else aCe A j)
    rw [if_neg (show ¬ i = aC A by omega), if_neg (show ¬ i = aC A by omega)]
    by_cases e : j = aC A
    · rw [if_pos e, if_pos e]
      have h1 := w3 i (by omega)
      have h2 := of_decide_eq_false (ff_none hs i (Nat.zero_le _) (by omega))
      exact ⟨h1.1, by omega⟩
    · rw [if_neg e, if_neg e]
      exact w4 i j hij (by omega)
  · have hi' : i < aC A + 1 := hi
    show (if i = aC A then -1 else aPa A i) = -1 ∨ ∃ j, j < aC A + 1 ∧ ¬ j = i ∧ (if i = aC A then -1 else aPa A i) = (((if j = aC A then aX A else aNu A j : Nat)) : Int) ∧ (if j = aC A then -1 else aPa A j) = (((if i = aC A then aX A else aNu A i : Nat)) : Int)
    by_cases e : i = aC A
    · exact Or.inl (if_pos e)
    · rw [if_neg e]
      rcases w5 i (by omega) with h | ⟨j, j1, j2, j3, j4⟩
      · exact Or.inl h
      · refine Or.inr ⟨j, by omega, j2, ?_, ?_⟩
        · rw [if_neg (show ¬ j = aC A by omega)]; exact j3
        · rw [if_neg (show ¬ j = aC A by omega), if_neg e]; exact j4
  · show aLo A = aBr A + z v + aGi A - z ((nsum (fun k => if k = aC A then v else aNa A k) (aC A + 1) : Nat) : Int) - aGo A
    have e : nsum (fun k => if k = aC A then v else aNa A k) (aC A + 1) = nsum (aNa A) (aC A) + v := by
      show nsum _ (aC A) + (if aC A = aC A then v else aNa A (aC A)) = _
      rw [nsum_congr (g := aNa A) (fun i hi => if_neg (by omega)), if_pos rfl]
    rw [e, w11, show ((nsum (aNa A) (aC A) + v : Nat) : Int) = ((nsum (aNa A) (aC A) : Nat) : Int) + (v : Int) from rfl, ← z_add]
    grind
theorem wf_gone (w : wfA A) {k : Nat} (hk : k < aC A) (hp : aPa A k = -1) (hq : ∀ i, i < aC A → ¬ aPa A i = (aNu A k : Int)) : wfA (uGone A k) := by
  obtain ⟨w1, w2, w3, w4, w5, w6, w7, w8, w9, w10, w11⟩ := w
  have up : ∀ i, i < aC A - 1 → ∃ t, t < aC A ∧ ¬ t = k ∧ (∀ {α : Type} (f : Nat → α), sh k f i = f t) ∧ (t = if i < k then i else i + 1) := fun i hi => by
    by_cases e : i < k
    · exact ⟨i, by omega, by omega, fun f => if_pos e, by rw [if_pos e]⟩
    · exact ⟨i + 1, by omega, by omega, fun f => if_neg e, by rw [if_neg e]⟩
  refine ⟨show aC A - 1 ≤ 8 by omega, w2, fun i hi => ?_, fun i j hij hj => ?_, fun i hi => ?_, w6, w7, w8, w9, w10, ?_⟩
  · obtain ⟨t, t1, t2, t3, -⟩ := up i hi
    show sh k (aNu A) i < aX A ∧ sh k (aCe A) i < 64 ∧ sh k (aNa A) i ≤ 20 ∧ aP A (sh k (aCe A) i) = false
    rw [t3, t3, t3]
    exact w3 t t1
  · have hj' : j < aC A - 1 := hj
    obtain ⟨t, t1, t2, t3, t4⟩ := up i (by omega)
    obtain ⟨u, u1, u2, u3, u4⟩ := up j hj
    show sh k (aNu A) i < sh k (aNu A) j ∧ ¬ sh k (aCe A) i = sh k (aCe A) j
    rw [t3, t3, u3, u3]
    refine w4 t u ?_ u1
    rw [t4, u4]
    split <;> split <;> omega
  · obtain ⟨t, t1, t2, t3, -⟩ := up i hi
    show sh k (aPa A) i = -1 ∨ ∃ j, j < aC A - 1 ∧ ¬ j = i ∧ sh k (aPa A) i = ((sh k (aNu A) j : Nat) : Int) ∧ sh k (aPa A) j = ((sh k (aNu A) i : Nat) : Int)
    rw [t3, t3]
    rcases w5 t t1 with h | ⟨j, j1, j2, j3, j4⟩
    · exact Or.inl h
    · have jk : ¬ j = k := fun h => hq t t1 (by rw [j3, h])
      have hi' : i < aC A - 1 := hi
      by_cases e : j < k
      · refine Or.inr ⟨j, by omega, fun h => ?_, ?_, ?_⟩
        · obtain ⟨v, v1, v2, v3, v4⟩ := up i hi
          have := t3 (fun x => x)
          have h2 := v3 (fun x => x)
          rw [h] at e
          have h3 : sh k (fun x => x) i = i := if_pos e
          rw [h3] at this
          exact j2 (h.trans this)
        · rw [show sh k (aNu A) j = aNu A j from if_pos e]; exact j3
        · rw [show sh k (aPa A) j = aPa A j from if_pos e]; exact j4
      · refine Or.inr ⟨j - 1, by omega, fun h => ?_, ?_, ?_⟩
        · have := t3 (fun x => x)
          have h3 : sh k (fun x => x) i = i + 1 := if_neg (by omega)
          rw [h3] at this
          exact j2 (by omega)
        · rw [show sh k (aNu A) (j - 1) = aNu A (j - 1 + 1) from if_neg (by omega), show j - 1 + 1 = j by omega]; exact j3
        · rw [show sh k (aPa A) (j - 1) = aPa A (j - 1 + 1) from if_neg (by omega), show j - 1 + 1 = j by omega]; exact j4
  · show aLo A = aBr A + aGi A - z ((nsum (sh k (aNa A)) (aC A - 1) : Nat) : Int) - (aGo A + z (aNa A k))
    have e := nsum_sh (f := aNa A) (k := k) (n := aC A - 1) (by omega)
    rw [show aC A - 1 + 1 = aC A by omega] at e
    rw [w11, ← e, show ((nsum (sh k (aNa A)) (aC A - 1) + aNa A k : Nat) : Int) = ((nsum (sh k (aNa A)) (aC A - 1) : Nat) : Int) + (aNa A k : Int) from rfl, ← z_add]
    grind
theorem wf_remove (w : wfA A) {k : Nat} (hk : k < aC A) : wfA (uGone (uPa A (pSep A k)) k) := by
  refine wf_gone (wf_sep w hk) hk ?_ (fun i hi => ?_)
  · show pSep A k k = -1
    unfold pSep
    split
    · rename_i h; exact h
    · exact if_pos rfl
  · show ¬ pSep A k i = (aNu A k : Int)
    have hi' : i < aC A := hi
    unfold pSep
    intro h
    by_cases e : aPa A k = -1
    · rw [if_pos e] at h
      rcases w.2.2.2.2.1 i hi' with h2 | ⟨j, j1, j2, j3, j4⟩
      · rw [h2] at h; omega
      · have h5 := slot_at w j1
        rw [← j3, h, slot_at w hk] at h5
        rw [← Option.some.inj h5, e] at j4
        omega
    · rw [if_neg e] at h
      obtain ⟨j, j1, j2, j3, j4⟩ := slot_pa w hk e
      rw [j3] at h
      by_cases e1 : i = k
      · rw [if_pos e1] at h; omega
      · rw [if_neg e1] at h
        by_cases e2 : i = j
        · rw [if_pos (by rw [e2])] at h; omega
        · rw [if_neg (fun h => e2 (Option.some.inj h))] at h
          rcases w.2.2.2.2.1 i hi' with h2 | ⟨t, t1, t2, t3, t4⟩
          · rw [h2] at h; omega
          · have h5 := slot_at w t1
            rw [← t3, h, slot_at w hk] at h5
            rw [← Option.some.inj h5] at t4
            have h6 := slot_at w hi'
            rw [← t4, j3] at h6
            exact e2 (Option.some.inj h6).symm
theorem wf_renew (w : wfA A) {k : Nat} (hk : k < aC A) : wfA (uMo (uD A (aC A) (aX A) (aNu A) (aCe A) (fun i => if i = k then 20 else aNa A i) (aPa A)) (aLo A) (aBr A) (aGi A + (z 20 - z (aNa A k))) (aGo A)) := by
  obtain ⟨w1, w2, w3, w4, w5, w6, w7, w8, w9, w10, w11⟩ := w
  refine ⟨w1, w2, fun i hi => ⟨(w3 i hi).1, (w3 i hi).2.1, ?_, (w3 i hi).2.2.2⟩, w4, w5, w6, w7, w8, w9, w10, ?_⟩
  · show (if i = k then 20 else aNa A i) ≤ 20
    split
    · omega
    · exact (w3 i hi).2.2.1
  · show aLo A = aBr A + (aGi A + (z 20 - z (aNa A k))) - z ((nsum (fun i => if i = k then 20 else aNa A i) (aC A) : Nat) : Int) - aGo A
    have e := nsum_set (f := aNa A) (k := k) (v := 20) hk
    have e2 : z ((nsum (fun i => if i = k then 20 else aNa A i) (aC A) : Nat) : Int) + z (aNa A k) = z ((nsum (aNa A) (aC A) : Nat) : Int) + z 20 := by
      rw [z_add, z_add]
      congr 1
      omega
    rw [w11]
    grind
theorem wf_append (w : wfA A) {f v : Nat} (hf : f < 6) (hl : ¬ aFl A f = 12) (hv : v < 5) : wfA (uFg A (fun g => if g = f then aFl A f + 1 else aFl A g) (fun g b => if g = f ∧ b = aFl A f then v else aFm A g b)) := by
  obtain ⟨w1, w2, w3, w4, w5, w6, w7⟩ := w
  refine ⟨w1, w2, w3, w4, w5, fun g hg => ?_, w7⟩
  show (if g = f then aFl A f + 1 else aFl A g) ≤ 12 ∧ ∀ b, b < (if g = f then aFl A f + 1 else aFl A g) → (if g = f ∧ b = aFl A f then v else aFm A g b) < 5
  have h6 := (w6 f hf).1
  by_cases e : g = f
  · rw [if_pos e]
    refine ⟨by omega, fun b hb => ?_⟩
    by_cases e2 : b = aFl A f
    · rw [if_pos ⟨e, e2⟩]; exact hv
    · rw [if_neg (fun h => e2 h.2), e]
      exact (w6 f hf).2 b (by omega)
  · rw [if_neg e]
    refine ⟨(w6 g hg).1, fun b hb => ?_⟩
    rw [if_neg (fun h => e h.1)]
    exact (w6 g hg).2 b hb
theorem wf_clear (w : wfA A) {f : Nat} (hf : f < 6) : wfA (uFg A (fun g => if g = f then 0 else aFl A g) (aFm A)) := by
  obtain ⟨w1, w2, w3, w4, w5, w6, w7⟩ := w
  refine ⟨w1, w2, w3, w4, w5, fun g hg => ?_, w7⟩
  show (if g = f then 0 else aFl A g) ≤ 12 ∧ ∀ b, b < (if g = f then 0 else aFl A g) → aFm A g b < 5
  by_cases e : g = f
  · rw [if_pos e]
    exact ⟨by omega, fun b hb => absurd hb (Nat.not_lt_zero _)⟩
  · rw [if_neg e]
    exact w6 g hg
theorem wf_open (w : wfA A) {c : Nat} (hc : c < 64) (hs : xspot A c = none) (h6 : ¬ aEn A = 6) : wfA (uEx A (aEn A + 1) (fun k => if k = aEn A then c else aEx A k)) := by
  obtain ⟨w1, w2, w3, w4, w5, w6, w7, w8, w9, w10⟩ := w
  refine ⟨w1, w2, w3, w4, w5, w6, show aEn A + 1 ≤ 6 by omega, fun k hk => ?_, fun i j hij hj => ?_, w10⟩
  · have hk' : k < aEn A + 1 := hk
    show (if k = aEn A then c else aEx A k) < 64
    split
    · exact hc
    · exact w8 k (by omega)
  · have hj' : j < aEn A + 1 := hj
    show ¬ (if i = aEn A then c else aEx A i) = (if j = aEn A then c else aEx A j)
    rw [if_neg (show ¬ i = aEn A by omega)]
    by_cases e : j = aEn A
    · rw [if_pos e]
      have := of_decide_eq_false (ff_none hs i (Nat.zero_le _) (by omega))
      omega
    · rw [if_neg e]
      exact w9 i j hij (by omega)
theorem wf_close (w : wfA A) {k : Nat} (hk : k < aEn A) : wfA (uEx A (aEn A - 1) (sh k (aEx A))) := by
  obtain ⟨w1, w2, w3, w4, w5, w6, w7, w8, w9, w10⟩ := w
  refine ⟨w1, w2, w3, w4, w5, w6, show aEn A - 1 ≤ 6 by omega, fun i hi => ?_, fun i j hij hj => ?_, w10⟩
  · have hi' : i < aEn A - 1 := hi
    show sh k (aEx A) i < 64
    unfold sh
    split
    · exact w8 i (by omega)
    · exact w8 (i + 1) (by omega)
  · have hj' : j < aEn A - 1 := hj
    show ¬ sh k (aEx A) i = sh k (aEx A) j
    unfold sh
    split
    · split
      · exact w9 i j hij (by omega)
      · exact w9 i (j + 1) (by omega) (by omega)
    · split
      · omega
      · exact w9 (i + 1) (j + 1) (by omega) (by omega)
theorem wf_pairS (w : wfA A) {a b : Int} {i j : Nat} (ha : slot A a = some i) (hb : slot A b = some j) (hij : ¬ i = j) (pi : aPa A i = -1) (pj : aPa A j = -1) : wfA (uPa A (pPair A i j a b)) := by
  have hi := slot_lt ha
  have hj := slot_lt hb
  have := wf_pair w hi.1 hj.1 hij pi pj
  rwa [hi.2, hj.2] at this
end WF

