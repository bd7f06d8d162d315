/-! cells, their neighbours, and ways over open cells -/
def nb (c d : Nat) : Option Nat := if d = 0 then (if c < 56 then some (c + 8) else none) else if d = 1 then (if c < 8 then none else some (c - 8)) else if d = 2 then (if c % 8 = 0 then none else some (c - 1)) else if d = 3 then (if c % 8 = 7 then none else some (c + 1)) else some c
theorem nb_lt {c d e : Nat} (hc : c < 64) (h : nb c d = some e) : e < 64 := by
  unfold nb at h
  grind
theorem f_after0 : ∀ c : Nat, c < 64 → ∀ d : Nat, d < 4 → fX8_cellAfter (z (c : Int)) (z (d : Int)) m00 = some (z (oz (nb c d))) := by decide +kernel
theorem f_after {c d : Nat} (hc : c < 64) (hd : d < 4) (m : pmI) : fX8_cellAfter (z (c : Int)) (z (d : Int)) m = some (z (oz (nb c d))) := f_after0 c hc d hd
def adj (a b : Nat) : Bool := decide (nb a 0 = some b) || (decide (nb a 1 = some b) || (decide (nb a 2 = some b) || decide (nb a 3 = some b)))
theorem adj_of {a b d : Nat} (hd : d < 4) (h : nb a d = some b) : adj a b = true := by
  unfold adj
  simp only [Bool.or_eq_true, decide_eq_true_eq]
  rcases (show d = 0 ∨ d = 1 ∨ d = 2 ∨ d = 3 by omega) with rfl | rfl | rfl | rfl
  · exact Or.inl h
  · exact Or.inr (Or.inl h)
  · exact Or.inr (Or.inr (Or.inl h))
  · exact Or.inr (Or.inr (Or.inr h))
theorem adj_ex {a b : Nat} (h : adj a b = true) : ∃ d, d < 4 ∧ nb a d = some b := by
  unfold adj at h
  simp only [Bool.or_eq_true, decide_eq_true_eq] at h
  rcases h with h | h | h | h
  · exact ⟨0, by omega, h⟩
  · exact ⟨1, by omega, h⟩
  · exact ⟨2, by omega, h⟩
  · exact ⟨3, by omega, h⟩
theorem adj_sym0 : ∀ a : Nat, a < 64 → ∀ b : Nat, b < 64 → adj a b = adj b a := by decide +kernel
theorem adj_lt {a b : Nat} (ha : a < 64) (h : adj a b = true) : b < 64 := by
  obtain ⟨d, hd, e⟩ := adj_ex h
  exact nb_lt ha e
theorem adj_sym {a b : Nat} (ha : a < 64) (h : adj a b = true) : adj b a = true := by rw [← adj_sym0 a ha b (adj_lt ha h)]; exact h
/-- a cell is reached from s by at most k steps over cells that are not closed -/
def R (cl : Nat → Bool) (s : Nat) : Nat → Nat → Bool
  | 0, c => decide (c = s)
  | k + 1, c => R cl s k c || (!cl c && (List.range 64).any fun e => adj e c && R cl s k e)
theorem R_z {cl : Nat → Bool} {s c : Nat} : R cl s 0 c = true ↔ c = s := decide_eq_true_iff
theorem R_s {cl : Nat → Bool} {s k c : Nat} : R cl s (k + 1) c = true ↔ R cl s k c = true ∨ (cl c = false ∧ ∃ e, e < 64 ∧ adj e c = true ∧ R cl s k e = true) := by
  show (R cl s k c || (!cl c && (List.range 64).any fun e => adj e c && R cl s k e)) = true ↔ _
  simp only [Bool.or_eq_true, Bool.and_eq_true, Bool.not_eq_true', List.any_eq_true, List.mem_range]
theorem R_up {cl : Nat → Bool} {s k j c : Nat} (h : k ≤ j) (hr : R cl s k c = true) : R cl s j c = true := by
  induction h with
  | refl => exact hr
  | step _ ih => exact R_s.mpr (Or.inl ih)
theorem R_lt {cl : Nat → Bool} {s : Nat} (hs : s < 64) : ∀ {k c : Nat}, R cl s k c = true → c < 64
  | 0, c, h => by rw [R_z] at h; omega
  | k + 1, c, h => by
    rcases R_s.mp h with h | ⟨-, e, h1, h2, -⟩
    · exact R_lt hs h
    · exact adj_lt h1 h2
theorem R_congr {cl cl' : Nat → Bool} {s : Nat} (hs : s < 64) (h : ∀ c, c < 64 → ¬ c = s → cl c = cl' c) : ∀ {k c : Nat}, R cl s k c = true → R cl' s k c = true
  | 0, c, hr => hr
  | k + 1, c, hr => by
    have hc := R_lt hs hr
    rcases R_s.mp hr with h1 | ⟨h1, e, h2, h3, h4⟩
    · exact R_s.mpr (Or.inl (R_congr hs h h1))
    · by_cases e0 : c = s
      · exact R_up (Nat.zero_le _) (R_z.mpr e0)
      · exact R_s.mpr (Or.inr ⟨by rw [← h c hc e0]; exact h1, e, h2, h3, R_congr hs h h4⟩)
theorem cnt_le2 {P Q : Nat → Bool} : ∀ {n : Nat}, (∀ c, c < n → P c = true → Q c = true) → cnt P n ≤ cnt Q n
  | 0, _ => Nat.le_refl _
  | n + 1, h => by
    have ih := cnt_le2 (n := n) (fun c hc => h c (by omega))
    have h0 := h n (by omega)
    unfold cnt
    split
    · rename_i hp
      rw [if_pos (h0 hp)]
      omega
    · omega
theorem cnt_lt2 {P Q : Nat → Bool} : ∀ {n c : Nat}, (∀ c, c < n → P c = true → Q c = true) → c < n → P c = false → Q c = true → cnt P n + 1 ≤ cnt Q n
  | n + 1, c, h, hc, hp, hq => by
    unfold cnt
    by_cases e : c = n
    · subst e
      have ih := cnt_le2 (n := c) (fun c hc => h c (by omega))
      rw [hp, hq, if_neg (by decide), if_pos rfl]
      omega
    · have ih := cnt_lt2 (n := n) (c := c) (fun c hc => h c (by omega)) (by omega) hp hq
      have h0 := h n (by omega)
      split
      · rename_i hp
        rw [if_pos (h0 hp)]
        omega
      · omega
def Stb (cl : Nat → Bool) (s k : Nat) : Prop := ∀ c, R cl s (k + 1) c = true → R cl s k c = true
theorem Stb_up {cl : Nat → Bool} {s k : Nat} (h : Stb cl s k) : ∀ {j c : Nat}, R cl s j c = true → R cl s k c = true
  | 0, c, hr => R_up (Nat.zero_le _) hr
  | j + 1, c, hr => by
    rcases R_s.mp hr with h1 | ⟨h1, e, h2, h3, h4⟩
    · exact Stb_up h h1
    · exact h c (R_s.mpr (Or.inr ⟨h1, e, h2, h3, Stb_up h h4⟩))
theorem R_cnt {cl : Nat → Bool} {s : Nat} (hs : s < 64) : ∀ k : Nat, (∃ i, i ≤ k ∧ Stb cl s i) ∨ k + 1 ≤ cnt (R cl s k) 64
  | 0 => by
    right
    have := cnt_lt2 (P := fun _ => false) (Q := R cl s 0) (n := 64) (c := s) (fun _ _ h => by cases h) hs rfl (R_z.mpr rfl)
    omega
  | k + 1 => by
    rcases R_cnt hs k with ⟨i, h1, h2⟩ | h1
    · exact Or.inl ⟨i, by omega, h2⟩
    · by_cases hq : ∃ c, R cl s (k + 1) c = true ∧ R cl s k c = false
      · obtain ⟨c, h2, h3⟩ := hq
        right
        have := cnt_lt2 (P := R cl s k) (Q := R cl s (k + 1)) (n := 64) (c := c) (fun c _ h => R_up (by omega) h) (R_lt hs h2) h3 h2
        omega
      · refine Or.inl ⟨k, by omega, fun c hc => ?_⟩
        cases e : R cl s k c with
        | true => rfl
        | false => exact absurd ⟨c, hc, e⟩ hq
theorem R_64 {cl : Nat → Bool} {s : Nat} (hs : s < 64) {k c : Nat} (h : R cl s k c = true) : R cl s 64 c = true := by
  rcases R_cnt (cl := cl) hs 64 with ⟨i, h1, h2⟩ | h1
  · exact R_up h1 (Stb_up h2 h)
  · have := cnt_le (R cl s 64) 64
    omega
/-- the lengths of the shortest ways -/
def Dst (cl : Nat → Bool) (s : Nat) (f : Nat → Option Nat) : Prop := ∀ c, c < 64 → (∀ k, f c = some k → R cl s k c = true) ∧ ∀ k, R cl s k c = true → ∃ j, f c = some j ∧ j ≤ k
theorem Dst_eq {cl cl' : Nat → Bool} {s : Nat} {f g : Nat → Option Nat} (hs : s < 64) (hcl : ∀ c, c < 64 → ¬ c = s → cl c = cl' c) (hf : Dst cl s f) (hg : Dst cl' s g) {c : Nat} (hc : c < 64) : f c = g c := by
  obtain ⟨f1, f2⟩ := hf c hc
  obtain ⟨g1, g2⟩ := hg c hc
  cases ef : f c with
  | none =>
    cases eg : g c with
    | none => rfl
    | some k =>
      obtain ⟨j, h1, -⟩ := f2 k (R_congr hs (fun c h1 h2 => (hcl c h1 h2).symm) (g1 k eg))
      rw [ef] at h1
      cases h1
  | some j =>
    obtain ⟨k, h1, h2⟩ := g2 j (R_congr hs hcl (f1 j ef))
    obtain ⟨j', h3, h4⟩ := f2 k (R_congr hs (fun c h1 h2 => (hcl c h1 h2).symm) (g1 k h1))
    rw [ef] at h3
    cases h3
    rw [h1, show j = k by omega]
theorem Dst_64 {cl : Nat → Bool} {s : Nat} {f : Nat → Option Nat} (hs : s < 64) (hf : Dst cl s f) {c k : Nat} (hc : c < 64) (h : f c = some k) : k ≤ 64 := by
  obtain ⟨f1, f2⟩ := hf c hc
  obtain ⟨j, h1, h2⟩ := f2 64 (R_64 hs (f1 k h))
  rw [h] at h1
  cases h1
  exact h2
/-- a search in breadth: visited cells, their levels, the queue, found, taken, directions done -/
def BI (cl : Nat → Bool) (s : Nat) (vis : Nat → Bool) (L q : Nat → Nat) (f t d : Nat) : Prop :=
  (t ≤ f ∧ f = cnt vis 64 ∧ vis s = true ∧ L s = 0) ∧ (∀ i, i < f → q i < 64 ∧ vis (q i) = true) ∧ (∀ c, c < 64 → vis c = true → (∃ i, i < f ∧ q i = c) ∧ R cl s (L c) c = true) ∧ (∀ i j, i < j → j < f → L (q i) ≤ L (q j)) ∧ (t < f → ∀ j, j < f → L (q j) ≤ L (q t) + 1) ∧ (∀ i, i < t → ∀ u e, u < 4 → nb (q i) u = some e → cl e = false → vis e = true ∧ L e ≤ L (q i) + 1) ∧ ∀ u e, u < d → nb (q t) u = some e → cl e = false → vis e = true ∧ L e ≤ L (q t) + 1
section BFS
variable {cl : Nat → Bool} {s f t d : Nat} {vis : Nat → Bool} {L q : Nat → Nat}
theorem BI_f (h : BI cl s vis L q f t d) : f ≤ 64 := by
  rw [h.1.2.1]
  exact cnt_le _ _
theorem BI_0 (hs : s < 64) (hq : q 0 = s) : BI cl s (fun c => decide (c = s)) (fun _ => 0) q 1 0 0 := by
  refine ⟨⟨by omega, ?_, decide_eq_true rfl, rfl⟩, fun i hi => ?_, fun c hc hv => ⟨⟨0, by omega, ?_⟩, ?_⟩, fun i j h1 h2 => by omega, fun _ j _ => Nat.zero_le _, fun i hi => by omega, fun u e hu => by omega⟩
  · have h0 : ∀ n, cnt (fun _ => false) n = 0 := fun n => by
      induction n with
      | zero => rfl
      | succ n ih => unfold cnt; rw [ih, if_neg (by decide)]
    have e1 : cnt (fun k => if k = s then true else false) 64 = 1 := by rw [cnt_set (P := fun _ => false) (c := s) rfl hs, h0]
    refine e1.symm.trans (cnt_congr fun k _ => ?_)
    by_cases e : k = s
    · rw [decide_eq_true e, if_pos e]
    · rw [decide_eq_false e, if_neg e]
  · rw [show i = 0 by omega, hq]
    exact ⟨hs, decide_eq_true rfl⟩
  · rw [hq]
    exact (of_decide_eq_true hv).symm
  · exact R_z.mpr (of_decide_eq_true hv)
theorem BI_old (h : BI cl s vis L q f t d) (ht : t < f) (hd : nb (q t) d = none ∨ ∃ e, nb (q t) d = some e ∧ (vis e = true ∨ cl e = true)) : BI cl s vis L q f t (d + 1) := by
  obtain ⟨h1, h2, h3, h4, h5, h6, h7⟩ := h
  refine ⟨h1, h2, h3, h4, h5, h6, fun u e hu he hc => ?_⟩
  by_cases e0 : u < d
  · exact h7 u e e0 he hc
  · obtain rfl : u = d := by omega
    rcases hd with hd | ⟨e', h8, h9⟩
    · rw [hd] at he
      cases he
    · rw [h8] at he
      cases he
      rcases h9 with h9 | h9
      · refine ⟨h9, ?_⟩
        obtain ⟨⟨j, h10, h11⟩, -⟩ := h3 _ (nb_lt (h2 t ht).1 h8) h9
        rw [← h11]
        exact h5 ht j h10
      · rw [hc] at h9
        cases h9
theorem BI_new (h : BI cl s vis L q f t d) (ht : t < f) (hd4 : d < 4) {e : Nat} (hd : nb (q t) d = some e) (hv : vis e = false) (hc : cl e = false) : BI cl s (fun c => if c = e then true else vis c) (fun c => if c = e then L (q t) + 1 else L c) (fun i => if i = f then e else q i) (f + 1) t (d + 1) := by
  obtain ⟨⟨h1, h1b, h1c, h1d⟩, h2, h3, h4, h5, h6, h7⟩ := h
  have he := nb_lt (h2 t ht).1 hd
  have ne : ∀ c, vis c = true → ¬ c = e := fun c hc e0 => by rw [e0, hv] at hc; cases hc
  have qt : (if t = f then e else q t) = q t := if_neg (by omega)
  have Lq : ∀ i, i < f → (if (if i = f then e else q i) = e then L (q t) + 1 else L (if i = f then e else q i)) = L (q i) := fun i hi => by
    rw [if_neg (show ¬ i = f by omega), if_neg (ne _ (h2 i hi).2)]
  refine ⟨⟨by omega, ?_, ?_, ?_⟩, fun i hi => ?_, fun c hc2 hv2 => ?_, fun i j hij hj => ?_, fun _ j hj => ?_, fun i hi u e2 hu hn hc2 => ?_, fun u e2 hu hn hc2 => ?_⟩
  · rw [h1b]
    exact (cnt_set hv he).symm
  · show (if s = e then true else vis s) = true
    rw [if_neg (ne s h1c)]
    exact h1c
  · show (if s = e then _ else L s) = 0
    rw [if_neg (ne s h1c)]
    exact h1d
  · show (if i = f then e else q i) < 64 ∧ (if (if i = f then e else q i) = e then true else vis (if i = f then e else q i)) = true
    by_cases e0 : i = f
    · rw [if_pos e0]
      exact ⟨he, if_pos rfl⟩
    · rw [if_neg e0]
      have := h2 i (by omega)
      rw [if_neg (ne _ this.2)]
      exact this
  · have hv3 : (if c = e then true else vis c) = true := hv2
    show (∃ i, i < f + 1 ∧ (if i = f then e else q i) = c) ∧ R cl s (if c = e then L (q t) + 1 else L c) c = true
    by_cases e0 : c = e
    · rw [if_pos e0, e0]
      exact ⟨⟨f, by omega, if_pos rfl⟩, R_s.mpr (Or.inr ⟨hc, q t, (h2 t ht).1, adj_of hd4 hd, (h3 (q t) (h2 t ht).1 (h2 t ht).2).2⟩)⟩
    · rw [if_neg e0] at hv3
      obtain ⟨⟨i, g1, g2⟩, g3⟩ := h3 c hc2 hv3
      rw [if_neg e0]
      exact ⟨⟨i, by omega, by rw [if_neg (show ¬ i = f by omega)]; exact g2⟩, g3⟩
  · show (if (if i = f then e else q i) = e then L (q t) + 1 else L (if i = f then e else q i)) ≤ (if (if j = f then e else q j) = e then L (q t) + 1 else L (if j = f then e else q j))
    rw [Lq i (by omega)]
    by_cases e0 : j = f
    · rw [if_pos e0, if_pos rfl]
      exact h5 ht i (by omega)
    · rw [Lq j (by omega)]
      exact h4 i j hij (by omega)
  · show (if (if j = f then e else q j) = e then L (q t) + 1 else L (if j = f then e else q j)) ≤ (if (if t = f then e else q t) = e then L (q t) + 1 else L (if t = f then e else q t)) + 1
    rw [Lq t ht]
    by_cases e0 : j = f
    · rw [if_pos e0, if_pos rfl]
      exact Nat.le_refl _
    · rw [Lq j (by omega)]
      exact h5 ht j (by omega)
  · have hn2 : nb (if i = f then e else q i) u = some e2 := hn
    show (if e2 = e then true else vis e2) = true ∧ (if e2 = e then L (q t) + 1 else L e2) ≤ (if (if i = f then e else q i) = e then L (q t) + 1 else L (if i = f then e else q i)) + 1
    rw [if_neg (show ¬ i = f by omega)] at hn2
    have g := h6 i hi u e2 hu hn2 hc2
    rw [Lq i (by omega), if_neg (ne e2 g.1), if_neg (ne e2 g.1)]
    exact g
  · have hn2 : nb (if t = f then e else q t) u = some e2 := hn
    show (if e2 = e then true else vis e2) = true ∧ (if e2 = e then L (q t) + 1 else L e2) ≤ (if (if t = f then e else q t) = e then L (q t) + 1 else L (if t = f then e else q t)) + 1
    rw [qt] at hn2
    rw [Lq t ht]
    by_cases e0 : e2 = e
    · rw [if_pos e0, if_pos e0]
      exact ⟨rfl, Nat.le_refl _⟩
    · rw [if_neg e0, if_neg e0]
      refine h7 u e2 ?_ hn2 hc2
      by_cases e1 : u = d
      · rw [e1, hd] at hn2
        cases hn2
        exact absurd rfl e0
      · omega
theorem BI_next (h : BI cl s vis L q f t 4) (ht : t < f) : BI cl s vis L q f (t + 1) 0 := by
  obtain ⟨h1, h2, h3, h4, h5, h6, h7⟩ := h
  refine ⟨⟨by omega, h1.2⟩, h2, h3, h4, fun ht2 j hj => ?_, fun i hi u e hu hn hc => ?_, fun u e hu => by omega⟩
  · have a := h5 ht j hj
    have b := h4 t (t + 1) (by omega) ht2
    omega
  · by_cases e0 : i = t
    · rw [e0] at hn ⊢
      exact h7 u e hu hn hc
    · exact h6 i (by omega) u e hu hn hc
theorem BI_R (hs : s < 64) (h : BI cl s vis L q f t 0) (ht : ¬ t < f) : ∀ {k c : Nat}, R cl s k c = true → vis c = true ∧ L c ≤ k
  | 0, c, hr => by
    obtain rfl := R_z.mp hr
    exact ⟨h.1.2.2.1, by rw [h.1.2.2.2]; exact Nat.zero_le _⟩
  | k + 1, c, hr => by
    rcases R_s.mp hr with h1 | ⟨h1, e, h2, h3, h4⟩
    · have := BI_R hs h ht h1
      exact ⟨this.1, by omega⟩
    · obtain ⟨a, b⟩ := BI_R hs h ht h4
      obtain ⟨⟨i, g1, g2⟩, -⟩ := h.2.2.1 e h2 a
      obtain ⟨u, hu, hn⟩ := adj_ex h3
      obtain ⟨p1, p2⟩ := h.2.2.2.2.2.1 i (by omega) u c hu (by rw [g2]; exact hn) h1
      rw [g2] at p2
      exact ⟨p1, by omega⟩
theorem BI_end (hs : s < 64) (h : BI cl s vis L q f t 0) (ht : ¬ t < f) : Dst cl s (fun c => if vis c = true then some (L c) else none) := fun c hc => by
  refine ⟨fun k hk => ?_, fun k hk => ?_⟩
  · by_cases e : vis c = true
    · have hk2 : (if vis c = true then some (L c) else none) = some k := hk
      rw [if_pos e] at hk2
      cases hk2
      exact (h.2.2.1 c hc e).2
    · have hk2 : (if vis c = true then some (L c) else none) = some k := hk
      rw [if_neg e] at hk2
      cases hk2
  · obtain ⟨a, b⟩ := BI_R hs h ht hk
    exact ⟨L c, if_pos a, b⟩
end BFS

