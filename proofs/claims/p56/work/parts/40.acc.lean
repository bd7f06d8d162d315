/-! whole numbers as Int32 values -/
theorem z_toInt {k : Int} (h : -2147483648 ≤ k ∧ k < 2147483648) : (z k).toInt = k := Int32.toInt_ofInt_of_le h.1 h.2
theorem z_of (a : Int32) : ∃ k : Int, (-2147483648 ≤ k ∧ k < 2147483648) ∧ a = z k := ⟨a.toInt, ⟨a.le_toInt, a.toInt_lt⟩, (Int32.ofInt_toInt a).symm⟩
theorem z_add (a b : Int) : z a + z b = z (a + b) := (Int32.ofInt_add a b).symm
theorem z_sub (a b : Int) : z a - z b = z (a - b) := (Int32.ofInt_sub a b).symm
theorem z_mul (a b : Int) : z a * z b = z (a * b) := (Int32.ofInt_mul a b).symm
theorem z_lt {a b : Int} (h : (-2147483648 ≤ a ∧ a < 2147483648) ∧ -2147483648 ≤ b ∧ b < 2147483648) : z a < z b ↔ a < b := by
  rw [Int32.lt_iff_toInt_lt, z_toInt h.1, z_toInt h.2]
theorem z_eq {a b : Int} (h : (-2147483648 ≤ a ∧ a < 2147483648) ∧ -2147483648 ≤ b ∧ b < 2147483648) : z a = z b ↔ a = b := by
  rw [← Int32.toInt_inj, z_toInt h.1, z_toInt h.2]
theorem zlt {a b : Int} (h : ((-2147483648 ≤ a ∧ a < 2147483648) ∧ -2147483648 ≤ b ∧ b < 2147483648) ∧ a < b) : z a < z b := (z_lt h.1).mpr h.2
theorem zge {a b : Int} (h : ((-2147483648 ≤ a ∧ a < 2147483648) ∧ -2147483648 ≤ b ∧ b < 2147483648) ∧ b ≤ a) : ¬ z a < z b := fun g => absurd ((z_lt h.1).mp g) (by omega)
theorem zne {a b : Int} (h : ((-2147483648 ≤ a ∧ a < 2147483648) ∧ -2147483648 ≤ b ∧ b < 2147483648) ∧ ¬ a = b) : ¬ z a = z b := fun g => h.2 ((z_eq h.1).mp g)
theorem z_nat {k : Nat} (h : k < 2147483648) : (z (k : Int)).toNatClampNeg = k := by
  show ((z (k : Int)).toInt).toNat = k
  rw [z_toInt (by omega)]
  exact Int.toNat_natCast k
theorem z_natI {k : Int} (h : 0 ≤ k ∧ k < 2147483648) : (z k).toNatClampNeg = k.toNat := by
  show ((z k).toInt).toNat = k.toNat
  rw [z_toInt (by omega)]
theorem okI_z {k : Int} {n : Nat} (h : (0 ≤ k ∧ k < n) ∧ (n : Int) ≤ 2000000) : okI (z k) n = true := by
  unfold okI
  rw [decide_eq_true_eq, show (0 : Int32) = z 0 from rfl, z_lt (by omega), z_natI (by omega)]
  omega
theorem pU_same {α : Type} (f : Nat → Nat → α) (i k : Nat) (x : α) : pmU f i k x i k = x := by
  unfold pmU
  rw [if_pos rfl, if_pos rfl]
theorem pU_row {α : Type} (f : Nat → Nat → α) (i k : Nat) (x : α) (b : Nat) : pmU f i k x i b = if b = k then x else f i b := by
  unfold pmU
  rw [if_pos rfl]
theorem pU_ne {α : Type} (f : Nat → Nat → α) (i k : Nat) (x : α) {a b : Nat} (h : a ≠ i) : pmU f i k x a b = f a b := by
  unfold pmU
  rw [if_neg h]
theorem pU_nk {α : Type} (f : Nat → Nat → α) (i k : Nat) (x : α) {a b : Nat} (h : b ≠ k) : pmU f i k x a b = f a b := by
  unfold pmU
  by_cases e : a = i
  · rw [if_pos e, if_neg h]
  · rw [if_neg e]
theorem at_in (L : Nat) (f : Nat → Int32) {k : Nat} (h : k < L) (hL : L ≤ 100000) : (if z (k : Int) < z 0 then some (z (-1)) else if z (k : Int) < z (L : Int) then (if okI (z (k : Int)) L = true then some (f (Int32.toNatClampNeg (z (k : Int)))) else none) else some (z (-1))) = some (f k) := by
  rw [if_neg (by rw [z_lt (by omega)]; omega), if_pos (by rw [z_lt (by omega)]; omega), if_pos (okI_z (by omega)), z_nat (by omega)]
theorem at_no (L : Nat) (f : Nat → Int32) {k : Int} (h : k < 0 ∨ (L : Int) ≤ k) (hk : -2147483648 ≤ k ∧ k < 2147483648) (hL : L ≤ 100000) : (if z k < z 0 then some (z (-1)) else if z k < z (L : Int) then (if okI (z k) L = true then some (f (Int32.toNatClampNeg (z k))) else none) else some (z (-1))) = some (z (-1)) := by
  by_cases h0 : z k < z 0
  · rw [if_pos h0]
  · rw [if_neg h0, if_neg]
    rw [z_lt (by omega)] at h0 ⊢
    omega
theorem set_in (L : Nat) (q : Nat) (m : pmI) (x : Int32) {k : Nat} (h : k < L) (hL : L ≤ 100000) : (if z (k : Int) < z 0 then some m else if z (k : Int) < z (L : Int) then (if okI (z (k : Int)) L = true then some (pmU m.1 q (Int32.toNatClampNeg (z (k : Int))) x, m.2) else none) else some m) = some (pmU m.1 q k x, m.2) := by
  rw [if_neg (by rw [z_lt (by omega)]; omega), if_pos (by rw [z_lt (by omega)]; omega), if_pos (okI_z (by omega)), z_nat (by omega)]
theorem set_no (L : Nat) (q : Nat) (m : pmI) (x : Int32) {k : Int} (h : k < 0 ∨ (L : Int) ≤ k) (hk : -2147483648 ≤ k ∧ k < 2147483648) (hL : L ≤ 100000) : (if z k < z 0 then some m else if z k < z (L : Int) then (if okI (z k) L = true then some (pmU m.1 q (Int32.toNatClampNeg (z k)) x, m.2) else none) else some m) = some m := by
  by_cases h0 : z k < z 0
  · rw [if_pos h0]
  · rw [if_neg h0, if_neg]
    rw [z_lt (by omega)] at h0 ⊢
    omega
/-- the first place, of d from i on, where P holds -/
def ff (P : Nat → Bool) : Nat → Nat → Option Nat
  | 0, _ => none
  | d + 1, i => if P i then some i else ff P d (i + 1)
theorem ff_some {P : Nat → Bool} : ∀ {d i j : Nat}, ff P d i = some j → i ≤ j ∧ j < i + d ∧ P j = true ∧ ∀ t, i ≤ t → t < j → P t = false
  | 0, _, _, h => nomatch h
  | d + 1, i, j, h => by
    unfold ff at h
    split at h
    · rename_i hp
      cases h
      exact ⟨Nat.le_refl _, by omega, hp, fun t h1 h2 => absurd h2 (by omega)⟩
    · rename_i hp
      obtain ⟨h1, h2, h3, h4⟩ := ff_some h
      refine ⟨by omega, by omega, h3, fun t h5 h6 => ?_⟩
      rcases Nat.eq_or_lt_of_le h5 with rfl | h7
      · exact Bool.eq_false_iff.mpr hp
      · exact h4 t h7 h6
theorem ff_none {P : Nat → Bool} : ∀ {d i : Nat}, ff P d i = none → ∀ t, i ≤ t → t < i + d → P t = false
  | 0, _, _ => fun t h1 h2 => absurd h2 (by omega)
  | d + 1, i, h => by
    unfold ff at h
    split at h
    · cases h
    · rename_i hp
      intro t h5 h6
      rcases Nat.eq_or_lt_of_le h5 with rfl | h7
      · exact Bool.eq_false_iff.mpr hp
      · exact ff_none h t h7 (by omega)
theorem ff_congr {P Q : Nat → Bool} : ∀ {d i : Nat}, (∀ t, i ≤ t → t < i + d → P t = Q t) → ff P d i = ff Q d i
  | 0, _, _ => rfl
  | d + 1, i, h => by
    unfold ff
    rw [h i (Nat.le_refl _) (by omega), ff_congr (d := d) (i := i + 1) (fun t h1 h2 => h t (by omega) (by omega))]
theorem ff_at {P : Nat → Bool} {d i j : Nat} (h1 : i ≤ j) (h2 : j < i + d) (h3 : P j = true) (h4 : ∀ t, i ≤ t → t < j → P t = false) : ff P d i = some j := by
  cases h : ff P d i with
  | none => rw [ff_none h j h1 h2] at h3; cases h3
  | some k =>
    obtain ⟨g1, g2, g3, g4⟩ := ff_some h
    rcases Nat.lt_trichotomy j k with h5 | h5 | h5
    · rw [g4 j h1 h5] at h3; cases h3
    · rw [h5]
    · rw [h4 k g1 h5] at g3; cases g3
/-- a loop that looks for the first place -/
theorem srch {β : Type} (l : Nat → Int32 → Option (Unit ⊕ β)) (len : Nat) (P : Nat → Bool) (g : Nat → β) (hs : ∀ k i, i < len → l (k + 1) (z (i : Int)) = if P i = true then some (.inr (g i)) else l k (z ((i : Int) + 1))) (he : ∀ k, l (k + 1) (z (len : Int)) = some (.inl ())) :
    ∀ (d i k : Nat), i + d = len → d < k → l k (z (i : Int)) = match ff P d i with | some j => some (.inr (g j)) | none => some (.inl ())
  | 0, i, k + 1, h1, _ => by
    have : i = len := by omega
    subst this
    exact he k
  | d + 1, i, k + 1, h1, h2 => by
    rw [hs k i (by omega)]
    unfold ff
    split
    · rfl
    · have ih := srch l len P g hs he d (i + 1) k (by omega) (by omega)
      rw [← ih, show (((i + 1 : Nat)) : Int) = (i : Int) + 1 from rfl]
/-- a loop that goes on to its end, with something kept -/
theorem forl {σ γ : Type} (l : Nat → Int32 → σ → Option γ) (len : Nat) (f : Nat → σ → σ) (g : σ → Option γ) (hs : ∀ k i s, i < len → l (k + 1) (z (i : Int)) s = l k (z ((i : Int) + 1)) (f i s)) (he : ∀ k s, l (k + 1) (z (len : Int)) s = g s) :
    ∀ (d i k : Nat) (s : σ), i + d = len → d < k → l k (z (i : Int)) s = g (Nat.rec s (fun t s => f (i + t) s) d)
  | 0, i, k + 1, s, h1, _ => by
    have : i = len := by omega
    subst this
    exact he k s
  | d + 1, i, k + 1, s, h1, h2 => by
    rw [hs k i s (by omega)]
    have ih := forl l len f g hs he d (i + 1) k (f i s) (by omega) (by omega)
    rw [show (((i + 1 : Nat)) : Int) = (i : Int) + 1 from rfl] at ih
    rw [ih]
    congr 1
    clear ih h1 h2
    induction d with
    | zero => rfl
    | succ d ih =>
      show f (i + 1 + d) _ = f (i + (d + 1)) _
      rw [ih, show i + 1 + d = i + (d + 1) by omega]
/-- .. by a property of what is kept -/
theorem forI {σ γ : Type} (l : Nat → Int32 → σ → Option γ) (len : Nat) (I : Nat → σ → Prop) (Q : Option γ → Prop) (hs : ∀ k i s, i < len → I i s → ∃ s', I (i + 1) s' ∧ l (k + 1) (z (i : Int)) s = l k (z ((i : Int) + 1)) s') (he : ∀ k s, I len s → Q (l (k + 1) (z (len : Int)) s)) :
    ∀ (d i k : Nat) (s : σ), i + d = len → d < k → I i s → Q (l k (z (i : Int)) s)
  | 0, i, k + 1, s, h1, _, hI => by
    have : i = len := by omega
    subst this
    exact he k s hI
  | d + 1, i, k + 1, s, h1, h2, hI => by
    obtain ⟨s', h3, h4⟩ := hs k i s (by omega) hI
    rw [h4]
    have ih := forI l len I Q hs he d (i + 1) k s' (by omega) (by omega) h3
    rwa [show (((i + 1 : Nat)) : Int) = (i : Int) + 1 from rfl] at ih
theorem obind {α β : Type} (a : α) (f : α → Option β) : (some a).bind f = f a := rfl
theorem oT_l {γ β : Type} (kl : γ → pmI → Option β) (kr : Nat → pmI → Option β) (v : γ) (m : pmI) : oT kl kr (.inl v, m) = kl v m := rfl
theorem oT_r {γ β : Type} (kl : γ → pmI → Option β) (kr : Nat → pmI → Option β) (e : Nat) (m : pmI) : oT kl kr (.inr e, m) = kr e m := rfl
theorem oS_l {γ β : Type} (k : γ → Option β) (v : γ) : oS k (.inl v) = k v := rfl
theorem oS_r {γ β : Type} (k : γ → Option β) (b : β) : oS k (.inr b) = some b := rfl
theorem pmLet_eq {α β : Type} (e : α) (k : α → β) : pmLet e k = k e := rfl
theorem a_2 {m : pmI} {k : Nat} (h : k < 8) : fX8_at_2 (z (k : Int)) m = some (m.1 2 k) := at_in 8 (m.1 2) h (by decide)
theorem an_2 {m : pmI} {k : Int} (h : k < 0 ∨ 8 ≤ k) (hk : -2147483648 ≤ k ∧ k < 2147483648) : fX8_at_2 (z k) m = some (z (-1)) := at_no 8 (m.1 2) h hk (by decide)
theorem a_3 {m : pmI} {k : Nat} (h : k < 8) : fX8_at_3 (z (k : Int)) m = some (m.1 3 k) := at_in 8 (m.1 3) h (by decide)
theorem an_3 {m : pmI} {k : Int} (h : k < 0 ∨ 8 ≤ k) (hk : -2147483648 ≤ k ∧ k < 2147483648) : fX8_at_3 (z k) m = some (z (-1)) := at_no 8 (m.1 3) h hk (by decide)
theorem a_4 {m : pmI} {k : Nat} (h : k < 8) : fX8_at_4 (z (k : Int)) m = some (m.1 4 k) := at_in 8 (m.1 4) h (by decide)
theorem an_4 {m : pmI} {k : Int} (h : k < 0 ∨ 8 ≤ k) (hk : -2147483648 ≤ k ∧ k < 2147483648) : fX8_at_4 (z k) m = some (z (-1)) := at_no 8 (m.1 4) h hk (by decide)
theorem a_5 {m : pmI} {k : Nat} (h : k < 8) : fX8_at_5 (z (k : Int)) m = some (m.1 5 k) := at_in 8 (m.1 5) h (by decide)
theorem an_5 {m : pmI} {k : Int} (h : k < 0 ∨ 8 ≤ k) (hk : -2147483648 ≤ k ∧ k < 2147483648) : fX8_at_5 (z k) m = some (z (-1)) := at_no 8 (m.1 5) h hk (by decide)
theorem a_6 {m : pmI} {k : Nat} (h : k < 72) : fX8_at_6 (z (k : Int)) m = some (m.1 6 k) := at_in 72 (m.1 6) h (by decide)
theorem an_6 {m : pmI} {k : Int} (h : k < 0 ∨ 72 ≤ k) (hk : -2147483648 ≤ k ∧ k < 2147483648) : fX8_at_6 (z k) m = some (z (-1)) := at_no 72 (m.1 6) h hk (by decide)
theorem a_7 {m : pmI} {k : Nat} (h : k < 6) : fX8_at_7 (z (k : Int)) m = some (m.1 7 k) := at_in 6 (m.1 7) h (by decide)
theorem an_7 {m : pmI} {k : Int} (h : k < 0 ∨ 6 ≤ k) (hk : -2147483648 ≤ k ∧ k < 2147483648) : fX8_at_7 (z k) m = some (z (-1)) := at_no 6 (m.1 7) h hk (by decide)
theorem a_8 {m : pmI} {k : Nat} (h : k < 6) : fX8_at_8 (z (k : Int)) m = some (m.1 8 k) := at_in 6 (m.1 8) h (by decide)
theorem an_8 {m : pmI} {k : Int} (h : k < 0 ∨ 6 ≤ k) (hk : -2147483648 ≤ k ∧ k < 2147483648) : fX8_at_8 (z k) m = some (z (-1)) := at_no 6 (m.1 8) h hk (by decide)
theorem a_92 {m : pmI} {k : Nat} (h : k < 64) : fX8_at_92 (z (k : Int)) m = some (m.1 92 k) := at_in 64 (m.1 92) h (by decide)
theorem an_92 {m : pmI} {k : Int} (h : k < 0 ∨ 64 ≤ k) (hk : -2147483648 ≤ k ∧ k < 2147483648) : fX8_at_92 (z k) m = some (z (-1)) := at_no 64 (m.1 92) h hk (by decide)
theorem a_93 {m : pmI} {k : Nat} (h : k < 64) : fX8_at_93 (z (k : Int)) m = some (m.1 93 k) := at_in 64 (m.1 93) h (by decide)
theorem an_93 {m : pmI} {k : Int} (h : k < 0 ∨ 64 ≤ k) (hk : -2147483648 ≤ k ∧ k < 2147483648) : fX8_at_93 (z k) m = some (z (-1)) := at_no 64 (m.1 93) h hk (by decide)
theorem a_95 {m : pmI} {k : Nat} (h : k < 64) : fX8_at_95 (z (k : Int)) m = some (m.1 95 k) := at_in 64 (m.1 95) h (by decide)
theorem an_95 {m : pmI} {k : Int} (h : k < 0 ∨ 64 ≤ k) (hk : -2147483648 ≤ k ∧ k < 2147483648) : fX8_at_95 (z k) m = some (z (-1)) := at_no 64 (m.1 95) h hk (by decide)
theorem a_96 {m : pmI} {k : Nat} (h : k < 64) : fX8_at_96 (z (k : Int)) m = some (m.1 96 k) := at_in 64 (m.1 96) h (by decide)
theorem an_96 {m : pmI} {k : Int} (h : k < 0 ∨ 64 ≤ k) (hk : -2147483648 ≤ k ∧ k < 2147483648) : fX8_at_96 (z k) m = some (z (-1)) := at_no 64 (m.1 96) h hk (by decide)
theorem a_99 {m : pmI} {k : Nat} (h : k < 36) : fX8_at_99 (z (k : Int)) m = some (m.1 99 k) := at_in 36 (m.1 99) h (by decide)
theorem an_99 {m : pmI} {k : Int} (h : k < 0 ∨ 36 ≤ k) (hk : -2147483648 ≤ k ∧ k < 2147483648) : fX8_at_99 (z k) m = some (z (-1)) := at_no 36 (m.1 99) h hk (by decide)
theorem a_100 {m : pmI} {k : Nat} (h : k < 64) : fX8_at_100 (z (k : Int)) m = some (m.1 100 k) := at_in 64 (m.1 100) h (by decide)
theorem an_100 {m : pmI} {k : Int} (h : k < 0 ∨ 64 ≤ k) (hk : -2147483648 ≤ k ∧ k < 2147483648) : fX8_at_100 (z k) m = some (z (-1)) := at_no 64 (m.1 100) h hk (by decide)
theorem a_101 {m : pmI} {k : Nat} (h : k < 7) : fX8_at_101 (z (k : Int)) m = some (m.1 101 k) := at_in 7 (m.1 101) h (by decide)
theorem an_101 {m : pmI} {k : Int} (h : k < 0 ∨ 7 ≤ k) (hk : -2147483648 ≤ k ∧ k < 2147483648) : fX8_at_101 (z k) m = some (z (-1)) := at_no 7 (m.1 101) h hk (by decide)
theorem a_102 {m : pmI} {k : Nat} (h : k < 7) : fX8_at_102 (z (k : Int)) m = some (m.1 102 k) := at_in 7 (m.1 102) h (by decide)
theorem an_102 {m : pmI} {k : Int} (h : k < 0 ∨ 7 ≤ k) (hk : -2147483648 ≤ k ∧ k < 2147483648) : fX8_at_102 (z k) m = some (z (-1)) := at_no 7 (m.1 102) h hk (by decide)
theorem a_103 {m : pmI} {k : Nat} (h : k < 7) : fX8_at_103 (z (k : Int)) m = some (m.1 103 k) := at_in 7 (m.1 103) h (by decide)
theorem an_103 {m : pmI} {k : Int} (h : k < 0 ∨ 7 ≤ k) (hk : -2147483648 ≤ k ∧ k < 2147483648) : fX8_at_103 (z k) m = some (z (-1)) := at_no 7 (m.1 103) h hk (by decide)
theorem a_104 {m : pmI} {k : Nat} (h : k < 7) : fX8_at_104 (z (k : Int)) m = some (m.1 104 k) := at_in 7 (m.1 104) h (by decide)
theorem an_104 {m : pmI} {k : Int} (h : k < 0 ∨ 7 ≤ k) (hk : -2147483648 ≤ k ∧ k < 2147483648) : fX8_at_104 (z k) m = some (z (-1)) := at_no 7 (m.1 104) h hk (by decide)
theorem a_105 {m : pmI} {k : Nat} (h : k < 7) : fX8_at_105 (z (k : Int)) m = some (m.1 105 k) := at_in 7 (m.1 105) h (by decide)
theorem an_105 {m : pmI} {k : Int} (h : k < 0 ∨ 7 ≤ k) (hk : -2147483648 ≤ k ∧ k < 2147483648) : fX8_at_105 (z k) m = some (z (-1)) := at_no 7 (m.1 105) h hk (by decide)
theorem a_106 {m : pmI} {k : Nat} (h : k < 7) : fX8_at_106 (z (k : Int)) m = some (m.1 106 k) := at_in 7 (m.1 106) h (by decide)
theorem an_106 {m : pmI} {k : Int} (h : k < 0 ∨ 7 ≤ k) (hk : -2147483648 ≤ k ∧ k < 2147483648) : fX8_at_106 (z k) m = some (z (-1)) := at_no 7 (m.1 106) h hk (by decide)
theorem a_109 {m : pmI} {k : Nat} (h : k < 10) : fX8_at_109 (z (k : Int)) m = some (m.1 109 k) := at_in 10 (m.1 109) h (by decide)
theorem an_109 {m : pmI} {k : Int} (h : k < 0 ∨ 10 ≤ k) (hk : -2147483648 ≤ k ∧ k < 2147483648) : fX8_at_109 (z k) m = some (z (-1)) := at_no 10 (m.1 109) h hk (by decide)
theorem a_110 {m : pmI} {k : Nat} (h : k < 30) : fX8_at_110 (z (k : Int)) m = some (m.1 110 k) := at_in 30 (m.1 110) h (by decide)
theorem an_110 {m : pmI} {k : Int} (h : k < 0 ∨ 30 ≤ k) (hk : -2147483648 ≤ k ∧ k < 2147483648) : fX8_at_110 (z k) m = some (z (-1)) := at_no 30 (m.1 110) h hk (by decide)
theorem s_2 {m : pmI} {k : Nat} {x : Int32} (h : k < 8) : fX8_set_2 (z (k : Int)) x m = some (pmU m.1 2 k x, m.2) := set_in 8 2 m x h (by decide)
theorem sn_2 {m : pmI} {k : Int} {x : Int32} (h : k < 0 ∨ 8 ≤ k) (hk : -2147483648 ≤ k ∧ k < 2147483648) : fX8_set_2 (z k) x m = some m := set_no 8 2 m x h hk (by decide)
theorem s_3 {m : pmI} {k : Nat} {x : Int32} (h : k < 8) : fX8_set_3 (z (k : Int)) x m = some (pmU m.1 3 k x, m.2) := set_in 8 3 m x h (by decide)
theorem sn_3 {m : pmI} {k : Int} {x : Int32} (h : k < 0 ∨ 8 ≤ k) (hk : -2147483648 ≤ k ∧ k < 2147483648) : fX8_set_3 (z k) x m = some m := set_no 8 3 m x h hk (by decide)
theorem s_4 {m : pmI} {k : Nat} {x : Int32} (h : k < 8) : fX8_set_4 (z (k : Int)) x m = some (pmU m.1 4 k x, m.2) := set_in 8 4 m x h (by decide)
theorem sn_4 {m : pmI} {k : Int} {x : Int32} (h : k < 0 ∨ 8 ≤ k) (hk : -2147483648 ≤ k ∧ k < 2147483648) : fX8_set_4 (z k) x m = some m := set_no 8 4 m x h hk (by decide)
theorem s_5 {m : pmI} {k : Nat} {x : Int32} (h : k < 8) : fX8_set_5 (z (k : Int)) x m = some (pmU m.1 5 k x, m.2) := set_in 8 5 m x h (by decide)
theorem sn_5 {m : pmI} {k : Int} {x : Int32} (h : k < 0 ∨ 8 ≤ k) (hk : -2147483648 ≤ k ∧ k < 2147483648) : fX8_set_5 (z k) x m = some m := set_no 8 5 m x h hk (by decide)
theorem s_6 {m : pmI} {k : Nat} {x : Int32} (h : k < 72) : fX8_set_6 (z (k : Int)) x m = some (pmU m.1 6 k x, m.2) := set_in 72 6 m x h (by decide)
theorem sn_6 {m : pmI} {k : Int} {x : Int32} (h : k < 0 ∨ 72 ≤ k) (hk : -2147483648 ≤ k ∧ k < 2147483648) : fX8_set_6 (z k) x m = some m := set_no 72 6 m x h hk (by decide)
theorem s_7 {m : pmI} {k : Nat} {x : Int32} (h : k < 6) : fX8_set_7 (z (k : Int)) x m = some (pmU m.1 7 k x, m.2) := set_in 6 7 m x h (by decide)
theorem sn_7 {m : pmI} {k : Int} {x : Int32} (h : k < 0 ∨ 6 ≤ k) (hk : -2147483648 ≤ k ∧ k < 2147483648) : fX8_set_7 (z k) x m = some m := set_no 6 7 m x h hk (by decide)
theorem s_8 {m : pmI} {k : Nat} {x : Int32} (h : k < 6) : fX8_set_8 (z (k : Int)) x m = some (pmU m.1 8 k x, m.2) := set_in 6 8 m x h (by decide)
theorem sn_8 {m : pmI} {k : Int} {x : Int32} (h : k < 0 ∨ 6 ≤ k) (hk : -2147483648 ≤ k ∧ k < 2147483648) : fX8_set_8 (z k) x m = some m := set_no 6 8 m x h hk (by decide)
theorem s_92 {m : pmI} {k : Nat} {x : Int32} (h : k < 64) : fX8_set_92 (z (k : Int)) x m = some (pmU m.1 92 k x, m.2) := set_in 64 92 m x h (by decide)
theorem sn_92 {m : pmI} {k : Int} {x : Int32} (h : k < 0 ∨ 64 ≤ k) (hk : -2147483648 ≤ k ∧ k < 2147483648) : fX8_set_92 (z k) x m = some m := set_no 64 92 m x h hk (by decide)
theorem s_93 {m : pmI} {k : Nat} {x : Int32} (h : k < 64) : fX8_set_93 (z (k : Int)) x m = some (pmU m.1 93 k x, m.2) := set_in 64 93 m x h (by decide)
theorem sn_93 {m : pmI} {k : Int} {x : Int32} (h : k < 0 ∨ 64 ≤ k) (hk : -2147483648 ≤ k ∧ k < 2147483648) : fX8_set_93 (z k) x m = some m := set_no 64 93 m x h hk (by decide)
theorem s_95 {m : pmI} {k : Nat} {x : Int32} (h : k < 64) : fX8_set_95 (z (k : Int)) x m = some (pmU m.1 95 k x, m.2) := set_in 64 95 m x h (by decide)
theorem sn_95 {m : pmI} {k : Int} {x : Int32} (h : k < 0 ∨ 64 ≤ k) (hk : -2147483648 ≤ k ∧ k < 2147483648) : fX8_set_95 (z k) x m = some m := set_no 64 95 m x h hk (by decide)
theorem s_96 {m : pmI} {k : Nat} {x : Int32} (h : k < 64) : fX8_set_96 (z (k : Int)) x m = some (pmU m.1 96 k x, m.2) := set_in 64 96 m x h (by decide)
theorem sn_96 {m : pmI} {k : Int} {x : Int32} (h : k < 0 ∨ 64 ≤ k) (hk : -2147483648 ≤ k ∧ k < 2147483648) : fX8_set_96 (z k) x m = some m := set_no 64 96 m x h hk (by decide)
theorem s_99 {m : pmI} {k : Nat} {x : Int32} (h : k < 36) : fX8_set_99 (z (k : Int)) x m = some (pmU m.1 99 k x, m.2) := set_in 36 99 m x h (by decide)
theorem sn_99 {m : pmI} {k : Int} {x : Int32} (h : k < 0 ∨ 36 ≤ k) (hk : -2147483648 ≤ k ∧ k < 2147483648) : fX8_set_99 (z k) x m = some m := set_no 36 99 m x h hk (by decide)
theorem s_100 {m : pmI} {k : Nat} {x : Int32} (h : k < 64) : fX8_set_100 (z (k : Int)) x m = some (pmU m.1 100 k x, m.2) := set_in 64 100 m x h (by decide)
theorem sn_100 {m : pmI} {k : Int} {x : Int32} (h : k < 0 ∨ 64 ≤ k) (hk : -2147483648 ≤ k ∧ k < 2147483648) : fX8_set_100 (z k) x m = some m := set_no 64 100 m x h hk (by decide)
theorem s_101 {m : pmI} {k : Nat} {x : Int32} (h : k < 7) : fX8_set_101 (z (k : Int)) x m = some (pmU m.1 101 k x, m.2) := set_in 7 101 m x h (by decide)
theorem sn_101 {m : pmI} {k : Int} {x : Int32} (h : k < 0 ∨ 7 ≤ k) (hk : -2147483648 ≤ k ∧ k < 2147483648) : fX8_set_101 (z k) x m = some m := set_no 7 101 m x h hk (by decide)
theorem s_102 {m : pmI} {k : Nat} {x : Int32} (h : k < 7) : fX8_set_102 (z (k : Int)) x m = some (pmU m.1 102 k x, m.2) := set_in 7 102 m x h (by decide)
theorem sn_102 {m : pmI} {k : Int} {x : Int32} (h : k < 0 ∨ 7 ≤ k) (hk : -2147483648 ≤ k ∧ k < 2147483648) : fX8_set_102 (z k) x m = some m := set_no 7 102 m x h hk (by decide)
theorem s_103 {m : pmI} {k : Nat} {x : Int32} (h : k < 7) : fX8_set_103 (z (k : Int)) x m = some (pmU m.1 103 k x, m.2) := set_in 7 103 m x h (by decide)
theorem sn_103 {m : pmI} {k : Int} {x : Int32} (h : k < 0 ∨ 7 ≤ k) (hk : -2147483648 ≤ k ∧ k < 2147483648) : fX8_set_103 (z k) x m = some m := set_no 7 103 m x h hk (by decide)
theorem s_104 {m : pmI} {k : Nat} {x : Int32} (h : k < 7) : fX8_set_104 (z (k : Int)) x m = some (pmU m.1 104 k x, m.2) := set_in 7 104 m x h (by decide)
theorem sn_104 {m : pmI} {k : Int} {x : Int32} (h : k < 0 ∨ 7 ≤ k) (hk : -2147483648 ≤ k ∧ k < 2147483648) : fX8_set_104 (z k) x m = some m := set_no 7 104 m x h hk (by decide)
theorem s_105 {m : pmI} {k : Nat} {x : Int32} (h : k < 7) : fX8_set_105 (z (k : Int)) x m = some (pmU m.1 105 k x, m.2) := set_in 7 105 m x h (by decide)
theorem sn_105 {m : pmI} {k : Int} {x : Int32} (h : k < 0 ∨ 7 ≤ k) (hk : -2147483648 ≤ k ∧ k < 2147483648) : fX8_set_105 (z k) x m = some m := set_no 7 105 m x h hk (by decide)
theorem s_106 {m : pmI} {k : Nat} {x : Int32} (h : k < 7) : fX8_set_106 (z (k : Int)) x m = some (pmU m.1 106 k x, m.2) := set_in 7 106 m x h (by decide)
theorem sn_106 {m : pmI} {k : Int} {x : Int32} (h : k < 0 ∨ 7 ≤ k) (hk : -2147483648 ≤ k ∧ k < 2147483648) : fX8_set_106 (z k) x m = some m := set_no 7 106 m x h hk (by decide)
theorem s_109 {m : pmI} {k : Nat} {x : Int32} (h : k < 10) : fX8_set_109 (z (k : Int)) x m = some (pmU m.1 109 k x, m.2) := set_in 10 109 m x h (by decide)
theorem sn_109 {m : pmI} {k : Int} {x : Int32} (h : k < 0 ∨ 10 ≤ k) (hk : -2147483648 ≤ k ∧ k < 2147483648) : fX8_set_109 (z k) x m = some m := set_no 10 109 m x h hk (by decide)
theorem s_110 {m : pmI} {k : Nat} {x : Int32} (h : k < 30) : fX8_set_110 (z (k : Int)) x m = some (pmU m.1 110 k x, m.2) := set_in 30 110 m x h (by decide)
theorem sn_110 {m : pmI} {k : Int} {x : Int32} (h : k < 0 ∨ 30 ≤ k) (hk : -2147483648 ≤ k ∧ k < 2147483648) : fX8_set_110 (z k) x m = some m := set_no 30 110 m x h hk (by decide)

