/-! programs: the text, and how either side looks at it -/
/-- the sign at a place, or -1 behind the end -/
def sg (T : Nat) (t : Nat → Nat) (i : Nat) : Int := if i < T then (t i : Int) else -1
/-- how many signs of a word stand there -/
def mt (T : Nat) (t : Nat → Nat) : List Nat → Nat → Nat
  | [], _ => 0
  | c :: w, p => if sg T t p = (c : Int) then 1 + mt T t w (p + 1) else 0
def wd (k : Nat) : List Nat := if k = 0 then [112, 114, 111, 112, 32] else if k = 1 then [100, 97, 110, 99, 101, 114, 32] else if k = 2 then [112, 97, 105, 114, 32] else if k = 3 then [102, 105, 103, 117, 114, 101, 32] else if k = 4 then [112, 101, 114, 102, 111, 114, 109, 32] else if k = 5 then [119, 97, 108, 107, 32] else if k = 6 then [101, 120, 105, 116, 32] else if k = 7 then [110, 97, 105, 108, 115, 32] else [108, 101, 97, 118, 101]
def sp (k : Nat) : List Nat := if k = 0 then [100, 100] else if k = 1 then [100, 100, 42, 110] else if k = 2 then [110, 38, 110] else if k = 3 then [100, 58, 109] else if k = 4 then [100, 32, 110] else if k = 5 then [110, 62, 100, 100] else if k = 6 then [100, 100] else if k = 7 then [110] else []
theorem mt_le {T : Nat} {t : Nat → Nat} : ∀ (w : List Nat) (p : Nat), mt T t w p ≤ w.length
  | [], _ => Nat.le_refl _
  | c :: w, p => by
    unfold mt
    have := mt_le (T := T) (t := t) w (p + 1)
    split
    · show 1 + _ ≤ w.length + 1
      omega
    · omega
/-- what stands in a text is within it -/
theorem mt_T {T : Nat} {t : Nat → Nat} : ∀ (w : List Nat) (p : Nat), p ≤ T → p + mt T t w p ≤ T
  | [], p, h => h
  | c :: w, p, h => by
    unfold mt
    split
    · rename_i hs
      have hp : p < T := by
        unfold sg at hs
        split at hs
        · assumption
        · omega
      have := mt_T (T := T) (t := t) w (p + 1) (by omega)
      omega
    · omega
def tOk (T : Nat) (t : Nat → Nat) : Prop := T ≤ 60 ∧ ∀ k, k < T → t k < 65536
theorem sg_b {T : Nat} {t : Nat → Nat} (h : tOk T t) (i : Nat) : -1 ≤ sg T t i ∧ sg T t i < 65536 := by
  unfold sg
  split
  · rename_i hi
    have := h.2 i hi
    omega
  · omega
def cT (m : pmI) (T : Nat) (t : Nat → Nat) : Prop := m.1 107 1 = z (T : Int) ∧ ∀ k, k < T → m.1 108 k = z (t k : Int)
def mT (m : pmI) (T : Nat) (t : Nat → Nat) : Prop := m.1 113 21 = z (T : Int) ∧ ∀ k, k < T → m.1 125 k = z (t k : Int)
section TEXT
variable {m : pmI} {n T p : Nat} {t : Nat → Nat}
theorem c_sg (h : tOk T t) (hm : cT m T t) (hp : p ≤ 1000) : fX4_signAt_107 (z (p : Int)) m = some (z (sg T t p)) := by
  unfold fX4_signAt_107 sg
  have := h.1
  rw [if_neg (zge (by omega)), hm.1]
  by_cases hl : p < T
  · rw [if_pos (zlt (by omega)), if_pos (zlt (by omega)), if_pos (okI_z (by omega)), z_nat (by omega), hm.2 p hl, if_pos hl]
  · rw [if_neg (zge (by omega)), if_neg hl]
theorem cm_gen (w : List Nat) (l : Nat → Int32 → Option (Unit ⊕ Int32)) (hs : ∀ (k i c : Nat), w[i]? = some c → l (k + 1) (z (i : Int)) = if sg T t (p + i) = (c : Int) then l k (z ((i : Int) + 1)) else some (.inr (z (i : Int)))) (he : ∀ k, l (k + 1) (z (w.length : Int)) = some (.inl ())) : ∀ (d i k : Nat), i + d = w.length → d < k → l k (z (i : Int)) = if i + mt T t (w.drop i) (p + i) = w.length then some (.inl ()) else some (.inr (z ((i + mt T t (w.drop i) (p + i) : Nat) : Int)))
  | 0, i, k + 1, h1, _ => by
    obtain rfl : i = w.length := by omega
    rw [he, List.drop_length]
    rw [if_pos (by show w.length + 0 = w.length; omega)]
  | d + 1, i, k + 1, h1, h2 => by
    have hi : i < w.length := by omega
    rw [hs k i w[i] (List.getElem?_eq_getElem hi), List.drop_eq_getElem_cons hi]
    have ih := cm_gen w l hs he d (i + 1) k (by omega) (by omega)
    unfold mt
    by_cases hc : sg T t (p + i) = (w[i] : Int)
    · rw [if_pos hc, if_pos hc]
      have ih : l k (z ((i : Int) + 1)) = _ := ih
      rw [ih, show p + (i + 1) = p + i + 1 by omega, show i + 1 + mt T t (w.drop (i + 1)) (p + i + 1) = i + (1 + mt T t (w.drop (i + 1)) (p + i + 1)) by omega]
    · rw [if_neg hc, if_neg hc, if_neg (by omega), Nat.add_zero]

theorem len100000 (m : pmI) : fJ0_length_8abf5_100000 m = some (z 5) := (by decide +kernel : fJ0_length_8abf5_100000 m00 = some (z 5))
theorem ch1000000 : ∀ i : Nat, i < 5 → fJ0_charAt_5068e_100000 (z (i : Int)) m00 = some (z (([112, 114, 111, 112, 32] : List Nat).getD i 0 : Int)) := by decide +kernel
theorem ch100000 {i : Nat} (h : i < 5) (m : pmI) : fJ0_charAt_5068e_100000 (z (i : Int)) m = some (z (([112, 114, 111, 112, 32] : List Nat).getD i 0 : Int)) := ch1000000 i h
theorem cm100000 (h : tOk T t) (hm : cT m T t) (h5 : m.1 107 5 = z (p : Int)) (hp : p ≤ 100) (hn : 100 ≤ n) : fX4_countMatching_107_100000 n m = some (z (mt T t [112, 114, 111, 112, 32] p : Int)) := by
  have F := cm_gen (T := T) (t := t) (p := p) [112, 114, 111, 112, 32] (lX4_countMatching_107_100000_l2 n m) (fun k i c hc => by
    have hi : i < 5 := (List.getElem?_eq_some_iff.mp hc).1
    have hg : ([112, 114, 111, 112, 32] : List Nat).getD i 0 = c := by rw [List.getD_eq_getElem?_getD, hc]; rfl
    have sb := sg_b h (p + i)
    have hcb : c ≤ 200 := by
      rw [← hg]
      exact (show ∀ i : Nat, i < 5 → ([112, 114, 111, 112, 32] : List Nat).getD i 0 ≤ 200 by decide) i hi
    show bX4_countMatching_107_100000_l2 n m (lX4_countMatching_107_100000_l2 n m k) (z (i : Int)) = _
    unfold bX4_countMatching_107_100000_l2
    rw [len100000, obind, if_pos (zlt (by omega)), h5, z_add, show (p : Int) + (i : Int) = ((p + i : Nat) : Int) from rfl, c_sg h hm (by omega), obind, ch100000 hi, obind, hg, show z 1 = z (1 : Int) from rfl, z_add]
    by_cases e : sg T t (p + i) = (c : Int)
    · rw [if_pos (by rw [e]), if_pos e]
    · rw [if_neg (zne (by omega)), if_neg e]) (fun k => by
    show bX4_countMatching_107_100000_l2 n m (lX4_countMatching_107_100000_l2 n m k) (z 5) = _
    unfold bX4_countMatching_107_100000_l2
    rw [len100000, obind, if_neg (zge (by omega))]) 5 0 n rfl (by omega)
  have F : lX4_countMatching_107_100000_l2 n m n (z 0) = if 0 + mt T t [112, 114, 111, 112, 32] p = 5 then some (.inl ()) else some (.inr (z ((0 + mt T t [112, 114, 111, 112, 32] p : Nat) : Int))) := F
  rw [Nat.zero_add] at F
  unfold fX4_countMatching_107_100000
  rw [F]
  by_cases e : mt T t [112, 114, 111, 112, 32] p = 5
  · rw [if_pos e, obind, oS_l, len100000, obind, e]
    rfl
  · rw [if_neg e, obind, oS_r]
theorem len100001 (m : pmI) : fJ0_length_8abf5_100001 m = some (z 7) := (by decide +kernel : fJ0_length_8abf5_100001 m00 = some (z 7))
theorem ch1000010 : ∀ i : Nat, i < 7 → fJ0_charAt_5068e_100001 (z (i : Int)) m00 = some (z (([100, 97, 110, 99, 101, 114, 32] : List Nat).getD i 0 : Int)) := by decide +kernel
theorem ch100001 {i : Nat} (h : i < 7) (m : pmI) : fJ0_charAt_5068e_100001 (z (i : Int)) m = some (z (([100, 97, 110, 99, 101, 114, 32] : List Nat).getD i 0 : Int)) := ch1000010 i h
theorem cm100001 (h : tOk T t) (hm : cT m T t) (h5 : m.1 107 5 = z (p : Int)) (hp : p ≤ 100) (hn : 100 ≤ n) : fX4_countMatching_107_100001 n m = some (z (mt T t [100, 97, 110, 99, 101, 114, 32] p : Int)) := by
  have F := cm_gen (T := T) (t := t) (p := p) [100, 97, 110, 99, 101, 114, 32] (lX4_countMatching_107_100001_l2 n m) (fun k i c hc => by
    have hi : i < 7 := (List.getElem?_eq_some_iff.mp hc).1
    have hg : ([100, 97, 110, 99, 101, 114, 32] : List Nat).getD i 0 = c := by rw [List.getD_eq_getElem?_getD, hc]; rfl
    have sb := sg_b h (p + i)
    have hcb : c ≤ 200 := by
      rw [← hg]
      exact (show ∀ i : Nat, i < 7 → ([100, 97, 110, 99, 101, 114, 32] : List Nat).getD i 0 ≤ 200 by decide) i hi
    show bX4_countMatching_107_100001_l2 n m (lX4_countMatching_107_100001_l2 n m k) (z (i : Int)) = _
    unfold bX4_countMatching_107_100001_l2
    rw [len100001, obind, if_pos (zlt (by omega)), h5, z_add, show (p : Int) + (i : Int) = ((p + i : Nat) : Int) from rfl, c_sg h hm (by omega), obind, ch100001 hi, obind, hg, show z 1 = z (1 : Int) from rfl, z_add]
    by_cases e : sg T t (p + i) = (c : Int)
    · rw [if_pos (by rw [e]), if_pos e]
    · rw [if_neg (zne (by omega)), if_neg e]) (fun k => by
    show bX4_countMatching_107_100001_l2 n m (lX4_countMatching_107_100001_l2 n m k) (z 7) = _
    unfold bX4_countMatching_107_100001_l2
    rw [len100001, obind, if_neg (zge (by omega))]) 7 0 n rfl (by omega)
  have F : lX4_countMatching_107_100001_l2 n m n (z 0) = if 0 + mt T t [100, 97, 110, 99, 101, 114, 32] p = 7 then some (.inl ()) else some (.inr (z ((0 + mt T t [100, 97, 110, 99, 101, 114, 32] p : Nat) : Int))) := F
  rw [Nat.zero_add] at F
  unfold fX4_countMatching_107_100001
  rw [F]
  by_cases e : mt T t [100, 97, 110, 99, 101, 114, 32] p = 7
  · rw [if_pos e, obind, oS_l, len100001, obind, e]
    rfl
  · rw [if_neg e, obind, oS_r]
theorem len100002 (m : pmI) : fJ0_length_8abf5_100002 m = some (z 5) := (by decide +kernel : fJ0_length_8abf5_100002 m00 = some (z 5))
theorem ch1000020 : ∀ i : Nat, i < 5 → fJ0_charAt_5068e_100002 (z (i : Int)) m00 = some (z (([112, 97, 105, 114, 32] : List Nat).getD i 0 : Int)) := by decide +kernel
theorem ch100002 {i : Nat} (h : i < 5) (m : pmI) : fJ0_charAt_5068e_100002 (z (i : Int)) m = some (z (([112, 97, 105, 114, 32] : List Nat).getD i 0 : Int)) := ch1000020 i h
theorem cm100002 (h : tOk T t) (hm : cT m T t) (h5 : m.1 107 5 = z (p : Int)) (hp : p ≤ 100) (hn : 100 ≤ n) : fX4_countMatching_107_100002 n m = some (z (mt T t [112, 97, 105, 114, 32] p : Int)) := by
  have F := cm_gen (T := T) (t := t) (p := p) [112, 97, 105, 114, 32] (lX4_countMatching_107_100002_l2 n m) (fun k i c hc => by
    have hi : i < 5 := (List.getElem?_eq_some_iff.mp hc).1
    have hg : ([112, 97, 105, 114, 32] : List Nat).getD i 0 = c := by rw [List.getD_eq_getElem?_getD, hc]; rfl
    have sb := sg_b h (p + i)
    have hcb : c ≤ 200 := by
      rw [← hg]
      exact (show ∀ i : Nat, i < 5 → ([112, 97, 105, 114, 32] : List Nat).getD i 0 ≤ 200 by decide) i hi
    show bX4_countMatching_107_100002_l2 n m (lX4_countMatching_107_100002_l2 n m k) (z (i : Int)) = _
    unfold bX4_countMatching_107_100002_l2
    rw [len100002, obind, if_pos (zlt (by omega)), h5, z_add, show (p : Int) + (i : Int) = ((p + i : Nat) : Int) from rfl, c_sg h hm (by omega), obind, ch100002 hi, obind, hg, show z 1 = z (1 : Int) from rfl, z_add]
    by_cases e : sg T t (p + i) = (c : Int)
    · rw [if_pos (by rw [e]), if_pos e]
    · rw [if_neg (zne (by omega)), if_neg e]) (fun k => by
    show bX4_countMatching_107_100002_l2 n m (lX4_countMatching_107_100002_l2 n m k) (z 5) = _
    unfold bX4_countMatching_107_100002_l2
    rw [len100002, obind, if_neg (zge (by omega))]) 5 0 n rfl (by omega)
  have F : lX4_countMatching_107_100002_l2 n m n (z 0) = if 0 + mt T t [112, 97, 105, 114, 32] p = 5 then some (.inl ()) else some (.inr (z ((0 + mt T t [112, 97, 105, 114, 32] p : Nat) : Int))) := F
  rw [Nat.zero_add] at F
  unfold fX4_countMatching_107_100002
  rw [F]
  by_cases e : mt T t [112, 97, 105, 114, 32] p = 5
  · rw [if_pos e, obind, oS_l, len100002, obind, e]
    rfl
  · rw [if_neg e, obind, oS_r]
theorem len100003 (m : pmI) : fJ0_length_8abf5_100003 m = some (z 7) := (by decide +kernel : fJ0_length_8abf5_100003 m00 = some (z 7))
theorem ch1000030 : ∀ i : Nat, i < 7 → fJ0_charAt_5068e_100003 (z (i : Int)) m00 = some (z (([102, 105, 103, 117, 114, 101, 32] : List Nat).getD i 0 : Int)) := by decide +kernel
theorem ch100003 {i : Nat} (h : i < 7) (m : pmI) : fJ0_charAt_5068e_100003 (z (i : Int)) m = some (z (([102, 105, 103, 117, 114, 101, 32] : List Nat).getD i 0 : Int)) := ch1000030 i h
theorem cm100003 (h : tOk T t) (hm : cT m T t) (h5 : m.1 107 5 = z (p : Int)) (hp : p ≤ 100) (hn : 100 ≤ n) : fX4_countMatching_107_100003 n m = some (z (mt T t [102, 105, 103, 117, 114, 101, 32] p : Int)) := by
  have F := cm_gen (T := T) (t := t) (p := p) [102, 105, 103, 117, 114, 101, 32] (lX4_countMatching_107_100003_l2 n m) (fun k i c hc => by
    have hi : i < 7 := (List.getElem?_eq_some_iff.mp hc).1
    have hg : ([102, 105, 103, 117, 114, 101, 32] : List Nat).getD i 0 = c := by rw [List.getD_eq_getElem?_getD, hc]; rfl
    have sb := sg_b h (p + i)
    have hcb : c ≤ 200 := by
      rw [← hg]
      exact (show ∀ i : Nat, i < 7 → ([102, 105, 103, 117, 114, 101, 32] : List Nat).getD i 0 ≤ 200 by decide) i hi
    show bX4_countMatching_107_100003_l2 n m (lX4_countMatching_107_100003_l2 n m k) (z (i : Int)) = _
    unfold bX4_countMatching_107_100003_l2
    rw [len100003, obind, if_pos (zlt (by omega)), h5, z_add, show (p : Int) + (i : Int) = ((p + i : Nat) : Int) from rfl, c_sg h hm (by omega), obind, ch100003 hi, obind, hg, show z 1 = z (1 : Int) from rfl, z_add]
    by_cases e : sg T t (p + i) = (c : Int)
    · rw [if_pos (by rw [e]), if_pos e]
    · rw [if_neg (zne (by omega)), if_neg e]) (fun k => by
    show bX4_countMatching_107_100003_l2 n m (lX4_countMatching_107_100003_l2 n m k) (z 7) = _
    unfold bX4_countMatching_107_100003_l2
    rw [len100003, obind, if_neg (zge (by omega))]) 7 0 n rfl (by omega)
  have F : lX4_countMatching_107_100003_l2 n m n (z 0) = if 0 + mt T t [102, 105, 103, 117, 114, 101, 32] p = 7 then some (.inl ()) else some (.inr (z ((0 + mt T t [102, 105, 103, 117, 114, 101, 32] p : Nat) : Int))) := F
  rw [Nat.zero_add] at F
  unfold fX4_countMatching_107_100003
  rw [F]
  by_cases e : mt T t [102, 105, 103, 117, 114, 101, 32] p = 7
  · rw [if_pos e, obind, oS_l, len100003, obind, e]
    rfl
  · rw [if_neg e, obind, oS_r]
theorem len100004 (m : pmI) : fJ0_length_8abf5_100004 m = some (z 8) := (by decide +kernel : fJ0_length_8abf5_100004 m00 = some (z 8))
theorem ch1000040 : ∀ i : Nat, i < 8 → fJ0_charAt_5068e_100004 (z (i : Int)) m00 = some (z (([112, 101, 114, 102, 111, 114, 109, 32] : List Nat).getD i 0 : Int)) := by decide +kernel
theorem ch100004 {i : Nat} (h : i < 8) (m : pmI) : fJ0_charAt_5068e_100004 (z (i : Int)) m = some (z (([112, 101, 114, 102, 111, 114, 109, 32] : List Nat).getD i 0 : Int)) := ch1000040 i h
theorem cm100004 (h : tOk T t) (hm : cT m T t) (h5 : m.1 107 5 = z (p : Int)) (hp : p ≤ 100) (hn : 100 ≤ n) : fX4_countMatching_107_100004 n m = some (z (mt T t [112, 101, 114, 102, 111, 114, 109, 32] p : Int)) := by
  have F := cm_gen (T := T) (t := t) (p := p) [112, 101, 114, 102, 111, 114, 109, 32] (lX4_countMatching_107_100004_l2 n m) (fun k i c hc => by
    have hi : i < 8 := (List.getElem?_eq_some_iff.mp hc).1
    have hg : ([112, 101, 114, 102, 111, 114, 109, 32] : List Nat).getD i 0 = c := by rw [List.getD_eq_getElem?_getD, hc]; rfl
    have sb := sg_b h (p + i)
    have hcb : c ≤ 200 := by
      rw [← hg]
      exact (show ∀ i : Nat, i < 8 → ([112, 101, 114, 102, 111, 114, 109, 32] : List Nat).getD i 0 ≤ 200 by decide) i hi
    show bX4_countMatching_107_100004_l2 n m (lX4_countMatching_107_100004_l2 n m k) (z (i : Int)) = _
    unfold bX4_countMatching_107_100004_l2
    rw [len100004, obind, if_pos (zlt (by omega)), h5, z_add, show (p : Int) + (i : Int) = ((p + i : Nat) : Int) from rfl, c_sg h hm (by omega), obind, ch100004 hi, obind, hg, show z 1 = z (1 : Int) from rfl, z_add]
    by_cases e : sg T t (p + i) = (c : Int)
    · rw [if_pos (by rw [e]), if_pos e]
    · rw [if_neg (zne (by omega)), if_neg e]) (fun k => by
    show bX4_countMatching_107_100004_l2 n m (lX4_countMatching_107_100004_l2 n m k) (z 8) = _
    unfold bX4_countMatching_107_100004_l2
    rw [len100004, obind, if_neg (zge (by omega))]) 8 0 n rfl (by omega)
  have F : lX4_countMatching_107_100004_l2 n m n (z 0) = if 0 + mt T t [112, 101, 114, 102, 111, 114, 109, 32] p = 8 then some (.inl ()) else some (.inr (z ((0 + mt T t [112, 101, 114, 102, 111, 114, 109, 32] p : Nat) : Int))) := F
  rw [Nat.zero_add] at F
  unfold fX4_countMatching_107_100004
  rw [F]
  by_cases e : mt T t [112, 101, 114, 102, 111, 114, 109, 32] p = 8
  · rw [if_pos e, obind, oS_l, len100004, obind, e]
    rfl
  · rw [if_neg e, obind, oS_r]
theorem len100005 (m : pmI) : fJ0_length_8abf5_100005 m = some (z 5) := (by decide +kernel : fJ0_length_8abf5_100005 m00 = some (z 5))
theorem ch1000050 : ∀ i : Nat, i < 5 → fJ0_charAt_5068e_100005 (z (i : Int)) m00 = some (z (([119, 97, 108, 107, 32] : List Nat).getD i 0 : Int)) := by decide +kernel
theorem ch100005 {i : Nat} (h : i < 5) (m : pmI) : fJ0_charAt_5068e_100005 (z (i : Int)) m = some (z (([119, 97, 108, 107, 32] : List Nat).getD i 0 : Int)) := ch1000050 i h
theorem cm100005 (h : tOk T t) (hm : cT m T t) (h5 : m.1 107 5 = z (p : Int)) (hp : p ≤ 100) (hn : 100 ≤ n) : fX4_countMatching_107_100005 n m = some (z (mt T t [119, 97, 108, 107, 32] p : Int)) := by
  have F := cm_gen (T := T) (t := t) (p := p) [119, 97, 108, 107, 32] (lX4_countMatching_107_100005_l2 n m) (fun k i c hc => by
    have hi : i < 5 := (List.getElem?_eq_some_iff.mp hc).1
    have hg : ([119, 97, 108, 107, 32] : List Nat).getD i 0 = c := by rw [List.getD_eq_getElem?_getD, hc]; rfl
    have sb := sg_b h (p + i)
    have hcb : c ≤ 200 := by
      rw [← hg]
      exact (show ∀ i : Nat, i < 5 → ([119, 97, 108, 107, 32] : List Nat).getD i 0 ≤ 200 by decide) i hi
    show bX4_countMatching_107_100005_l2 n m (lX4_countMatching_107_100005_l2 n m k) (z (i : Int)) = _
    unfold bX4_countMatching_107_100005_l2
    rw [len100005, obind, if_pos (zlt (by omega)), h5, z_add, show (p : Int) + (i : Int) = ((p + i : Nat) : Int) from rfl, c_sg h hm (by omega), obind, ch100005 hi, obind, hg, show z 1 = z (1 : Int) from rfl, z_add]
    by_cases e : sg T t (p + i) = (c : Int)
    · rw [if_pos (by rw [e]), if_pos e]
    · rw [if_neg (zne (by omega)), if_neg e]) (fun k => by
    show bX4_countMatching_107_100005_l2 n m (lX4_countMatching_107_100005_l2 n m k) (z 5) = _
    unfold bX4_countMatching_107_100005_l2
    rw [len100005, obind, if_neg (zge (by omega))]) 5 0 n rfl (by omega)
  have F : lX4_countMatching_107_100005_l2 n m n (z 0) = if 0 + mt T t [119, 97, 108, 107, 32] p = 5 then some (.inl ()) else some (.inr (z ((0 + mt T t [119, 97, 108, 107, 32] p : Nat) : Int))) := F
  rw [Nat.zero_add] at F
  unfold fX4_countMatching_107_100005
  rw [F]
  by_cases e : mt T t [119, 97, 108, 107, 32] p = 5
  · rw [if_pos e, obind, oS_l, len100005, obind, e]
    rfl
  · rw [if_neg e, obind, oS_r]
theorem len100006 (m : pmI) : fJ0_length_8abf5_100006 m = some (z 5) := (by decide +kernel : fJ0_length_8abf5_100006 m00 = some (z 5))
theorem ch1000060 : ∀ i : Nat, i < 5 → fJ0_charAt_5068e_100006 (z (i : Int)) m00 = some (z (([101, 120, 105, 116, 32] : List Nat).getD i 0 : Int)) := by decide +kernel
theorem ch100006 {i : Nat} (h : i < 5) (m : pmI) : fJ0_charAt_5068e_100006 (z (i : Int)) m = some (z (([101, 120, 105, 116, 32] : List Nat).getD i 0 : Int)) := ch1000060 i h
theorem cm100006 (h : tOk T t) (hm : cT m T t) (h5 : m.1 107 5 = z (p : Int)) (hp : p ≤ 100) (hn : 100 ≤ n) : fX4_countMatching_107_100006 n m = some (z (mt T t [101, 120, 105, 116, 32] p : Int)) := by
  have F := cm_gen (T := T) (t := t) (p := p) [101, 120, 105, 116, 32] (lX4_countMatching_107_100006_l2 n m) (fun k i c hc => by
    have hi : i < 5 := (List.getElem?_eq_some_iff.mp hc).1
    have hg : ([101, 120, 105, 116, 32] : List Nat).getD i 0 = c := by rw [List.getD_eq_getElem?_getD, hc]; rfl
    have sb := sg_b h (p + i)
    have hcb : c ≤ 200 := by
      rw [← hg]
      exact (show ∀ i : Nat, i < 5 → ([101, 120, 105, 116, 32] : List Nat).getD i 0 ≤ 200 by decide) i hi
    show bX4_countMatching_107_100006_l2 n m (lX4_countMatching_107_100006_l2 n m k) (z (i : Int)) = _
    unfold bX4_countMatching_107_100006_l2
    rw [len100006, obind, if_pos (zlt (by omega)), h5, z_add, show (p : Int) + (i : Int) = ((p + i : Nat) : Int) from rfl, c_sg h hm (by omega), obind, ch100006 hi, obind, hg, show z 1 = z (1 : Int) from rfl, z_add]
    by_cases e : sg T t (p + i) = (c : Int)
    · rw [if_pos (by rw [e]), if_pos e]
    · rw [if_neg (zne (by omega)), if_neg e]) (fun k => by
    show bX4_countMatching_107_100006_l2 n m (lX4_countMatching_107_100006_l2 n m k) (z 5) = _
    unfold bX4_countMatching_107_100006_l2
    rw [len100006, obind, if_neg (zge (by omega))]) 5 0 n rfl (by omega)
  have F : lX4_countMatching_107_100006_l2 n m n (z 0) = if 0 + mt T t [101, 120, 105, 116, 32] p = 5 then some (.inl ()) else some (.inr (z ((0 + mt T t [101, 120, 105, 116, 32] p : Nat) : Int))) := F
  rw [Nat.zero_add] at F
  unfold fX4_countMatching_107_100006
  rw [F]
  by_cases e : mt T t [101, 120, 105, 116, 32] p = 5
  · rw [if_pos e, obind, oS_l, len100006, obind, e]
    rfl
  · rw [if_neg e, obind, oS_r]
theorem len100007 (m : pmI) : fJ0_length_8abf5_100007 m = some (z 6) := (by decide +kernel : fJ0_length_8abf5_100007 m00 = some (z 6))
theorem ch1000070 : ∀ i : Nat, i < 6 → fJ0_charAt_5068e_100007 (z (i : Int)) m00 = some (z (([110, 97, 105, 108, 115, 32] : List Nat).getD i 0 : Int)) := by decide +kernel
theorem ch100007 {i : Nat} (h : i < 6) (m : pmI) : fJ0_charAt_5068e_100007 (z (i : Int)) m = some (z (([110, 97, 105, 108, 115, 32] : List Nat).getD i 0 : Int)) := ch1000070 i h
theorem cm100007 (h : tOk T t) (hm : cT m T t) (h5 : m.1 107 5 = z (p : Int)) (hp : p ≤ 100) (hn : 100 ≤ n) : fX4_countMatching_107_100007 n m = some (z (mt T t [110, 97, 105, 108, 115, 32] p : Int)) := by
  have F := cm_gen (T := T) (t := t) (p := p) [110, 97, 105, 108, 115, 32] (lX4_countMatching_107_100007_l2 n m) (fun k i c hc => by
    have hi : i < 6 := (List.getElem?_eq_some_iff.mp hc).1
    have hg : ([110, 97, 105, 108, 115, 32] : List Nat).getD i 0 = c := by rw [List.getD_eq_getElem?_getD, hc]; rfl
    have sb := sg_b h (p + i)
    have hcb : c ≤ 200 := by
      rw [← hg]
      exact (show ∀ i : Nat, i < 6 → ([110, 97, 105, 108, 115, 32] : List Nat).getD i 0 ≤ 200 by decide) i hi
    show bX4_countMatching_107_100007_l2 n m (lX4_countMatching_107_100007_l2 n m k) (z (i : Int)) = _
    unfold bX4_countMatching_107_100007_l2
    rw [len100007, obind, if_pos (zlt (by omega)), h5, z_add, show (p : Int) + (i : Int) = ((p + i : Nat) : Int) from rfl, c_sg h hm (by omega), obind, ch100007 hi, obind, hg, show z 1 = z (1 : Int) from rfl, z_add]
    by_cases e : sg T t (p + i) = (c : Int)
    · rw [if_pos (by rw [e]), if_pos e]
    · rw [if_neg (zne (by omega)), if_neg e]) (fun k => by
    show bX4_countMatching_107_100007_l2 n m (lX4_countMatching_107_100007_l2 n m k) (z 6) = _
    unfold bX4_countMatching_107_100007_l2
    rw [len100007, obind, if_neg (zge (by omega))]) 6 0 n rfl (by omega)
  have F : lX4_countMatching_107_100007_l2 n m n (z 0) = if 0 + mt T t [110, 97, 105, 108, 115, 32] p = 6 then some (.inl ()) else some (.inr (z ((0 + mt T t [110, 97, 105, 108, 115, 32] p : Nat) : Int))) := F
  rw [Nat.zero_add] at F
  unfold fX4_countMatching_107_100007
  rw [F]
  by_cases e : mt T t [110, 97, 105, 108, 115, 32] p = 6
  · rw [if_pos e, obind, oS_l, len100007, obind, e]
    rfl
  · rw [if_neg e, obind, oS_r]
theorem len100008 (m : pmI) : fJ0_length_8abf5_100008 m = some (z 5) := (by decide +kernel : fJ0_length_8abf5_100008 m00 = some (z 5))
theorem ch1000080 : ∀ i : Nat, i < 5 → fJ0_charAt_5068e_100008 (z (i : Int)) m00 = some (z (([108, 101, 97, 118, 101] : List Nat).getD i 0 : Int)) := by decide +kernel
theorem ch100008 {i : Nat} (h : i < 5) (m : pmI) : fJ0_charAt_5068e_100008 (z (i : Int)) m = some (z (([108, 101, 97, 118, 101] : List Nat).getD i 0 : Int)) := ch1000080 i h
theorem cm100008 (h : tOk T t) (hm : cT m T t) (h5 : m.1 107 5 = z (p : Int)) (hp : p ≤ 100) (hn : 100 ≤ n) : fX4_countMatching_107_100008 n m = some (z (mt T t [108, 101, 97, 118, 101] p : Int)) := by
  have F := cm_gen (T := T) (t := t) (p := p) [108, 101, 97, 118, 101] (lX4_countMatching_107_100008_l2 n m) (fun k i c hc => by
    have hi : i < 5 := (List.getElem?_eq_some_iff.mp hc).1
    have hg : ([108, 101, 97, 118, 101] : List Nat).getD i 0 = c := by rw [List.getD_eq_getElem?_getD, hc]; rfl
    have sb := sg_b h (p + i)
    have hcb : c ≤ 200 := by
      rw [← hg]
      exact (show ∀ i : Nat, i < 5 → ([108, 101, 97, 118, 101] : List Nat).getD i 0 ≤ 200 by decide) i hi
    show bX4_countMatching_107_100008_l2 n m (lX4_countMatching_107_100008_l2 n m k) (z (i : Int)) = _
    unfold bX4_countMatching_107_100008_l2
    rw [len100008, obind, if_pos (zlt (by omega)), h5, z_add, show (p : Int) + (i : Int) = ((p + i : Nat) : Int) from rfl, c_sg h hm (by omega), obind, ch100008 hi, obind, hg, show z 1 = z (1 : Int) from rfl, z_add]
    by_cases e : sg T t (p + i) = (c : Int)
    · rw [if_pos (by rw [e]), if_pos e]
    · rw [if_neg (zne (by omega)), if_neg e]) (fun k => by
    show bX4_countMatching_107_100008_l2 n m (lX4_countMatching_107_100008_l2 n m k) (z 5) = _
    unfold bX4_countMatching_107_100008_l2
    rw [len100008, obind, if_neg (zge (by omega))]) 5 0 n rfl (by omega)
  have F : lX4_countMatching_107_100008_l2 n m n (z 0) = if 0 + mt T t [108, 101, 97, 118, 101] p = 5 then some (.inl ()) else some (.inr (z ((0 + mt T t [108, 101, 97, 118, 101] p : Nat) : Int))) := F
  rw [Nat.zero_add] at F
  unfold fX4_countMatching_107_100008
  rw [F]
  by_cases e : mt T t [108, 101, 97, 118, 101] p = 5
  · rw [if_pos e, obind, oS_l, len100008, obind, e]
    rfl
  · rw [if_neg e, obind, oS_r]
end TEXT

