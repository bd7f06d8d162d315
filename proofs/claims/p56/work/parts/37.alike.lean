/-! the law's areAlike, over two rows alone -/
def s2 (a b : Nat → Int32) : pmS := ([.inr (0, 160), .inr (0, 160)], (fun i => if i = 0 then a else b), (fun _ _ => 0), (fun _ _ => none), fun _ _ => 0)
theorem MML_areAlike : MM 233 kL_areAlike (some .boolean) [] 3 := ⟨rfl, rfl, rfl, rfl⟩
theorem z160 : (Int32.ofNat 160) = Int32.ofInt 160 := rfl
theorem ok160 {k : Nat} (h : k < 160) : okI (z (k : Int)) 160 = true := by
  have h1 : (z (k : Int)).toInt = k := Int32.toInt_ofInt_of_le (by omega) (by omega)
  unfold okI
  rw [decide_eq_true_eq]
  rintro (g | g)
  · rw [Int32.lt_iff_toInt_lt, h1] at g
    have : (0 : Int32).toInt = 0 := rfl
    omega
  · have : (z (k : Int)).toNatClampNeg = k := by
      show ((z (k : Int)).toInt).toNat = k
      rw [h1]
      exact Int.toNat_natCast k
    omega
theorem na160 {k : Nat} (h : k < 160) : (z (k : Int)).toNatClampNeg = k := by
  have h1 : (z (k : Int)).toInt = k := Int32.toInt_ofInt_of_le (by omega) (by omega)
  show ((z (k : Int)).toInt).toNat = k
  rw [h1]
  exact Int.toNat_natCast k
theorem ali_from {E : pmEv0} {d : Nat} {a b : Nat → Int32} (hab : ∀ k, k < 160 → a k = b k) : ∀ (e k : Nat), k + e = 160 → XX E d 233 (2, [some (.ref 0), some (.ref 1), some (.int (z (k : Int)))], [], s2 a b) 0 0 (some ()) (fun _ r => r = (.inl (some (.int 1)), s2 a b, 0, 0))
  | 0, k, hk => by
    have hM := MML_areAlike
    obtain rfl : k = 160 := by omega
    exact x_go hM 3 (5, [some (.ref 0), some (.ref 1), some (.int (z ((160 : Nat) : Int)))], [.int (Int32.ofNat 160), .int (z ((160 : Nat) : Int))], s2 a b) rfl (x_sd hM 1 (25, [some (.ref 0), some (.ref 1), some (.int (z ((160 : Nat) : Int)))], [], s2 a b) (ps := [Int32.ofNat 160 ≤ z ((160 : Nat) : Int)]) rfl rfl (pm1 (by decide))
      (x_go hM 1 (26, [some (.ref 0), some (.ref 1), some (.int (z ((160 : Nat) : Int)))], [.int 1], s2 a b) rfl (x_ret hM rfl rfl (pm1 (Or.inr rfl)) (fun r h => h))))
  | e + 1, k, hk => by
    have hM := MML_areAlike
    have h1 : (z (k : Int)).toInt = k := Int32.toInt_ofInt_of_le (by omega) (by omega)
    have hlt : ¬ Int32.ofNat 160 ≤ z (k : Int) := fun g => by
      rw [Int32.le_iff_toInt_le, h1] at g
      have : (Int32.ofNat 160).toInt = 160 := rfl
      omega
    have ih := ali_from (E := E) (d := d) hab e (k + 1) (by omega)
    rw [show z ((k + 1 : Nat) : Int) = z (k : Int) + z 1 from Int32.ofInt_add k 1] at ih
    refine x_go hM 3 (5, [some (.ref 0), some (.ref 1), some (.int (z (k : Int)))], [.int (Int32.ofNat 160), .int (z (k : Int))], s2 a b) rfl (x_sd hM 0 (8, [some (.ref 0), some (.ref 1), some (.int (z (k : Int)))], [], s2 a b) (ps := [¬ Int32.ofNat 160 ≤ z (k : Int)]) rfl rfl (pm1 hlt) ?_)
    refine x_gp hM 6 (14, [some (.ref 0), some (.ref 1), some (.int (z (k : Int)))], [.int (b (z (k : Int)).toNatClampNeg), .int (a (z (k : Int)).toNatClampNeg)], s2 a b) [vp_in (z (k : Int)) 160, vp_in (z (k : Int)) 160] rfl ⟨ok_in (ok160 (by omega)), pm1 (ok_in (ok160 (by omega)))⟩ ?_
    refine x_sd hM 1 (19, [some (.ref 0), some (.ref 1), some (.int (z (k : Int)))], [], s2 a b) (ps := [a (z (k : Int)).toNatClampNeg = b (z (k : Int)).toNatClampNeg]) rfl rfl (pm1 (by rw [na160 (by omega)]; exact hab k (by omega))) ?_
    exact x_go hM 2 (2, [some (.ref 0), some (.ref 1), some (.int (z (k : Int) + z 1))], [], s2 a b) rfl ih
/-- two rows of the same numbers -/
theorem ali_ok {E : pmEv0} {a b : Nat → Int32} (hab : ∀ k, k < 160 → a k = b k) : pmEv Pg E 1 iL_areAlike [.ref 0, .ref 1] (s2 a b) (.inl (some (.int 1)), s2 a b, 0, 0) := by
  have hM := MML_areAlike
  refine x_ev (d := 0) (o := some ()) (g := fun _ => (.inl (some (.int 1)), s2 a b, 0, 0)) hM (Nat.le_of_ble_eq_true rfl) rfl ?_ () rfl
  exact x_go hM 2 (2, [some (.ref 0), some (.ref 1), some (.int (z ((0 : Nat) : Int)))], [], s2 a b) rfl (ali_from hab 160 0 (by omega))
