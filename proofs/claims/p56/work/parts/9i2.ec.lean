/-! calls of the class's and the law's helpers, with other things about -/
/-- .. the class's things as they stand, whatever stood behind them -/
theorem ren_eq {J : pmG} {F : pmM} {m m0 : pmI} {D D0 : Nat → Nat → UInt64} (hm : ∀ i, i < 113 → m0.1 i = m.1 i ∧ m0.2 i = m.2 i ∧ D0 i = D i) : pmRen id (sst m0 D0) (eS J F m D) := by
  refine ⟨fun _ _ => rfl, fun _ _ _ _ h => h, fun i hi => ?_⟩
  have hi : i < 113 := by
    have h1 : i < pmG0.length := hi
    rw [pmG0_len] at h1
    exact h1
  have e : ∀ {α : Type} (f g : Nat → Nat → α), mixR f g i = f i := fun f g => by
    funext k
    exact if_pos hi
  obtain ⟨g1, g2, g3⟩ := hm i hi
  refine ⟨?_, ?_, (e m.1 F.1).trans g1.symm, (e m.2 F.2.1).trans g2.symm, fun k => ?_, (e D F.2.2.2).trans g3.symm⟩
  · show i < (pmG0 ++ J).length
    rw [pmG0_app]
    omega
  · exact List.getElem?_append_left (by rw [pmG0_len]; exact hi)
  · show mixR pmR0 F.2.2.1 i k = (pmR0 i k).map id
    rw [e]
    cases pmR0 i k <;> rfl
section EC
variable {E : pmEv0} {d n : Nat} {J : pmG} {F : pmM} {m : pmI} {D : Nat → Nat → UInt64} {W : Wd}
theorem ec_v {d' t : Nat} {as : List Value} {x : Int32} {m' : pmI} {w : Nat} {o : Option (Int32 × pmI × Nat)} {A B : Nat} (ho : o = some (x, m', w)) (he : ∀ b, o = some b → pmEv Pg E d' t as (sst m D) (gL D b)) (hd : d' ≤ d) (has : okA as = true) (hF : okF9 J F) (hA : w ≤ A) (hB : 6 * w ≤ B) :
    EC E d t as (eS J F m D) A B (fun v S' => v = some (.int x) ∧ S' = eS J F m' D) :=
  ⟨some (.int x), eS J F m' D, w, 6 * w, Or.inr (calR_id (pmEv_le (he _ ho) hd) has hF), hA, hB, rfl, rfl⟩
theorem ec_oc {d' t : Nat} {as : List Value} {o : Option (Int32 × pmI × Nat)} {A B : Nat} (h : Oc W o) (he : ∀ b, o = some b → pmEv Pg E d' t as (sst m D) (gL D b)) (hd : d' ≤ d) (has : okA as = true) (hF : okF9 J F) (hA : 1 ≤ A) (hB : 6 ≤ B) :
    EC E d t as (eS J F m D) A B (fun v S' => ∃ x m' W', v = some (.int (z x)) ∧ S' = eS J F m' D ∧ cInv m' W' ∧ OcW W x W') := by
  obtain ⟨x, m', w, W', e, hw, i1, o1⟩ := h
  exact ⟨some (.int (z x)), eS J F m' D, w, 6 * w, Or.inr (calR_id (pmEv_le (he _ e) hd) has hF), by omega, by omega, x, m', W', rfl, rfl, i1, o1⟩
/-- a number out of the script -/
theorem k_in (m : pmI) (i : Nat) (hi : i < 2000000) {b : Nat} (hb : 0 < b ∧ b < 1000) : ∃ r : Nat, r < b ∧ fL_in_99998 E (z (i : Int)) (z (b : Int)) m = some (z (r : Int)) := by
  unfold fL_in_99998
  have hc : ∃ v, fL_cell_99998 E (z (i : Int)) m = some v := by
    unfold fL_cell_99998
    split
    · rename_i h
      by_cases hE : okI (z (i : Int)) E.1 = true
      · rw [if_pos hE]
        exact ⟨_, rfl⟩
      · exfalso
        apply hE
        unfold okI
        rw [decide_eq_true_eq, z_nat (by omega)]
        rintro (g | g)
        · exact absurd g (show ¬ z (i : Int) < z 0 from zge (by omega))
        · rw [zN, Int32.lt_iff_toInt_lt, z_toInt (by omega)] at h
          have h2 := Int32.toInt_ofInt (n := (E.1 : Int))
          rw [show (z (E.1 : Int)).toInt = (Int32.ofInt (E.1 : Int)).toInt from rfl, h2, show Int32.size = 4294967296 from rfl, Int.bmod_def] at h
          split at h <;> omega
    · exact ⟨_, rfl⟩
  obtain ⟨v, hv⟩ := hc
  rw [hv, obind, if_pos (show ¬ z (b : Int) = 0 from fun g => absurd (show z (b : Int) = z 0 from g) (zne (by omega)))]
  obtain ⟨u, hu1, hu2⟩ : ∃ u : Nat, (u : Int) < 2147483648 ∧ v &&& z 2147483647 = z (u : Int) := by
    refine ⟨(v &&& z 2147483647).toInt.toNat, ?_, ?_⟩
    · have := (v &&& z 2147483647).toInt_lt
      omega
    · have h0 : 0 ≤ (v &&& z 2147483647).toInt := by
        have h1 : (v &&& z 2147483647).toBitVec = v.toBitVec &&& 2147483647#32 := rfl
        have h2 : (v &&& z 2147483647).toInt = (v.toBitVec &&& 2147483647#32).toInt := rfl
        rw [h2, BitVec.toInt_eq_toNat_of_msb]
        · omega
        · rw [BitVec.msb_and]
          simp
          intro _
          rfl
      show v &&& z 2147483647 = Int32.ofInt (((v &&& z 2147483647).toInt.toNat : Nat) : Int)
      rw [Int.toNat_of_nonneg h0, Int32.ofInt_toInt]
  rw [hu2]
  refine ⟨u % b, Nat.mod_lt _ hb.1, ?_⟩
  have hd : z (u : Int) / z (b : Int) = z ((u / b : Nat) : Int) := by
    have h1 := z_toInt (k := (u : Int)) (by omega)
    have h2 := z_toInt (k := (b : Int)) (by omega)
    have h3 : (z (u : Int) / z (b : Int)).toInt = ((u / b : Nat) : Int) := by
      rw [Int32.toInt_div_of_ne_left _ _ (by
        intro g
        have := congrArg Int32.toInt g
        rw [h1] at this
        have h9 : Int32.minValue.toInt = -2147483648 := rfl
        omega), h1, h2, Int.tdiv_eq_ediv_of_nonneg (by omega)]
      omega
    rw [← Int32.ofInt_toInt (z (u : Int) / z (b : Int)), h3]
    rfl
  rw [hd, z_mul, z_sub]
  congr 2
  have := Nat.div_add_mod u b
  have h2 : ((u / b : Nat) : Int) * (b : Int) = ((b * (u / b) : Nat) : Int) := by
    rw [Nat.mul_comm]
    exact (Int.natCast_mul _ _).symm
  omega
end EC
