/-! states are copied (the class) -/
theorem w_1 (m : pmI) (q k : Nat) (x : Int32) : ∃ m', (pmU m.1 q k x, m.2) = m' ∧ m'.2 = m.2 ∧ (∀ a, a ≠ q → m'.1 a = m.1 a) ∧ ∀ b, m'.1 q b = if b = k then x else m.1 q b :=
  ⟨_, rfl, rfl, fun a ha => rowne ha, fun b => pU_row m.1 q k x b⟩
theorem w_J (m : pmI) (q : Nat) (x : Int64) : ∃ m', (m.1, pmU m.2 q 0 x) = m' ∧ m'.1 = m.1 ∧ (∀ a, a ≠ q → m'.2 a = m.2 a) ∧ m'.2 q 0 = x :=
  ⟨_, rfl, rfl, fun a ha => rowneJ ha, pU_same m.2 q 0 x⟩
theorem w_c (m : pmI) (q o n : Nat) : ∃ m', (((fun i => if i = q then va_cpy (m.1 o) (m.1 q) 0 0 n else m.1 i), m.2) : pmI) = m' ∧ m'.2 = m.2 ∧ (∀ a, a ≠ q → m'.1 a = m.1 a) ∧ ∀ b, b < n → m'.1 q b = m.1 o b := by
  refine ⟨_, rfl, rfl, fun a ha => if_neg ha, fun b hb => ?_⟩
  show (if q = q then va_cpy (m.1 o) (m.1 q) 0 0 n else m.1 q) b = m.1 o b
  rw [if_pos rfl]
  unfold va_cpy
  rw [if_pos ⟨Nat.zero_le _, by omega⟩, show 0 + (b - 0) = b by omega]
def cpF (q o : Nat) (m : pmI) : Option pmI := pmLet (m.1, (pmU m.2 q 0 (m.2 o 0))) fun m1 => pmLet ((pmU m1.1 q 1 (m1.1 o 1)), m1.2) fun m2 => pmLet ((pmU m2.1 q 2 (m2.1 o 2)), m2.2) fun m3 => pmLet ((pmU m3.1 q 9 (m3.1 o 9)), m3.2) fun m4 => pmLet ((pmU m4.1 q 11 (m4.1 o 11)), m4.2) fun m5 => pmLet ((pmU m5.1 q 12 (m5.1 o 12)), m5.2) fun m6 => pmLet ((pmU m6.1 q 13 (m6.1 o 13)), m6.2) fun m7 => pmLet ((pmU m7.1 q 14 (m7.1 o 14)), m7.2) fun m8 => pmLet ((fun i => if i = q + 1 then va_cpy (m8.1 (o + 1)) (m8.1 (q + 1)) 0 0 8 else m8.1 i), m8.2) fun m9 => pmLet ((fun i => if i = q + 2 then va_cpy (m9.1 (o + 2)) (m9.1 (q + 2)) 0 0 8 else m9.1 i), m9.2) fun m10 => pmLet ((fun i => if i = q + 3 then va_cpy (m10.1 (o + 3)) (m10.1 (q + 3)) 0 0 8 else m10.1 i), m10.2) fun m11 => pmLet ((fun i => if i = q + 4 then va_cpy (m11.1 (o + 4)) (m11.1 (q + 4)) 0 0 8 else m11.1 i), m11.2) fun m12 => pmLet ((fun i => if i = q + 5 then va_cpy (m12.1 (o + 5)) (m12.1 (q + 5)) 0 0 72 else m12.1 i), m12.2) fun m13 => pmLet ((fun i => if i = q + 6 then va_cpy (m13.1 (o + 6)) (m13.1 (q + 6)) 0 0 6 else m13.1 i), m13.2) fun m14 => some ((fun i => if i = q + 7 then va_cpy (m14.1 (o + 7)) (m14.1 (q + 7)) 0 0 6 else m14.1 i), m14.2)
theorem c_copy {q o : Nat} (hqo : q + 8 ≤ o ∨ o + 8 ≤ q) {m : pmI} {A : Ab} (h : repC o m A) (w : wfA A) : ∃ m', cpF q o m = some m' ∧ repC q m' A ∧ ∀ i, ¬ (q ≤ i ∧ i ≤ q + 7) → m'.1 i = m.1 i ∧ m'.2 i = m.2 i := by
  obtain ⟨p1, p2, p3, p4, p5, p6, p7, p8, p9, p10, p11⟩ := h
  have w1 := w.1
  have w6 := w.2.2.2.2.2.2.1
  unfold cpF
  obtain ⟨m1, e1, j1, o1, r1⟩ := w_J m q (m.2 o 0)
  rw [pmLet_eq, e1]
  obtain ⟨m2, e2, j2, o2, r2⟩ := w_1 m1 q 1 (m1.1 o 1)
  rw [pmLet_eq, e2]
  obtain ⟨m3, e3, j3, o3, r3⟩ := w_1 m2 q 2 (m2.1 o 2)
  rw [pmLet_eq, e3]
  obtain ⟨m4, e4, j4, o4, r4⟩ := w_1 m3 q 9 (m3.1 o 9)
  rw [pmLet_eq, e4]
  obtain ⟨m5, e5, j5, o5, r5⟩ := w_1 m4 q 11 (m4.1 o 11)
  rw [pmLet_eq, e5]
  obtain ⟨m6, e6, j6, o6, r6⟩ := w_1 m5 q 12 (m5.1 o 12)
  rw [pmLet_eq, e6]
  obtain ⟨m7, e7, j7, o7, r7⟩ := w_1 m6 q 13 (m6.1 o 13)
  rw [pmLet_eq, e7]
  obtain ⟨m8, e8, j8, o8, r8⟩ := w_1 m7 q 14 (m7.1 o 14)
  rw [pmLet_eq, e8]
  obtain ⟨m9, e9, j9, o9, r9⟩ := w_c m8 (q + 1) (o + 1) 8
  rw [pmLet_eq, e9]
  obtain ⟨m10, e10, j10, o10, r10⟩ := w_c m9 (q + 2) (o + 2) 8
  rw [pmLet_eq, e10]
  obtain ⟨m11, e11, j11, o11, r11⟩ := w_c m10 (q + 3) (o + 3) 8
  rw [pmLet_eq, e11]
  obtain ⟨m12, e12, j12, o12, r12⟩ := w_c m11 (q + 4) (o + 4) 8
  rw [pmLet_eq, e12]
  obtain ⟨m13, e13, j13, o13, r13⟩ := w_c m12 (q + 5) (o + 5) 72
  rw [pmLet_eq, e13]
  obtain ⟨m14, e14, j14, o14, r14⟩ := w_c m13 (q + 6) (o + 6) 6
  rw [pmLet_eq, e14]
  obtain ⟨m15, e15, j15, o15, r15⟩ := w_c m14 (q + 7) (o + 7) 6
  rw [e15]
  have ro : ∀ i, ¬ (q ≤ i ∧ i ≤ q + 7) → m1.1 i = m.1 i ∧ m2.1 i = m.1 i ∧ m3.1 i = m.1 i ∧ m4.1 i = m.1 i ∧ m5.1 i = m.1 i ∧ m6.1 i = m.1 i ∧ m7.1 i = m.1 i ∧ m8.1 i = m.1 i ∧ m9.1 i = m.1 i ∧ m10.1 i = m.1 i ∧ m11.1 i = m.1 i ∧ m12.1 i = m.1 i ∧ m13.1 i = m.1 i ∧ m14.1 i = m.1 i ∧ m15.1 i = m.1 i := fun i hi => by
    have x1 : m1.1 i = m.1 i := by rw [j1]
    have x2 : m2.1 i = m.1 i := (o2 i (by omega)).trans x1
    have x3 : m3.1 i = m.1 i := (o3 i (by omega)).trans x2
    have x4 : m4.1 i = m.1 i := (o4 i (by omega)).trans x3
    have x5 : m5.1 i = m.1 i := (o5 i (by omega)).trans x4
    have x6 : m6.1 i = m.1 i := (o6 i (by omega)).trans x5
    have x7 : m7.1 i = m.1 i := (o7 i (by omega)).trans x6
    have x8 : m8.1 i = m.1 i := (o8 i (by omega)).trans x7
    have x9 : m9.1 i = m.1 i := (o9 i (by omega)).trans x8
    have x10 : m10.1 i = m.1 i := (o10 i (by omega)).trans x9
    have x11 : m11.1 i = m.1 i := (o11 i (by omega)).trans x10
    have x12 : m12.1 i = m.1 i := (o12 i (by omega)).trans x11
    have x13 : m13.1 i = m.1 i := (o13 i (by omega)).trans x12
    have x14 : m14.1 i = m.1 i := (o14 i (by omega)).trans x13
    have x15 : m15.1 i = m.1 i := (o15 i (by omega)).trans x14
    exact ⟨x1, x2, x3, x4, x5, x6, x7, x8, x9, x10, x11, x12, x13, x14, x15⟩
  have jj : m15.2 = m1.2 := by rw [j15, j14, j13, j12, j11, j10, j9, j8, j7, j6, j5, j4, j3, j2]
  obtain ⟨a1, a2, a3, a4, a5, a6, a7, a8, a9, a10, a11, a12, a13, a14, a15⟩ := ro o (by omega)
  obtain ⟨b1_1, b1_2, b1_3, b1_4, b1_5, b1_6, b1_7, b1_8, b1_9, b1_10, b1_11, b1_12, b1_13, b1_14, b1_15⟩ := ro (o + 1) (by omega)
  obtain ⟨b2_1, b2_2, b2_3, b2_4, b2_5, b2_6, b2_7, b2_8, b2_9, b2_10, b2_11, b2_12, b2_13, b2_14, b2_15⟩ := ro (o + 2) (by omega)
  obtain ⟨b3_1, b3_2, b3_3, b3_4, b3_5, b3_6, b3_7, b3_8, b3_9, b3_10, b3_11, b3_12, b3_13, b3_14, b3_15⟩ := ro (o + 3) (by omega)
  obtain ⟨b4_1, b4_2, b4_3, b4_4, b4_5, b4_6, b4_7, b4_8, b4_9, b4_10, b4_11, b4_12, b4_13, b4_14, b4_15⟩ := ro (o + 4) (by omega)
  obtain ⟨b5_1, b5_2, b5_3, b5_4, b5_5, b5_6, b5_7, b5_8, b5_9, b5_10, b5_11, b5_12, b5_13, b5_14, b5_15⟩ := ro (o + 5) (by omega)
  obtain ⟨b6_1, b6_2, b6_3, b6_4, b6_5, b6_6, b6_7, b6_8, b6_9, b6_10, b6_11, b6_12, b6_13, b6_14, b6_15⟩ := ro (o + 6) (by omega)
  obtain ⟨b7_1, b7_2, b7_3, b7_4, b7_5, b7_6, b7_7, b7_8, b7_9, b7_10, b7_11, b7_12, b7_13, b7_14, b7_15⟩ := ro (o + 7) (by omega)
  have q8 : m15.1 q = m8.1 q := by rw [o15 q (by omega), o14 q (by omega), o13 q (by omega), o12 q (by omega), o11 q (by omega), o10 q (by omega), o9 q (by omega)]
  have f1 : m15.1 q 1 = m.1 o 1 := by rw [q8, r8, if_neg (by decide), r7, if_neg (by decide), r6, if_neg (by decide), r5, if_neg (by decide), r4, if_neg (by decide), r3, if_neg (by decide), r2, if_pos rfl, a1]
  have f2 : m15.1 q 2 = m.1 o 2 := by rw [q8, r8, if_neg (by decide), r7, if_neg (by decide), r6, if_neg (by decide), r5, if_neg (by decide), r4, if_neg (by decide), r3, if_pos rfl, a2]
  have f9 : m15.1 q 9 = m.1 o 9 := by rw [q8, r8, if_neg (by decide), r7, if_neg (by decide), r6, if_neg (by decide), r5, if_neg (by decide), r4, if_pos rfl, a3]
  have f11 : m15.1 q 11 = m.1 o 11 := by rw [q8, r8, if_neg (by decide), r7, if_neg (by decide), r6, if_neg (by decide), r5, if_pos rfl, a4]
  have f12 : m15.1 q 12 = m.1 o 12 := by rw [q8, r8, if_neg (by decide), r7, if_neg (by decide), r6, if_pos rfl, a5]
  have f13 : m15.1 q 13 = m.1 o 13 := by rw [q8, r8, if_neg (by decide), r7, if_pos rfl, a6]
  have f14 : m15.1 q 14 = m.1 o 14 := by rw [q8, r8, if_pos rfl, a7]
  have g1 : ∀ b, b < 8 → m15.1 (q + 1) b = m.1 (o + 1) b := fun b hb => by rw [o15 (q + 1) (by omega), o14 (q + 1) (by omega), o13 (q + 1) (by omega), o12 (q + 1) (by omega), o11 (q + 1) (by omega), o10 (q + 1) (by omega), r9 b hb, b1_8]
  have g2 : ∀ b, b < 8 → m15.1 (q + 2) b = m.1 (o + 2) b := fun b hb => by rw [o15 (q + 2) (by omega), o14 (q + 2) (by omega), o13 (q + 2) (by omega), o12 (q + 2) (by omega), o11 (q + 2) (by omega), r10 b hb, b2_9]
  have g3 : ∀ b, b < 8 → m15.1 (q + 3) b = m.1 (o + 3) b := fun b hb => by rw [o15 (q + 3) (by omega), o14 (q + 3) (by omega), o13 (q + 3) (by omega), o12 (q + 3) (by omega), r11 b hb, b3_10]
  have g4 : ∀ b, b < 8 → m15.1 (q + 4) b = m.1 (o + 4) b := fun b hb => by rw [o15 (q + 4) (by omega), o14 (q + 4) (by omega), o13 (q + 4) (by omega), r12 b hb, b4_11]
  have g5 : ∀ b, b < 72 → m15.1 (q + 5) b = m.1 (o + 5) b := fun b hb => by rw [o15 (q + 5) (by omega), o14 (q + 5) (by omega), r13 b hb, b5_12]
  have g6 : ∀ b, b < 6 → m15.1 (q + 6) b = m.1 (o + 6) b := fun b hb => by rw [o15 (q + 6) (by omega), r14 b hb, b6_13]
  have g7 : ∀ b, b < 6 → m15.1 (q + 7) b = m.1 (o + 7) b := fun b hb => by rw [r15 b hb, b7_14]
  refine ⟨m15, rfl, ⟨fun k hk => ?_, f1.trans p2, f2.trans p3, fun k hk => ⟨(g1 k (by omega)).trans (p4 k hk).1, (g2 k (by omega)).trans (p4 k hk).2.1, (g3 k (by omega)).trans (p4 k hk).2.2.1, (g4 k (by omega)).trans (p4 k hk).2.2.2⟩, fun f hf => ⟨(g6 f hf).trans (p5 f hf).1, fun b hb => ?_⟩, f9.trans p6, fun k hk => (g7 k (by omega)).trans (p7 k hk), f11.trans p8, f12.trans p9, f13.trans p10, f14.trans p11⟩, fun i hi => ⟨?_, ?_⟩⟩
  · rw [jj, r1]
    exact p1 k hk
  · have w12 := (w.2.2.2.2.2.1 f hf).1
    exact (g5 (12 * f + b) (by omega)).trans ((p5 f hf).2 b hb)
  · exact (ro i hi).2.2.2.2.2.2.2.2.2.2.2.2.2.2
  · rw [jj]
    exact o1 i (by omega)
theorem cp_83_1 (m : pmI) : fX6_copyFrom_83_1 m = cpF 83 1 m := rfl
theorem cp_75_1 (m : pmI) : fX6_copyFrom_75_1 m = cpF 75 1 m := rfl
theorem cp_67_1 (m : pmI) : fX6_copyFrom_67_1 m = cpF 67 1 m := rfl
theorem cp_59_1 (m : pmI) : fX6_copyFrom_59_1 m = cpF 59 1 m := rfl
theorem cp_51_1 (m : pmI) : fX6_copyFrom_51_1 m = cpF 51 1 m := rfl
theorem cp_43_1 (m : pmI) : fX6_copyFrom_43_1 m = cpF 43 1 m := rfl
theorem cp_35_1 (m : pmI) : fX6_copyFrom_35_1 m = cpF 35 1 m := rfl
theorem cp_27_1 (m : pmI) : fX6_copyFrom_27_1 m = cpF 27 1 m := rfl
theorem cp_17_1 (m : pmI) : fX6_copyFrom_17_1 m = cpF 17 1 m := rfl
theorem cp_1_17 (m : pmI) : fX6_copyFrom_1_17 m = cpF 1 17 m := rfl
theorem cp_83_17 (m : pmI) : fX6_copyFrom_83_17 m = cpF 83 17 m := rfl
theorem cp_75_17 (m : pmI) : fX6_copyFrom_75_17 m = cpF 75 17 m := rfl
theorem cp_67_17 (m : pmI) : fX6_copyFrom_67_17 m = cpF 67 17 m := rfl
theorem cp_59_17 (m : pmI) : fX6_copyFrom_59_17 m = cpF 59 17 m := rfl
theorem cp_51_17 (m : pmI) : fX6_copyFrom_51_17 m = cpF 51 17 m := rfl
theorem cp_43_17 (m : pmI) : fX6_copyFrom_43_17 m = cpF 43 17 m := rfl
theorem cp_35_17 (m : pmI) : fX6_copyFrom_35_17 m = cpF 35 17 m := rfl
theorem cp_27_17 (m : pmI) : fX6_copyFrom_27_17 m = cpF 27 17 m := rfl
theorem cp_1_83 (m : pmI) : fX6_copyFrom_1_83 m = cpF 1 83 m := rfl
theorem cp_1_75 (m : pmI) : fX6_copyFrom_1_75 m = cpF 1 75 m := rfl
theorem cp_1_67 (m : pmI) : fX6_copyFrom_1_67 m = cpF 1 67 m := rfl
theorem cp_1_59 (m : pmI) : fX6_copyFrom_1_59 m = cpF 1 59 m := rfl
theorem cp_1_51 (m : pmI) : fX6_copyFrom_1_51 m = cpF 1 51 m := rfl
theorem cp_1_43 (m : pmI) : fX6_copyFrom_1_43 m = cpF 1 43 m := rfl
theorem cp_1_35 (m : pmI) : fX6_copyFrom_1_35 m = cpF 1 35 m := rfl
theorem cp_1_27 (m : pmI) : fX6_copyFrom_1_27 m = cpF 1 27 m := rfl
theorem cp_9_1 (m : pmI) : fX6_copyFrom_9_1 m = cpF 9 1 m := rfl
theorem cp_1_9 (m : pmI) : fX6_copyFrom_1_9 m = cpF 1 9 m := rfl

