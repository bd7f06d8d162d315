/-! programs: the class executes any command -/
section CCMD
variable {n T : Nat} {t : Nat → Nat} {A : Ab} {m : pmI}
theorem CStp_cg {s : Int × Int × Ab} {F F' : Option (Int32 × pmI)} {X X' : pmI → Option pmI} (hF : F = F') (hX : ∀ m1, fr cS m m1 → X m1 = X' m1) (h : CStp m A s F' X') : CStp m A s F X := by
  obtain ⟨c, m1, e1, hc, f1, r1, h⟩ := h
  refine ⟨c, m1, hF.trans e1, hc, f1, r1, h.elim Or.inl (fun ⟨a, b, m3, e3, r3⟩ => Or.inr ⟨a, b, m3, (hX m1 f1).trans e3, r3⟩)⟩
theorem arg_at {i j : Nat} (hi : i < 10) (hj : j < 3) (m : pmI) : fX4_argument_107 (z (i : Int)) (z (j : Int)) m = some (m.1 110 (3 * i + j)) := by
  unfold fX4_argument_107 fX8_at_110
  rw [show z 3 = z (3 : Int) from rfl, z_mul, z_add, show (i : Int) * 3 + (j : Int) = ((3 * i + j : Nat) : Int) by omega, if_neg (zge (by omega)), if_pos (zlt (by omega)), if_pos (okI_z (by omega)), z_nat (by omega), obind]
theorem kin_at {i : Nat} (hi : i < 10) (m : pmI) : fX8_at_109 (z (i : Int)) m = some (m.1 109 i) := by
  unfold fX8_at_109
  rw [if_neg (zge (by omega)), if_pos (zlt (by omega)), if_pos (okI_z (by omega)), z_nat (by omega)]
theorem c_cmd (hn : 100 ≤ n) (ht : tOk T t) (hm : cX m T t) (h : repC 1 m A) (w : wfA A) (hX : aX A < 1000000) {i k : Nat} {as : List Nat} (hi : i < 10) (hc : CmOk T t (k, as)) (h109 : m.1 109 i = z (k : Int)) (h110 : ∀ j, j < as.length → m.1 110 (3 * i + j) = z ((as.getD j 0 : Nat) : Int)) : CStp m A (sCmd t A (k, as)) (fX8_commandFault n (z (i : Int)) m) (fX8_execute n (z (i : Int))) := by
  have g0 : as.getD 0 0 ≤ 99 := CmOk_g hc 0
  have g1 : as.getD 1 0 ≤ 99 := CmOk_g hc 1
  have g2 : as.getD 2 0 ≤ 99 := CmOk_g hc 2
  have hl : as.length = na (sp k) := hc.2.1
  have a0 : ∀ m, fX4_argument_107 (z (i : Int)) (z 0) m = some (m.1 110 (3 * i + 0)) := fun m => arg_at (j := 0) hi (by omega) m
  have a1 : ∀ m, fX4_argument_107 (z (i : Int)) (z 1) m = some (m.1 110 (3 * i + 1)) := fun m => arg_at (j := 1) hi (by omega) m
  have a2 : ∀ m, fX4_argument_107 (z (i : Int)) (z 2) m = some (m.1 110 (3 * i + 2)) := fun m => arg_at (j := 2) hi (by omega) m
  have r9 : ∀ m1, fr cS m m1 → m1.1 109 = m.1 109 := fun m1 f => (f 109 (by decide)).1
  have r10 : ∀ m1, fr cS m m1 → m1.1 110 = m.1 110 := fun m1 f => (f 110 (by decide)).1
  have hk : k = 0 ∨ k = 1 ∨ k = 2 ∨ k = 3 ∨ k = 4 ∨ k = 5 ∨ k = 6 ∨ k = 7 ∨ k = 8 := by
    have : k < 9 := hc.1
    omega
  rcases hk with rfl | rfl | rfl | rfl | rfl | rfl | rfl | rfl | rfl
  · have q0 := h110 0 (by rw [hl]; decide)
    have q1 := h110 1 (by rw [hl]; decide)
    refine CStp_cg ?_ (fun m1 f => ?_) (k_prop (n := n) (x := ((as.getD 0 0 : Nat) : Int)) (y := ((as.getD 1 0 : Nat) : Int)) h w (by omega) (by omega) (by omega))
    · unfold fX8_commandFault
      rw [a0, obind, a1, obind, a2, obind, kin_at hi, obind, h109, if_pos (show z ((0 : Nat) : Int) = z 0 from rfl), q0, q1]
    · unfold fX8_execute
      rw [a0, obind, a1, obind, a2, obind, kin_at hi, obind, r9 m1 f, r10 m1 f, h109, if_pos (show z ((0 : Nat) : Int) = z 0 from rfl), q0, q1]
  · have q0 := h110 0 (by rw [hl]; decide)
    have q1 := h110 1 (by rw [hl]; decide)
    have q2 := h110 2 (by rw [hl]; decide)
    refine CStp_cg ?_ (fun m1 f => ?_) (k_add (n := n) (x := ((as.getD 0 0 : Nat) : Int)) (y := ((as.getD 1 0 : Nat) : Int)) (v := ((as.getD 2 0 : Nat) : Int)) h w (by omega) (by omega) (by omega) (by omega) hX)
    · unfold fX8_commandFault
      rw [a0, obind, a1, obind, a2, obind, kin_at hi, obind, h109, if_neg (by decide), if_pos (show z ((1 : Nat) : Int) = z 1 from rfl), q0, q1, q2]
    · unfold fX8_execute
      rw [a0, obind, a1, obind, a2, obind, kin_at hi, obind, r9 m1 f, r10 m1 f, h109, if_neg (by decide), if_pos (show z ((1 : Nat) : Int) = z 1 from rfl), q0, q1, q2]
  · have q0 := h110 0 (by rw [hl]; decide)
    have q1 := h110 1 (by rw [hl]; decide)
    refine CStp_cg ?_ (fun m1 f => ?_) (k_pair (n := n) (a := ((as.getD 0 0 : Nat) : Int)) (b := ((as.getD 1 0 : Nat) : Int)) h w (by omega) (by omega) (by omega))
    · unfold fX8_commandFault
      rw [a0, obind, a1, obind, a2, obind, kin_at hi, obind, h109, if_neg (by decide), if_neg (by decide), if_pos (show z ((2 : Nat) : Int) = z 2 from rfl), q0, q1]
    · unfold fX8_execute
      rw [a0, obind, a1, obind, a2, obind, kin_at hi, obind, r9 m1 f, r10 m1 f, h109, if_neg (by decide), if_neg (by decide), if_pos (show z ((2 : Nat) : Int) = z 2 from rfl), q0, q1]
  · have q0 := h110 0 (by rw [hl]; decide)
    have q1 := h110 1 (by rw [hl]; decide)
    have q2 := h110 2 (by rw [hl]; decide)
    refine CStp_cg ?_ (fun m1 f => ?_) (k_tell (n := n) h w hn ht hm g0 (hc.2.2.2 rfl).1.1 (hc.2.2.2 rfl).1.2 (hc.2.2.2 rfl).2)
    · unfold fX8_commandFault
      rw [a0, obind, a1, obind, a2, obind, kin_at hi, obind, h109, if_neg (by decide), if_neg (by decide), if_neg (by decide), if_pos (show z ((3 : Nat) : Int) = z 3 from rfl), q0, q1, q2]
    · unfold fX8_execute
      rw [a0, obind, a1, obind, a2, obind, kin_at hi, obind, r9 m1 f, r10 m1 f, h109, if_neg (by decide), if_neg (by decide), if_neg (by decide), if_pos (show z ((3 : Nat) : Int) = z 3 from rfl), q0, q1, q2]
  · have q0 := h110 0 (by rw [hl]; decide)
    have q1 := h110 1 (by rw [hl]; decide)
    refine CStp_cg ?_ (fun m1 f => ?_) (k_perf (n := n) (f := ((as.getD 0 0 : Nat) : Int)) (d := ((as.getD 1 0 : Nat) : Int)) h w hn (by omega) (by omega))
    · unfold fX8_commandFault
      rw [a0, obind, a1, obind, a2, obind, kin_at hi, obind, h109, if_neg (by decide), if_neg (by decide), if_neg (by decide), if_neg (by decide), if_pos (show z ((4 : Nat) : Int) = z 4 from rfl), q0, q1]
    · unfold fX8_execute
      rw [a0, obind, a1, obind, a2, obind, kin_at hi, obind, r9 m1 f, r10 m1 f, h109, if_neg (by decide), if_neg (by decide), if_neg (by decide), if_neg (by decide), if_pos (show z ((4 : Nat) : Int) = z 4 from rfl), q0, q1]
  · have q0 := h110 0 (by rw [hl]; decide)
    have q1 := h110 1 (by rw [hl]; decide)
    have q2 := h110 2 (by rw [hl]; decide)
    refine CStp_cg ?_ (fun m1 f => ?_) (k_walk (n := n) (d := ((as.getD 0 0 : Nat) : Int)) (x := ((as.getD 1 0 : Nat) : Int)) (y := ((as.getD 2 0 : Nat) : Int)) h w hn (by omega) (by omega) (by omega))
    · unfold fX8_commandFault
      rw [a0, obind, a1, obind, a2, obind, kin_at hi, obind, h109, if_neg (by decide), if_neg (by decide), if_neg (by decide), if_neg (by decide), if_neg (by decide), if_pos (show z ((5 : Nat) : Int) = z 5 from rfl), q0, q1, q2]
    · unfold fX8_execute
      rw [a0, obind, a1, obind, a2, obind, kin_at hi, obind, r9 m1 f, r10 m1 f, h109, if_neg (by decide), if_neg (by decide), if_neg (by decide), if_neg (by decide), if_neg (by decide), if_pos (show z ((5 : Nat) : Int) = z 5 from rfl), q0, q1, q2]
  · have q0 := h110 0 (by rw [hl]; decide)
    have q1 := h110 1 (by rw [hl]; decide)
    refine CStp_cg ?_ (fun m1 f => ?_) (k_exit (n := n) (x := ((as.getD 0 0 : Nat) : Int)) (y := ((as.getD 1 0 : Nat) : Int)) h w (by omega) (by omega) (by omega))
    · unfold fX8_commandFault
      rw [a0, obind, a1, obind, a2, obind, kin_at hi, obind, h109, if_neg (by decide), if_neg (by decide), if_neg (by decide), if_neg (by decide), if_neg (by decide), if_neg (by decide), if_pos (show z ((6 : Nat) : Int) = z 6 from rfl), q0, q1]
    · unfold fX8_execute
      rw [a0, obind, a1, obind, a2, obind, kin_at hi, obind, r9 m1 f, r10 m1 f, h109, if_neg (by decide), if_neg (by decide), if_neg (by decide), if_neg (by decide), if_neg (by decide), if_neg (by decide), if_pos (show z ((6 : Nat) : Int) = z 6 from rfl), q0, q1]
  · have q0 := h110 0 (by rw [hl]; decide)
    refine CStp_cg ?_ (fun m1 f => ?_) (k_nails (n := n) (d := ((as.getD 0 0 : Nat) : Int)) h w (by omega) (by omega))
    · unfold fX8_commandFault
      rw [a0, obind, a1, obind, a2, obind, kin_at hi, obind, h109, if_neg (by decide), if_neg (by decide), if_neg (by decide), if_neg (by decide), if_neg (by decide), if_neg (by decide), if_neg (by decide), if_pos (show z ((7 : Nat) : Int) = z 7 from rfl), q0]
    · unfold fX8_execute
      rw [a0, obind, a1, obind, a2, obind, kin_at hi, obind, r9 m1 f, r10 m1 f, h109, if_neg (by decide), if_neg (by decide), if_neg (by decide), if_neg (by decide), if_neg (by decide), if_neg (by decide), if_neg (by decide), if_pos (show z ((7 : Nat) : Int) = z 7 from rfl), q0]
  · have q0 := hl
    refine CStp_cg ?_ (fun m1 f => ?_) (k_leave (n := n) h w hn)
    · unfold fX8_commandFault
      rw [a0, obind, a1, obind, a2, obind, kin_at hi, obind, h109, if_neg (by decide), if_neg (by decide), if_neg (by decide), if_neg (by decide), if_neg (by decide), if_neg (by decide), if_neg (by decide), if_neg (by decide)]
    · unfold fX8_execute
      rw [a0, obind, a1, obind, a2, obind, kin_at hi, obind, r9 m1 f, r10 m1 f, h109, if_neg (by decide), if_neg (by decide), if_neg (by decide), if_neg (by decide), if_neg (by decide), if_neg (by decide), if_neg (by decide), if_neg (by decide)]
end CCMD

