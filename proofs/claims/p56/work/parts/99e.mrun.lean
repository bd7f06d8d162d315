/-! programs: the model runs a program; the law's call -/
section MRUN
variable {n T : Nat} {t : Nat → Nat}
theorem MPR_f {m m1 : pmI} {P : List Cm} (h : MPR m P) (f : mfr m m1) : MPR m1 P := by
  unfold MPR
  rw [f.2.2 23 (by decide), f.1 126 (by decide)]
  exact h
theorem runL_x (t : Nat → Nat) : ∀ (cs : List Cm) (i : Nat) (A B : Ab), wfA A → WFL t cs A → runL t cs i A = .inl B → aX B ≤ aX A + cs.length
  | [], _, A, B, _, _, h => by
    have : A = B := Sum.inl.inj h
    rw [this]
    exact Nat.le_add_right _ _
  | c :: cs, i, A, B, w, hW, h => by
    unfold runL at h
    rw [List.length_cons]
    split at h
    · rename_i h0
      obtain ⟨w1, W1⟩ := hW h0
      have := runL_x t cs (i + 1) _ B w1 W1 h
      rcases sCmd_ok t w c with ⟨-, a⟩ | ⟨a, -⟩
      · omega
      · omega
    · exact nomatch h
end MRUN

