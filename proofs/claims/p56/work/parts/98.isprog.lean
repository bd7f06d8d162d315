/-! programs: the model's parse -/
section ISPROG
variable {n T : Nat} {t : Nat → Nat}
theorem MPR_gB {m m1 : pmI} {cs : List Cm} (h : MPR m cs) (g : gB m m1 (5 * cs.length)) : MPR m1 cs := by
  refine ⟨by rw [g.2.2.1 23 (by decide)]; exact h.1, fun i k as hi => ?_⟩
  have hlt := (List.getElem?_eq_some_iff.mp hi).1
  obtain ⟨a0, a1, a2⟩ := h.2 i k as hi
  exact ⟨a0, by rw [g.2.2.2 _ (by omega)]; exact a1, fun j hj => by rw [g.2.2.2 _ (by omega)]; exact a2 j hj⟩
theorem hBc_0 {m m1 : pmI} {a : Nat} (h : hBc m m1 a) : hBc m m1 0 := ⟨h.1, h.2.1, h.2.2.1, fun b hb => absurd hb (Nat.not_lt_zero b)⟩
theorem mT_h {m m1 : pmI} {a : Nat} (hm : mT m T t) (h : hBc m m1 a) : mT m1 T t := ⟨by rw [h.2.2.1 21 (by decide) (by decide)]; exact hm.1, fun k hk => by rw [h.1 125 (by decide) (by decide)]; exact hm.2 k hk⟩
end ISPROG

