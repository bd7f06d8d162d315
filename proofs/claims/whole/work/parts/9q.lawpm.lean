/-! the law, run -/
/-- the law, from its entry to its end -/
theorem law_pm (E : pmEv0) (hE : E.1 ≤ 2048) : ∃ nn m2 D2 kc ks, pmX Pg E (pmEv Pg E 16) 350 nn (0, pmL0 9 [.ref 99998], [], den ([], [], [])) 0 0 (.inl (some (.int 1)), sst m2 D2, kc, ks) ∧ kc ≤ 2000 ∧ ks ≤ 2000000 := by
  obtain ⟨N, R, kc, ks, e, hN, hR, h1, h2⟩ := prChk_ok prChk_t
  obtain ⟨i1, i2, i3⟩ := prInts_ok hN
  obtain ⟨n, hn⟩ : ∃ n, 700000 ≤ n := ⟨700000, Nat.le_refl _⟩
  obtain ⟨m2, D2, w2, e2, hw⟩ := law_loop (E := E) (n := n) hn (by omega) 513 0 n (lk 0 N, fun _ _ => 0) (fun _ _ => 0) 0 We (by omega) (by omega) (by omega) (We_c i1 i2 (fun _ _ => rfl)) (We_m i1 i3) ⟨Nat.zero_le _, fun B hB => absurd hB List.not_mem_nil, fun B hB => nomatch hB⟩
  obtain ⟨nn, hX⟩ := xL_law E n n (z ((0 : Nat) : Int)) (lk 0 N, fun _ _ => 0) (fun _ _ => 0) 0 _ e2 _ rfl
  have hX := pmX_sh (a := kc) (b := ks) _ _ _ _ hX
  rw [show 0 + kc = kc by omega, show 6 * 0 + ks = ks by omega] at hX
  obtain ⟨n9, h9⟩ := prX_ok (E := E) (d := 16) (j := 350) (stop := 28) (fun t as S u g => pmEv_le (prE_ok 5 t as S u g) (by decide)) 100 _ 0 0 _ e (.inl (some (.int 1)), sst m2 D2, w2 + kc, 6 * w2 + ks) ⟨nn, by
    show pmX Pg E (pmEv Pg E 16) 350 nn (28, [some (.ref 99998), some (.ref 0), some (.ref 113), some (.ref 127), some (.ref 128), some (.int 0), none, none, none], [], (pmG0, lk 0 N, (fun _ _ => 0), lk none R, fun _ _ => 0)) kc ks _
    rw [hR]
    exact hX⟩
  exact ⟨n9, m2, D2, w2 + kc, 6 * w2 + ks, h9, by omega, by omega⟩
