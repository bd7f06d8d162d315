/-! programs: the class runs a program -/
/-- the commands one after another: the last state, or the first that fails -/
def runL (t : Nat → Nat) : List Cm → Nat → Ab → Ab ⊕ Nat
  | [], _, A => .inl A
  | c :: cs, i, A => if (sCmd t A c).1 = 0 then runL t cs (i + 1) (sCmd t A c).2.2 else .inr i
theorem runL_b (t : Nat → Nat) : ∀ (cs : List Cm) (i : Nat) (A : Ab) (k : Nat), runL t cs i A = .inr k → i ≤ k ∧ k < i + cs.length
  | [], _, _, _, h => nomatch h
  | c :: cs, i, A, k, h => by
    unfold runL at h
    rw [List.length_cons]
    split at h
    · have := runL_b t cs (i + 1) _ k h
      omega
    · have : i = k := Sum.inr.inj h
      omega
/-- every state on the way is sound -/
def WFL (t : Nat → Nat) : List Cm → Ab → Prop
  | [], _ => True
  | c :: cs, A => (sCmd t A c).1 = 0 → wfA (sCmd t A c).2.2 ∧ WFL t cs (sCmd t A c).2.2
section CRUN
variable {n T : Nat} {t : Nat → Nat}
theorem PRG_fr {m m1 : pmI} {P : List Cm} (h : PRG m P) (f : fr cS m m1) : PRG m1 P := by
  unfold PRG
  rw [(f 107 (by decide)).1, (f 109 (by decide)).1, (f 110 (by decide)).1]
  exact h
theorem c_runL (hn : 100 ≤ n) (ht : tOk T t) {P : List Cm} (hP10 : P.length ≤ 10) (hok : ∀ c, c ∈ P → CmOk T t c) : ∀ (cs : List Cm) (i q : Nat) (m : pmI) (A : Ab), i + cs.length = P.length → (∀ j, cs[j]? = P[i + j]?) → cs.length < q → repC 1 m A → wfA A → aX A + cs.length < 1000000 → cX m T t → PRG m P → WFL t cs A ∧
    match runL t cs i A with
    | .inl B => ∃ m', lX8_run_l47 n q (z (i : Int)) m = some (.inl m') ∧ fr cS m m' ∧ repC 1 m' B ∧ wfA B ∧ aX B ≤ aX A + cs.length
    | .inr k => ∃ m1, lX8_run_l47 n q (z (i : Int)) m = ((fX6_copyFrom_1_17 m1).bind fun v6 => pmLet ((pmU v6.1 0 12 (z (k : Int))), v6.2) fun m7 => some (.inr (.inr 4, m7))) ∧ fr cS m m1 := by
  intro cs
  induction cs with
  | nil =>
    intro i q m A hi hg hq hA w hX hm hP
    obtain ⟨q, rfl⟩ : ∃ j, q = j + 1 := ⟨q - 1, by omega⟩
    have hi : i + 0 = P.length := hi
    refine ⟨trivial, m, ?_, fr_rf, hA, w, Nat.le_add_right _ _⟩
    show bX8_run_l47 n (lX8_run_l47 n q) (z (i : Int)) m = _
    unfold bX8_run_l47
    rw [hP.1, if_neg (zge (by omega))]
  | cons c cs ih =>
    intro i q m A hi hg hq hA w hX hm hP
    rw [List.length_cons] at hi hq hX
    obtain ⟨q, rfl⟩ : ∃ j, q = j + 1 := ⟨q - 1, by omega⟩
    obtain ⟨k, as⟩ := c
    have hgi : P[i]? = some (k, as) := (hg 0).symm
    obtain ⟨-, h109, h110⟩ := hP.2 i k as hgi
    obtain ⟨x, m1, e1, hx, f1, r1, hc⟩ := c_cmd (n := n) hn ht hm hA w (by omega) (i := i) (by omega) (hok _ (List.mem_of_getElem? hgi)) h109 h110
    have hs := sCmd_ok t w (k, as)
    have step : lX8_run_l47 n (q + 1) (z (i : Int)) m = if z x = z 0 then (fX8_execute n (z (i : Int)) m1).bind fun v5 => lX8_run_l47 n q (z (i : Int) + z 1) v5 else (fX6_copyFrom_1_17 m1).bind fun v6 => pmLet ((pmU v6.1 0 12 (z (i : Int))), v6.2) fun m7 => some (.inr (.inr 4, m7)) := by
      show bX8_run_l47 n (lX8_run_l47 n q) (z (i : Int)) m = _
      unfold bX8_run_l47
      rw [hP.1, if_pos (zlt (by omega)), e1, obind]
    unfold runL
    rcases hc with ⟨h1, h2⟩ | ⟨h1, h2, m3, e3, f3, r3, w3⟩
    · rw [if_neg h2]
      refine ⟨fun g => absurd g h2, m1, ?_, f1⟩
      rw [step, if_neg (show ¬ z x = z 0 from zne (by omega))]
    · rw [if_pos h2]
      have hx1 : aX (sCmd t A (k, as)).2.2 ≤ aX A + 1 := by
        rcases hs with ⟨-, a⟩ | ⟨a, -⟩
        · exact a
        · omega
      have hm3 : cX m3 T t := fun b hb => by rw [(f3 108 (by decide)).1, (f1 108 (by decide)).1]; exact hm b hb
      obtain ⟨kw, key⟩ := ih (i + 1) q m3 (sCmd t A (k, as)).2.2 (by omega) (fun j => by
        have := hg (j + 1)
        rw [show i + 1 + j = i + (j + 1) by omega]
        exact this) (by omega) r3 w3 (by omega) hm3 (PRG_fr (PRG_fr hP f1) f3)
      have st2 : lX8_run_l47 n (q + 1) (z (i : Int)) m = lX8_run_l47 n q (z ((i + 1 : Nat) : Int)) m3 := by
        rw [step, if_pos (show z x = z 0 by rw [h1]), e3, obind, show z 1 = z (1 : Int) from rfl, z_add]
        rfl
      rw [st2]
      refine ⟨fun _ => ⟨w3, kw⟩, ?_⟩
      split
      · rename_i B hB
        rw [hB] at key
        obtain ⟨m4, e4, f4, r4, w4, x4⟩ := key
        refine ⟨m4, e4, fr_tr f1 (fr_tr f3 f4), r4, w4, ?_⟩
        rw [List.length_cons]
        omega
      · rename_i B hB
        rw [hB] at key
        obtain ⟨m4, e4, f4⟩ := key
        exact ⟨m4, e4, fr_tr f1 (fr_tr f3 f4)⟩
/-- what a run does -/
def rRun (W : Wd) : Int × Wd := if (prog (wT W) (wTf W)).1 = true then (match runL (wTf W) (prog (wT W) (wTf W)).2.2 0 (wA W) with
  | .inl B => (0, (B, (wA W :: wH W).take 8, wS W, (0, wTf W), W.2.2.2.2.1, wE W, wF W))
  | .inr k => (2, (wA W, wH W, wS W, (0, wTf W), W.2.2.2.2.1, wE W, (k : Int)))) else (1, (wA W, wH W, wS W, (0, wTf W), W.2.2.2.2.1, ((prog (wT W) (wTf W)).2.1 : Int), wF W))
def exR (c : Int) : Nat := if c = 1 then 1 else 4
theorem cSv_0 {m m' : pmI} {o : Option Ab} (h : cSv m o) (e : m'.1 0 10 = m.1 0 10) (e2 : ∀ i, 9 ≤ i ∧ i ≤ 16 → m'.1 i = m.1 i ∧ m'.2 i = m.2 i) : cSv m' o := by
  cases o with
  | none => exact e.trans h
  | some B => exact ⟨e.trans h.1, h.2.1, repC_fr h.2.2 (fun i h1 h2 => e2 i (by omega))⟩
theorem cInv_run {m m' : pmI} {W : Wd} (h : cInv m W) {A : Ab} {hs : List Ab} {e f : Int} (hA : repC 1 m' A) (w : wfA A) (hh : cHist m' hs) (e10 : m'.1 0 10 = m.1 0 10) (e2 : ∀ i, 9 ≤ i ∧ i ≤ 16 → m'.1 i = m.1 i ∧ m'.2 i = m.2 i) (e7 : m'.1 107 1 = z 0) (e8 : m'.1 111 = m.1 111 ∧ m'.1 112 = m.1 112) (e11 : m'.1 0 11 = z e ∧ -1 ≤ e ∧ e ≤ 100) (e12 : m'.1 0 12 = z f ∧ -1 ≤ f ∧ f ≤ 100) : cInv m' (A, hs, wS W, (0, wTf W), W.2.2.2.2.1, e, f) := by
  obtain ⟨h1, h2, h3, h4, h5, h6, h7, h8⟩ := h
  refine ⟨hA, w, hh, cSv_0 h4 e10 e2, ⟨Nat.zero_le _, e7, fun k hk => absurd hk (Nat.not_lt_zero k)⟩, ?_, e11, e12⟩
  rw [e8.1, e8.2]
  exact h6
theorem rProg_T : ∀ (f p : Nat) (cs : List Cm), p ≤ T → (rProg T t f p cs).2.1 ≤ T
  | 0, p, cs, h => h
  | f + 1, p, cs, h => by
    have rb := rCmd_b (T := T) (t := t) h
    unfold rProg
    split
    · split
      · exact Nat.le_refl _
      · split
        · rename_i g
          have hl := sg_lt (T := T) (t := t) (p := (rCmd T t p).2.1) (by omega)
          exact rProg_T f _ _ (by omega)
        · exact rb.1
    · exact rb.1
theorem c_run {m : pmI} {W : Wd} (h : cInv m W) (hn : 100 ≤ n) (hX : aX (wA W) < 999000) : cQ m (rRun W).2 (fX8_run n m) (rRun W).1 (z ((prog (wT W) (wTf W)).2.2.length : Int)) (exR (rRun W).1) ∧ ((prog (wT W) (wTf W)).1 = true → WFL (wTf W) (prog (wT W) (wTf W)).2.2 (wA W)) := by
  have h' := h
  obtain ⟨h1, h2, h3, h4, h5, h6, h7, h8⟩ := h'
  have ht : tOk (wT W) (wTf W) := ⟨h5.1, fun k hk => (h5.2.2 k hk).2⟩
  obtain ⟨m1, e1, f1, P1⟩ := c_parse (n := n) ht hn (m := m) ⟨h5.2.1, fun k hk => (h5.2.2 k hk).1⟩
  obtain ⟨m2, e2, j2, o2, r2⟩ := w_1 m1 107 1 (z 0)
  have pT := rProg_T (T := wT W) (t := wTf W) 11 0 [] (Nat.zero_le _)
  have pT : (prog (wT W) (wTf W)).2.1 ≤ wT W := pT
  have a2 : ∀ i, ¬ i = 107 → ¬ i = 109 → ¬ i = 110 → m2.1 i = m.1 i ∧ m2.2 i = m.2 i := fun i x y w => ⟨by rw [o2 i x]; exact f1.1 i x y w, by rw [j2, f1.2.1]⟩
  unfold fX8_run
  rw [e1, obind, pmLet_eq]
  dsimp only
  rw [e2]
  unfold rRun
  by_cases ok : (prog (wT W) (wTf W)).1 = true
  · obtain ⟨k1, k2⟩ := prog_ok ht.1 ok
    rw [if_pos ok, if_pos ok, if_pos rfl, cp_17_1]
    have A2 : repC 1 m2 (wA W) := repC_fr h1 (fun i x y => a2 i (by omega) (by omega) (by omega))
    obtain ⟨m3, e3, c3, o3⟩ := c_copy (q := 17) (o := 1) (by omega) A2 h2
    have P3 : PRG m3 (prog (wT W) (wTf W)).2.2 := by
      obtain ⟨x, y⟩ := P1 ok
      unfold PRG
      rw [(o3 107 (by omega)).1, (o3 109 (by omega)).1, (o3 110 (by omega)).1, r2, if_neg (by decide), o2 109 (by decide), o2 110 (by decide)]
      exact ⟨x, y⟩
    have X3 : cX m3 (wT W) (wTf W) := fun k hk => by rw [(o3 108 (by omega)).1, (a2 108 (by decide) (by decide) (by decide)).1]; exact (h5.2.2 k hk).1
    obtain ⟨Lw, L⟩ := c_runL (n := n) hn ht k2 k1 (prog (wT W) (wTf W)).2.2 0 n m3 (wA W) (Nat.zero_add _) (fun j => by rw [Nat.zero_add]) (by omega) (repC_fr A2 (fun i x y => o3 i (by omega))) h2 (by omega) X3 P3
    have a3 : ∀ i, ¬ i = 107 → ¬ i = 109 → ¬ i = 110 → ¬ (17 ≤ i ∧ i ≤ 24) → m3.1 i = m.1 i ∧ m3.2 i = m.2 i := fun i x y w v => ⟨by rw [(o3 i v).1]; exact (a2 i x y w).1, by rw [(o3 i v).2]; exact (a2 i x y w).2⟩
    refine ⟨?_, fun _ => Lw⟩
    rw [e3, obind]
    cases hr : runL (wTf W) (prog (wT W) (wTf W)).2.2 0 (wA W) with
    | inl B =>
      rw [hr] at L
      obtain ⟨m4, e4, f4, r4, w4, x4⟩ := L
      have e4 : lX8_run_l47 n n (z 0) m3 = some (.inl m4) := e4
      have a4 : ∀ i, ¬ ((1 ≤ i ∧ i ≤ 8) ∨ (91 ≤ i ∧ i ≤ 106)) → m4.1 i = m3.1 i ∧ m4.2 i = m3.2 i := fun i hi => f4 i (decide_eq_false hi)
      obtain ⟨m5, e5, o5, g5⟩ := c_push (o := 17) (by omega) (repC_fr c3 (fun i x y => a4 i (by omega))) h2 (cHist_fr h3 (fun i x y => ⟨by rw [(a4 i (by omega)).1, (a3 i (by omega) (by omega) (by omega) (by omega)).1], by rw [(a4 i (by omega)).2, (a3 i (by omega) (by omega) (by omega) (by omega)).2]⟩)) (r := fX2_push_25_17 m4) (fun nx hx hm => push_17 hx hm)
      have a5 : ∀ i, ¬ i = 107 → ¬ i = 109 → ¬ i = 110 → ¬ (1 ≤ i ∧ i ≤ 8) → ¬ (17 ≤ i ∧ i ≤ 106) → m5.1 i = m.1 i ∧ m5.2 i = m.2 i := fun i x y w v u => ⟨by rw [(o5 i (by omega)).1, (a4 i (by omega)).1, (a3 i x y w (by omega)).1], by rw [(o5 i (by omega)).2, (a4 i (by omega)).2, (a3 i x y w (by omega)).2]⟩
      rw [e4, obind, oS_l, e5, obind]
      refine ⟨m5, ?_, ?_, ?_⟩
      · rw [if_pos (show (0 : Int) = 0 from rfl), (o5 107 (by omega)).1, (a4 107 (by omega)).1, P3.1]
      · exact fun i hi => a5 i (by omega) (by omega) (by omega) (by omega) (by omega)
      · refine cInv_run h (repC_fr r4 (fun i x y => o5 i (by omega))) w4 g5 (by rw [(a5 0 (by omega) (by omega) (by omega) (by omega) (by omega)).1]) (fun i hi => a5 i (by omega) (by omega) (by omega) (by omega) (by omega)) ?_ ⟨(a5 111 (by omega) (by omega) (by omega) (by omega) (by omega)).1, (a5 112 (by omega) (by omega) (by omega) (by omega) (by omega)).1⟩ ?_ ?_
        · rw [(o5 107 (by omega)).1, (a4 107 (by omega)).1, (o3 107 (by omega)).1, r2, if_pos rfl]
        · rw [(a5 0 (by omega) (by omega) (by omega) (by omega) (by omega)).1]
          exact h7
        · rw [(a5 0 (by omega) (by omega) (by omega) (by omega) (by omega)).1]
          exact h8
    | inr k =>
      rw [hr] at L
      have kb := runL_b _ _ _ _ _ hr
      obtain ⟨m4, e4, f4⟩ := L
      have e4 : lX8_run_l47 n n (z 0) m3 = _ := e4
      have a4 : ∀ i, ¬ ((1 ≤ i ∧ i ≤ 8) ∨ (91 ≤ i ∧ i ≤ 106)) → m4.1 i = m3.1 i ∧ m4.2 i = m3.2 i := fun i hi => f4 i (decide_eq_false hi)
      obtain ⟨m5, e5, c5, o5⟩ := c_copy (q := 1) (o := 17) (by omega) (repC_fr c3 (fun i x y => a4 i (by omega))) h2
      obtain ⟨m6, e6, j6, o6, r6⟩ := w_1 m5 0 12 (z (k : Int))
      have a5 : ∀ i, ¬ i = 107 → ¬ i = 109 → ¬ i = 110 → ¬ (1 ≤ i ∧ i ≤ 8) → ¬ (17 ≤ i ∧ i ≤ 24) → ¬ (91 ≤ i ∧ i ≤ 106) → m5.1 i = m.1 i ∧ m5.2 i = m.2 i := fun i x y w v u u' => ⟨by rw [(o5 i (by omega)).1, (a4 i (by omega)).1, (a3 i x y w (by omega)).1], by rw [(o5 i (by omega)).2, (a4 i (by omega)).2, (a3 i x y w (by omega)).2]⟩
      have a6 : ∀ i, ¬ i = 0 → ¬ i = 107 → ¬ i = 109 → ¬ i = 110 → ¬ (1 ≤ i ∧ i ≤ 8) → ¬ (17 ≤ i ∧ i ≤ 24) → ¬ (91 ≤ i ∧ i ≤ 106) → m6.1 i = m.1 i ∧ m6.2 i = m.2 i := fun i z0 x y w v u u' => ⟨by rw [o6 i z0]; exact (a5 i x y w v u u').1, by rw [j6]; exact (a5 i x y w v u u').2⟩
      rw [e4, cp_1_17, e5, obind, pmLet_eq, e6, obind, oS_r]
      refine ⟨m6, rfl, ?_, ?_⟩
      · exact fun i hi => a6 i (by omega) (by omega) (by omega) (by omega) (by omega) (by omega) (by omega)
      · refine cInv_run h (repC_fr c5 (fun i x y => ⟨o6 i (by omega), by rw [j6]⟩)) h2 (cHist_fr h3 (fun i x y => a6 i (by omega) (by omega) (by omega) (by omega) (by omega) (by omega) (by omega))) ?_ (fun i hi => a6 i (by omega) (by omega) (by omega) (by omega) (by omega) (by omega) (by omega)) ?_ ⟨(a6 111 (by omega) (by omega) (by omega) (by omega) (by omega) (by omega) (by omega)).1, (a6 112 (by omega) (by omega) (by omega) (by omega) (by omega) (by omega) (by omega)).1⟩ ?_ ?_
        · rw [r6, if_neg (by decide), (a5 0 (by omega) (by omega) (by omega) (by omega) (by omega) (by omega)).1]
        · rw [o6 107 (by decide), (o5 107 (by omega)).1, (a4 107 (by omega)).1, (o3 107 (by omega)).1, r2, if_pos rfl]
        · rw [r6, if_neg (by decide), (a5 0 (by omega) (by omega) (by omega) (by omega) (by omega) (by omega)).1]
          exact h7
        · rw [r6, if_pos rfl]
          exact ⟨rfl, by omega, by omega⟩
  · obtain ⟨m3, e3, j3, o3, r3⟩ := w_1 m2 0 11 (z ((prog (wT W) (wTf W)).2.1 : Int))
    rw [if_neg ok, if_neg ok, if_neg (show ¬ z ((prog (wT W) (wTf W)).2.1 : Int) = z (-1) from zne (by omega)), pmLet_eq, show pmU m1.1 107 1 (z 0) = m2.1 from congrArg Prod.fst e2, ← j2, e3]
    have a3 : ∀ i, ¬ i = 0 → ¬ i = 107 → ¬ i = 109 → ¬ i = 110 → m3.1 i = m.1 i ∧ m3.2 i = m.2 i := fun i x y w v => ⟨by rw [o3 i x]; exact (a2 i y w v).1, by rw [j3]; exact (a2 i y w v).2⟩
    refine ⟨?_, fun g => absurd g ok⟩
    refine ⟨m3, rfl, ?_, ?_⟩
    · exact fun i hi => a3 i (by omega) (by omega) (by omega) (by omega)
    · refine cInv_run h (repC_fr h1 (fun i x y => a3 i (by omega) (by omega) (by omega) (by omega))) h2 (cHist_fr h3 (fun i x y => a3 i (by omega) (by omega) (by omega) (by omega))) ?_ (fun i hi => a3 i (by omega) (by omega) (by omega) (by omega)) ?_ ⟨(a3 111 (by omega) (by omega) (by omega) (by omega)).1, (a3 112 (by omega) (by omega) (by omega) (by omega)).1⟩ ?_ ?_
      · rw [r3, if_neg (by decide), (a2 0 (by decide) (by decide) (by decide)).1]
      · rw [o3 107 (by decide), r2, if_pos rfl]
      · rw [r3, if_pos rfl]
        exact ⟨rfl, by omega, by omega⟩
      · rw [r3, if_neg (by decide), (a2 0 (by decide) (by decide) (by decide)).1]
        exact h8
end CRUN

