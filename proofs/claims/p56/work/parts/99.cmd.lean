/-! programs: what a command does -/
/-- what holds of each command that was read -/
def CmOk (T : Nat) (t : Nat → Nat) (c : Cm) : Prop := c.1 < 9 ∧ c.2.length = na (sp c.1) ∧ (∀ x, x ∈ c.2 → x ≤ 99) ∧ (c.1 = 3 → (c.2.getD 1 0 ≤ c.2.getD 2 0 ∧ c.2.getD 2 0 ≤ T) ∧ ∀ i, c.2.getD 1 0 ≤ i → i < c.2.getD 2 0 → ¬ mvIx (t i : Int) = none)
theorem CmOk_g {T : Nat} {t : Nat → Nat} {c : Cm} (h : CmOk T t c) (j : Nat) : c.2.getD j 0 ≤ 99 := by
  rw [List.getD_eq_getElem?_getD]
  cases e : c.2[j]? with
  | none => exact Nat.zero_le _
  | some x => exact h.2.2.1 x (List.mem_of_getElem? e)
theorem mvs_m {T : Nat} {t : Nat → Nat} : ∀ (d p : Nat), p ≤ T → ∀ i, p ≤ i → i < mvs T t d p → ¬ mvIx (t i : Int) = none
  | 0, p, hp, i, h1, h2 => by
    have : mvs T t 0 p = p := rfl
    omega
  | d + 1, p, hp, i, h1, h2 => by
    unfold mvs at h2
    split at h2
    · omega
    · rename_i h
      have hl : p < T := by
        unfold sg at h
        split at h
        · assumption
        · exact absurd (by decide) h
      by_cases e : i = p
      · rw [e]
        rw [sg, if_pos hl] at h
        exact h
      · exact mvs_m (T := T) (t := t) d (p + 1) (by omega) i (by omega) h2
theorem rPart_99 {T : Nat} {t : Nat → Nat} (hT : T ≤ 60) {c p : Nat} {as : List Nat} (hp : p ≤ T) (h : ∀ x, x ∈ as → x ≤ 99) : ∀ x, x ∈ (rPart T t c p as).2.2 → x ≤ 99 := by
  have n1 := num_b (T := T) (t := t) 1 0 0 p (Nat.le_refl _) hp
  have n2 := num_b (T := T) (t := t) 2 0 0 p (Nat.le_refl _) hp
  have mb := mvs_b (T := T) (t := t) 60 p hp
  have e1 : (10 : Nat) ^ (0 + 1) = 10 := rfl
  have e2 : (10 : Nat) ^ (0 + 2) = 100 := rfl
  intro x hx
  unfold rPart at hx
  split at hx
  · rcases List.mem_append.mp hx with g | g
    · exact h x g
    · rw [List.mem_singleton.mp g]
      omega
  · split at hx
    · rcases List.mem_append.mp hx with g | g
      · rcases List.mem_append.mp g with g | g
        · exact h x g
        · rw [List.mem_singleton.mp g]
          omega
      · rw [List.mem_singleton.mp g]
        omega
    · split at hx
      · rcases List.mem_append.mp hx with g | g
        · exact h x g
        · rw [List.mem_singleton.mp g]
          omega
      · split at hx
        · exact h x hx
        · exact h x hx
theorem rParts_99 {T : Nat} {t : Nat → Nat} (hT : T ≤ 60) : ∀ (w : List Nat) (p : Nat) (as : List Nat), p ≤ T → (∀ x, x ∈ as → x ≤ 99) → ∀ x, x ∈ (rParts T t w p as).2.2 → x ≤ 99
  | [], _, _, _, h => h
  | c :: w, p, as, hp, h => by
    have hb := rPart_b (T := T) (t := t) (c := c) (p := p) (as := as) hp
    have h1 := rPart_99 (t := t) hT (c := c) hp h
    unfold rParts
    split
    · exact rParts_99 (T := T) (t := t) hT w _ _ hb.2 h1
    · exact h1
theorem rP_len {T : Nat} {t : Nat → Nat} : ∀ (w : List Nat) (p : Nat) (as : List Nat), (rParts T t w p as).1 = true → (rParts T t w p as).2.2.length = as.length + na w
  | [], _, _, _ => rfl
  | c :: w, p, as, h => by
    have h1 := rPart_na (T := T) (t := t) (ch := c) (p := p) (as := as)
    have h2 := na_cons c w
    unfold rParts at h ⊢
    split at h
    · rename_i ok
      rw [if_pos ok]
      have := rP_len (T := T) (t := t) w _ _ h
      omega
    · exact absurd (show false = true from h) (by decide)
theorem rFig {T : Nat} {t : Nat → Nat} {p : Nat} (hp : p ≤ T) (h : (rParts T t [100, 58, 109] p []).1 = true) : ∃ d p', p' ≤ T ∧ (rParts T t [100, 58, 109] p []).2.2 = [d, p', mvs T t 60 p'] := by
  have b1 := rPart_b (T := T) (t := t) (c := 100) (as := []) hp
  have b2 := rPart_b (T := T) (t := t) (c := 58) (as := (rPart T t 100 p []).2.2) b1.2
  have a1 : (rPart T t 100 p []).2.2 = [(num T t 1 0 0 p).1] := rfl
  have a2 : ∀ q as, (rPart T t 58 q as).2.2 = as := fun q as => by
    unfold rPart
    rw [if_neg (by decide), if_neg (by decide), if_neg (by decide)]
    split <;> rfl
  have a3 : ∀ q as, rPart T t 109 q as = (true, mvs T t 60 q, as ++ [q] ++ [mvs T t 60 q]) := fun q as => by
    unfold rPart
    rw [if_neg (by decide), if_pos rfl]
  rw [show rParts T t [100, 58, 109] p [] = if (rPart T t 100 p []).1 = true then rParts T t [58, 109] (rPart T t 100 p []).2.1 (rPart T t 100 p []).2.2 else ((false, (rPart T t 100 p []).2.1, (rPart T t 100 p []).2.2)) from rfl] at h ⊢
  by_cases c1 : (rPart T t 100 p []).1 = true
  · rw [if_pos c1] at h ⊢
    generalize (rPart T t 100 p []).2.1 = q1 at *
    rw [a1] at *
    rw [show rParts T t [58, 109] q1 [(num T t 1 0 0 p).1] = if (rPart T t 58 q1 [(num T t 1 0 0 p).1]).1 = true then rParts T t [109] (rPart T t 58 q1 [(num T t 1 0 0 p).1]).2.1 (rPart T t 58 q1 [(num T t 1 0 0 p).1]).2.2 else ((false, (rPart T t 58 q1 [(num T t 1 0 0 p).1]).2.1, (rPart T t 58 q1 [(num T t 1 0 0 p).1]).2.2)) from rfl] at h ⊢
    by_cases c2 : (rPart T t 58 q1 [(num T t 1 0 0 p).1]).1 = true
    · rw [if_pos c2, a2] at h ⊢
      refine ⟨(num T t 1 0 0 p).1, _, b2.2, ?_⟩
      rw [show ∀ q as, rParts T t [109] q as = if (rPart T t 109 q as).1 = true then ((true, (rPart T t 109 q as).2.1, (rPart T t 109 q as).2.2)) else ((false, (rPart T t 109 q as).2.1, (rPart T t 109 q as).2.2)) from fun _ _ => rfl, a3, if_pos rfl]
      rfl
    · rw [if_neg c2] at h
      exact absurd (show false = true from h) (by decide)
  · rw [if_neg c1] at h
    exact absurd (show false = true from h) (by decide)
theorem rCmd_ok {T : Nat} {t : Nat → Nat} {p : Nat} (hT : T ≤ 60) (hp : p ≤ T) (h : (rCmd T t p).1 = true) : CmOk T t (rCmd T t p).2.2 := by
  have rb := rW_b (T := T) (t := t) hp 9 0 0 hp
  unfold rCmd at h ⊢
  cases hr : (rW T t p 9 0 0).1 with
  | none =>
    rw [hr] at h
    exact absurd (show false = true from h) (by decide)
  | some k =>
    rw [hr] at h
    obtain ⟨a, b, -⟩ := rb.2 k hr
    have h : (rParts T t (sp k) (rW T t p 9 0 0).2 []).1 = true := h
    refine ⟨by show k < 9; omega, ?_, ?_, ?_⟩
    · show (rParts T t (sp k) (rW T t p 9 0 0).2 []).2.2.length = na (sp k)
      rw [rP_len _ _ _ h, List.length_nil, Nat.zero_add]
    · exact rParts_99 hT (sp k) _ [] rb.1 (fun x g => absurd g List.not_mem_nil)
    · intro hk
      have hk : k = 3 := hk
      rw [hk] at h ⊢
      obtain ⟨d, p', hp', e⟩ := rFig rb.1 h
      have mb := mvs_b (T := T) (t := t) 60 p' hp'
      show ((rParts T t (sp 3) (rW T t p 9 0 0).2 []).2.2.getD 1 0 ≤ (rParts T t (sp 3) (rW T t p 9 0 0).2 []).2.2.getD 2 0 ∧ (rParts T t (sp 3) (rW T t p 9 0 0).2 []).2.2.getD 2 0 ≤ T) ∧ ∀ i, (rParts T t (sp 3) (rW T t p 9 0 0).2 []).2.2.getD 1 0 ≤ i → i < (rParts T t (sp 3) (rW T t p 9 0 0).2 []).2.2.getD 2 0 → ¬ mvIx (t i : Int) = none
      rw [show (rParts T t (sp 3) (rW T t p 9 0 0).2 []).2.2 = [d, p', mvs T t 60 p'] from e]
      exact ⟨mb, fun i h1 h2 => mvs_m 60 p' hp' i h1 h2⟩
theorem rProg_ok {T : Nat} {t : Nat → Nat} (hT : T ≤ 60) : ∀ (f p : Nat) (cs : List Cm), p ≤ T → 6 * cs.length ≤ p → (∀ c, c ∈ cs → CmOk T t c) → (rProg T t f p cs).1 = true → (∀ c, c ∈ (rProg T t f p cs).2.2 → CmOk T t c) ∧ (rProg T t f p cs).2.2.length ≤ 10
  | 0, p, cs, _, _, _, h => absurd (show false = true from h) (by decide)
  | f + 1, p, cs, hp, h6, hc, h => by
    have rb := rCmd_b (T := T) (t := t) hp
    have l2 : (cs ++ [(rCmd T t p).2.2]).length = cs.length + 1 := List.length_append
    unfold rProg at h ⊢
    by_cases ok : (rCmd T t p).1 = true
    · have hc2 : ∀ c, c ∈ cs ++ [(rCmd T t p).2.2] → CmOk T t c := fun c g => by
        rcases List.mem_append.mp g with g | g
        · exact hc c g
        · rw [List.mem_singleton.mp g]
          exact rCmd_ok hT hp ok
      have r5 := rb.2 ok
      rw [if_pos ok] at h ⊢
      by_cases eT : (rCmd T t p).2.1 = T
      · rw [if_pos eT]
        exact ⟨hc2, by show (cs ++ [(rCmd T t p).2.2]).length ≤ 10; omega⟩
      · rw [if_neg eT] at h ⊢
        by_cases e59 : sg T t (rCmd T t p).2.1 = 59
        · rw [if_pos e59] at h ⊢
          have hl := sg_lt (T := T) (t := t) (p := (rCmd T t p).2.1) (by omega)
          exact rProg_ok (T := T) (t := t) hT f _ _ (by omega) (by omega) hc2 h
        · rw [if_neg e59] at h
          exact absurd (show false = true from h) (by decide)
    · rw [if_neg ok] at h
      exact absurd (show false = true from h) (by decide)
theorem prog_ok {T : Nat} {t : Nat → Nat} (hT : T ≤ 60) (h : (prog T t).1 = true) : (∀ c, c ∈ (prog T t).2.2 → CmOk T t c) ∧ (prog T t).2.2.length ≤ 10 := rProg_ok hT 11 0 [] (Nat.zero_le _) (Nat.le_refl _) (fun c g => absurd g List.not_mem_nil) h
/-- the moves of the text from p on come to a figure -/
def tellL (t : Nat → Nat) (f : Nat) : Nat → Nat → Ab → Ab
  | 0, _, A => A
  | d + 1, p, A => tellL t f d (p + 1) (uFg A (fun g => if g = f then aFl A f + 1 else aFl A g) (fun g b => if g = f ∧ b = aFl A f then (mvIx (t p : Int)).getD 0 else aFm A g b))
def sTell (t : Nat → Nat) (A : Ab) (f p q : Nat) : Int × Int × Ab := if figB (f : Int) = true then (if q - p ≤ 12 then (0, 0, tellL t f (q - p) p (uFg A (fun g => if g = f then 0 else aFl A g) (aFm A))) else (3, 0, A)) else (1, 0, A)
def sCmd (t : Nat → Nat) (A : Ab) (c : Cm) : Int × Int × Ab := if c.1 = 0 then sProp A (c.2.getD 0 0 : Nat) (c.2.getD 1 0 : Nat) else if c.1 = 1 then sAdd A (c.2.getD 0 0 : Nat) (c.2.getD 1 0 : Nat) (c.2.getD 2 0 : Nat) else if c.1 = 2 then sPair A (c.2.getD 0 0 : Nat) (c.2.getD 1 0 : Nat) else if c.1 = 3 then sTell t A (c.2.getD 0 0) (c.2.getD 1 0) (c.2.getD 2 0) else if c.1 = 4 then sPerf A (c.2.getD 0 0 : Nat) (c.2.getD 1 0 : Nat) else if c.1 = 5 then sWalk A (c.2.getD 0 0 : Nat) (c.2.getD 1 0 : Nat) (c.2.getD 2 0 : Nat) else if c.1 = 6 then sOpen A (c.2.getD 0 0 : Nat) (c.2.getD 1 0 : Nat) else if c.1 = 7 then sRenew A (c.2.getD 0 0 : Nat) else sLeave A
theorem tellL_x (t : Nat → Nat) (f : Nat) : ∀ (d p : Nat) (A : Ab), aX (tellL t f d p A) = aX A
  | 0, _, _ => rfl
  | d + 1, p, A => tellL_x t f d (p + 1) _
theorem sTell_ok (t : Nat → Nat) (A : Ab) (f p q : Nat) : sOk A (sTell t A f p q) 9 := by
  unfold sTell
  split
  · split
    · exact sOk0 (by rw [tellL_x]; exact Nat.le_succ _)
    · exact sOk1 (by omega)
  · exact sOk1 (by omega)
theorem sOk_up {A : Ab} {s : Int × Int × Ab} {N M : Int} (h : sOk A s N) (hN : N ≤ M) : sOk A s M := h.elim (fun a => Or.inl a) (fun a => Or.inr ⟨by omega, a.2⟩)
theorem sCmd_ok (t : Nat → Nat) {A : Ab} (w : wfA A) (c : Cm) : sOk A (sCmd t A c) 9 := by
  unfold sCmd
  split
  · exact sOk_up (ok_sProp _ _ _) (by omega)
  · split
    · exact sOk_up (ok_sAdd _ _ _ _) (by omega)
    · split
      · exact sOk_up (ok_sPair _ _ _) (by omega)
      · split
        · exact sTell_ok _ _ _ _ _
        · split
          · exact sOk_up (sPerf_ok w _ _) (by omega)
          · split
            · exact sOk_up (sWalk_ok _ _ _ _) (by omega)
            · split
              · exact sOk_up (ok_sOpen _ _ _) (by omega)
              · split
                · exact sOk_up (ok_sRenew _ _) (by omega)
                · exact sOk_up (sLeave_ok _) (by omega)

