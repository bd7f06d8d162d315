/-! runs of the law's helpers: what they cost is told with the answer -/
section XXL
variable {E : pmEv0} {d j : Nat} {β γ : Type} {T : β → pmR → Prop} {c : pmC} {w0 : Nat}
theorem x_seqL {oc : Option γ} {k : γ → Option β} (cf : γ → pmC) (kf : γ → Nat) (h1 : XX E d j c w0 (6 * w0) oc (fun v => pmRn E d j (cf v) (kf v) (6 * kf v))) (h2 : ∀ v, XX E d j (cf v) (kf v) (6 * kf v) (k v) T) : XX E d j c w0 (6 * w0) (oc.bind k) T := by
  intro b hb r hT
  cases ho : oc with
  | none => rw [ho] at hb; cases hb
  | some v =>
    rw [ho] at hb
    exact h1 v ho r (h2 v b hb r hT)
theorem x_seqsL {oc : Option (γ ⊕ β)} {k : γ → Option β} (cf : γ → pmC) (kf : γ → Nat) (h1 : XX E d j c w0 (6 * w0) oc (sT (fun v => pmRn E d j (cf v) (kf v) (6 * kf v)) T)) (h2 : ∀ v, XX E d j (cf v) (kf v) (6 * kf v) (k v) T) : XX E d j c w0 (6 * w0) (oc.bind (oS k)) T := by
  intro b hb r hT
  cases ho : oc with
  | none => rw [ho] at hb; cases hb
  | some v =>
    rw [ho] at hb
    cases v with
    | inl v => exact h1 (.inl v) ho r (h2 v b hb r hT)
    | inr v9 =>
      cases hb
      exact h1 (.inr _) ho r hT
theorem x_seqrL {δ : Type} {T0 : δ → pmR → Prop} {oc : Option (γ ⊕ β)} {k : γ → Option (δ ⊕ β)} (cf : γ → pmC) (kf : γ → Nat) (h1 : XX E d j c w0 (6 * w0) oc (sT (fun v => pmRn E d j (cf v) (kf v) (6 * kf v)) T)) (h2 : ∀ v, XX E d j (cf v) (kf v) (6 * kf v) (k v) (sT T0 T)) : XX E d j c w0 (6 * w0) (oc.bind (oR k)) (sT T0 T) := by
  intro b hb r hT
  cases ho : oc with
  | none => rw [ho] at hb; cases hb
  | some v =>
    rw [ho] at hb
    cases v with
    | inl v => exact h1 (.inl v) ho r (h2 v b hb r hT)
    | inr v9 =>
      cases hb
      exact h1 (.inr _) ho r hT
end XXL
