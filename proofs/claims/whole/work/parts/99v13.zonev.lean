/-! TERMS IN THE ZONE, by nature. -/
theorem cch_cx {Γ0 : List Ty} {β : Ty} : ∀ Δ1 : List Ty, cch (cxs Δ1 Γ0 β) = cch Δ1 + (tch β + 4) + cch Γ0
  | [] => by
    show (tch β + 4) + cch Γ0 = 0 + (tch β + 4) + cch Γ0
    omega
  | a :: Δ1 => by
    have := cch_cx (Γ0 := Γ0) (β := β) Δ1
    show (tch a + 4) + cch (cxs Δ1 Γ0 β) = (tch a + 4) + cch Δ1 + (tch β + 4) + cch Γ0
    omega
theorem okc_mch : ∀ {Γ : List Ty} {b : Ty}, okc Γ → b ∈ Γ → ∃ d, ok d b = true ∧ tch b + 4 ≤ cch Γ
  | a :: Γ, b, hc, hb => by
    rcases List.mem_cons.mp hb with e | e
    · refine ⟨Γ.length, by rw [e]; exact hc.1, ?_⟩
      show tch b + 4 ≤ (tch a + 4) + cch Γ
      rw [e]; omega
    · obtain ⟨d, h1, h2⟩ := okc_mch hc.2 e
      refine ⟨d, h1, ?_⟩
      show tch b + 4 ≤ (tch a + 4) + cch Γ
      omega
theorem okc_cxs {Γ0 : List Ty} {β : Ty} : ∀ {Δ1 : List Ty} {b : Ty}, okc (cxs Δ1 Γ0 β) → b ∈ Δ1 → ∃ d, ok d b = true ∧ tch b + 4 ≤ cch Δ1
  | a :: Δ1, b, hc, hb => by
    rcases List.mem_cons.mp hb with e | e
    · refine ⟨(cxs Δ1 Γ0 β).length, by rw [e]; exact hc.1, ?_⟩
      show tch b + 4 ≤ (tch a + 4) + cch Δ1
      rw [e]; omega
    · obtain ⟨d, h1, h2⟩ := okc_cxs (Γ0 := Γ0) (β := β) hc.2 e
      refine ⟨d, h1, ?_⟩
      show tch b + 4 ≤ (tch a + 4) + cch Δ1
      omega
/-- a term that is simple: no choice under an operation, at most one instance waiting, no instance under a binder -/
def smp (f : Nat) (t : Ty) : Prop := COk f t 0 ∧ NQk f t 0 ∧ (hasq f t = true → gqk f t = 0) ∧ mch t ≤ 17
