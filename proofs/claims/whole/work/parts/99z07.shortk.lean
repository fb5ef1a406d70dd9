/-! A SCHEME WITH BOUND TOP of at most 17 characters, other schemes around. -/
theorem nz17A : ckl xa1 (fun k q1 q2 => Nat.ble 18 k || (Nat.blt q2 10 || (List.range 6).all (fun m => Nat.blt m 3 || (nzl true false true m k q1 q2 && nzl true false false m k q1 q2)))) = true := by decide +kernel
theorem nz17C : ckl xc1 (fun k q1 q2 => Nat.ble 18 k || (Nat.blt q2 10 || (List.range 20).all (fun m => Nat.blt m 6 || (nzl true false true m k q1 q2 && nzl true false false m k q1 q2)))) = true := by decide +kernel
theorem nz17E : ckl xe1 (fun k q1 q2 => Nat.ble 18 k || (Nat.blt q2 10 || (List.range 20).all (fun m => Nat.blt m 3 || (nzl true true true m k q1 q2 && nzl true true false m k q1 q2)))) = true := by decide +kernel
theorem nz17_get {e co : Bool} {m k q1 q2 : Nat} (hn : npl true e co m k q1 q2 = false) (k17 : k ≤ 17) (q10 : 10 ≤ q2) (m3 : 3 ≤ m) (m20 : m < 20) : nzl true e co m k q1 q2 = true := by
  have nk : ¬ Nat.ble 18 k = true := fun h => by have := Nat.le_of_ble_eq_true h; omega
  have nq : ¬ Nat.blt q2 10 = true := fun h => (blt_no q10 h).elim
  have fin : ∀ {a : Nat}, a ≤ m → (Nat.ble 18 k || (Nat.blt q2 10 || (Nat.blt m a || (nzl true e true m k q1 q2 && nzl true e false m k q1 q2)))) = true → nzl true e co m k q1 q2 = true := by
    intro a ha h
    rw [Bool.or_eq_true, Bool.or_eq_true, Bool.or_eq_true, Bool.and_eq_true] at h
    rcases h with h | h | h | h
    · exact absurd h nk
    · exact absurd h nq
    · exact (blt_no ha h).elim
    · cases co
      · exact h.2
      · exact h.1
  have pick : ∀ {a b : Nat}, m < b → (Nat.ble 18 k || (Nat.blt q2 10 || (List.range b).all (fun m => Nat.blt m a || (nzl true e true m k q1 q2 && nzl true e false m k q1 q2)))) = true → (Nat.ble 18 k || (Nat.blt q2 10 || (Nat.blt m a || (nzl true e true m k q1 q2 && nzl true e false m k q1 q2)))) = true := by
    intro a b hb h
    rw [Bool.or_eq_true, Bool.or_eq_true] at h ⊢
    rcases h with h | h | h
    · exact Or.inl h
    · exact Or.inr (Or.inl h)
    · exact Or.inr (Or.inr (rng_all h hb))
  unfold npl at hn
  cases e with
  | true =>
    rw [if_pos rfl, Bool.or_eq_false_iff] at hn
    exact fin m3 (pick m20 (ckl_get nz17E (by omega) hn.1))
  | false =>
    rw [if_neg (by decide)] at hn
    by_cases m6 : m < 6
    · rw [blt_is m6, if_pos rfl, Bool.or_eq_false_iff] at hn
      exact fin m3 (pick m6 (ckl_get nz17A (by omega) hn.1))
    · rw [blt_not m6, if_neg (by decide), Bool.or_eq_false_iff] at hn
      exact fin (show 6 ≤ m by omega) (pick m20 (ckl_get nz17C (by omega) hn.1))
section PmZ7
variable {f : Nat} {x y C : Ty} {Γ0 Δ1 : List Ty} {Δ : List (Nat × Ty × Nat)}
theorem pair_K (nC : noh 0 C = true) (n0 : ∀ b ∈ Γ0, noh 0 b = true) (x1 : TWf f (cxs Δ1 Γ0 (tAll tTop C)).length (Δ.map (fun a => a.1)) x) (x2 : TWf f (cxs Δ1 Γ0 (tAll tTop C)).length (Δ.map (fun a => a.1)) y) (he : TE (cxs Δ1 Γ0 (tAll tTop C)) Δ) (y1 : NAt f x) (y2 : NAt f y) (hv : noac (cxs Δ1 Γ0 (tAll tTop C))) (hd' : ∀ a ∈ Δ, noal a.2.1 = true) (ch1 : mch x ≤ mch y → CHo f x []) (ch2 : ¬ mch x ≤ mch y → CHo f y []) (ho : (∀ b ∈ Γ0, nsch b = true ∨ (true = true ∧ tch b ≤ tch C + 5)) ∧ ∀ b ∈ Δ1, nsch b = true ∨ (true = true ∧ tch b ≤ tch C + 5)) (m3 : 3 ≤ mch x) (n3 : 3 ≤ mch y) (hb : cch (cxs Δ1 Γ0 (tAll tTop C)) + dch Δ + (2 + (mch x + mch y)) ≤ 60) (h20 : 20 ≤ cch (cxs Δ1 Γ0 (tAll tTop C))) (h49 : cch (cxs Δ1 Γ0 (tAll tTop C)) ≤ 47) (k17 : tch C ≤ 17) (lf : LFn f x y C Γ0 Δ1 Δ) : PRn f x y (cxs Δ1 Γ0 (tAll tTop C)) Δ ∨ ((∀ b ∈ Δ1, noh 0 b = true) ∧ (¬ ((∀ a ∈ Δ, noh 0 a.2.1 = true) ∧ NHt 0 f x ∧ NHt 0 f y) ∨ (mch x ≤ mch y ∧ ¬ COk f x 0) ∨ (¬ mch x ≤ mch y ∧ ¬ COk f y 0))) := by
  have ec := ec_top C Γ0 Δ1
  have nt : NtV (cxs Δ1 Γ0 (tAll tTop C)) Δ f x 887 597 ∨ NtV (cxs Δ1 Γ0 (tAll tTop C)) Δ f y 887 597 → PRn f x y (cxs Δ1 Γ0 (tAll tTop C)) Δ := pair_ntv x1 x2 he y1 y2 hv hd' (by omega)
  -- the shorter one
  obtain ⟨t, w, ch, m, b1, co, hco, hn, nx⟩ : ∃ t, TWf f (cxs Δ1 Γ0 (tAll tTop C)).length (Δ.map (fun a => a.1)) t ∧ CHo f t [] ∧ 3 ≤ mch t ∧ cch (cxs Δ1 Γ0 (tAll tTop C)) + dch Δ + 2 * mch t ≤ 58 ∧ ∃ co : Bool, (co = true → COk f t 0) ∧ npl true Δ.isEmpty co (mch t) (tch C) (cch Γ0) (cch Δ1) = false ∧ (NtV (cxs Δ1 Γ0 (tAll tTop C)) Δ f t 887 597 → PRn f x y (cxs Δ1 Γ0 (tAll tTop C)) Δ) := by
    obtain ⟨s, co, hs, ⟨l1, l2⟩, hco, hn⟩ := lf
    by_cases c : mch x ≤ mch y
    · rcases hs with e | e
      · subst e
        exact ⟨s, x1, ch1 c, m3, by omega, co, hco.mp, hn, fun h => nt (Or.inl h)⟩
      · by_cases c' : mch y ≤ mch x
        · have ch : CHo f y [] ∨ 8 ≤ mch y := ch_eight x2
          subst e
          by_cases cy : CHo f s []
          · exact ⟨s, x2, cy, n3, by omega, co, hco.mp, hn, fun h => nt (Or.inr h)⟩
          · refine ⟨x, x1, ch1 c, m3, by omega, false, (fun h => by cases h), ?_, fun h => nt (Or.inl h)⟩
            have em : mch x = mch s := by omega
            rw [em]
            cases co with
            | false => exact hn
            | true => exact absurd (CHo_of_COk f s [] (hco.mp rfl)) cy
        · rw [e] at l1
          omega
    · rcases hs with e | e
      · rw [e] at l2
        omega
      · subst e
        exact ⟨s, x2, ch2 c, n3, by omega, co, hco.mp, hn, fun h => nt (Or.inr h)⟩
  by_cases f1 : ∃ b ∈ Δ1, noh 0 b = false
  · have q10 : 10 ≤ cch Δ1 := by
      obtain ⟨b, hb', n⟩ := f1
      obtain ⟨d, o, h2⟩ := okc_cxs he.1 hb'
      have := noh_six o n
      omega
    exact Or.inl (nx (nat_zl (o := true) w he ch m hco f1 (nz17_get hn k17 q10 m (by omega)) ho b1 h20 h49))
  have n1 : ∀ b ∈ Δ1, noh 0 b = true := by
    intro b hb'
    cases h : noh 0 b with
    | true => rfl
    | false => exact absurd ⟨b, hb', h⟩ f1
  by_cases all : (∀ a ∈ Δ, noh 0 a.2.1 = true) ∧ NHt 0 f x ∧ NHt 0 f y
  rotate_left
  · exact Or.inr ⟨n1, Or.inl all⟩
  have sg : SGc 0 tTop C tTop Γ0 Δ1 := ⟨by decide, hd_top, he.1, cxd_okc (ok_top _) Δ1 he.1, n1, n0⟩
  have nd : ∀ a ∈ Δ, noh 0 a.2.1 = true ∧ noal a.2.1 = true := fun a ha => ⟨all.1 a ha, hd' a ha⟩
  have hT := twk_get hn k17
  by_cases c : mch x ≤ mch y
  · by_cases co : COk f x 0
    · exact Or.inl (pair_gonev nC sg x1 x2 he y1 y2 hv nd (by omega) all.2.1 all.2.2 (Or.inl (gone_k nC sg all.2.1 y1 hv nd x1 he co m3 hT ho (by omega) h20 h49)))
    · exact Or.inr ⟨n1, Or.inr (Or.inl ⟨c, co⟩)⟩
  · by_cases co : COk f y 0
    · exact Or.inl (pair_gonev nC sg x1 x2 he y1 y2 hv nd (by omega) all.2.1 all.2.2 (Or.inr (gone_k nC sg all.2.2 y2 hv nd x2 he co n3 hT ho (by omega) h20 h49)))
    · exact Or.inr ⟨n1, Or.inr (Or.inr ⟨c, co⟩)⟩
end PmZ7
