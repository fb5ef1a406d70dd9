/-! A SCHEME WITH BOUND TOP of at most 17 characters, other schemes around: what is left, by counting characters. -/
def tk1 : List (Nat × Nat × Nat) := [(13, 0, 22)]
def tk2 : List (Nat × Nat × Nat) := [(8, 0, 18), (9, 0, 17), (9, 17, 0), (8, 0, 22)]
theorem k9E : ckl xe1 (fun k q1 q2 => Nat.ble 18 k || (List.range 20).all (fun m => Nat.blt m 3 || (Nat.blt 58 (9 + k + q1 + q2 + 2 * m) || (npl true true true m k q1 q2 && npl true true false m k q1 q2)))) = true := by decide +kernel
theorem k9A : ckl xa1 (fun k q1 q2 => Nat.ble 18 k || (List.range 6).all (fun m => Nat.blt m 3 || (npl true false true m k q1 q2 || (Nat.blt 48 (9 + k + q1 + q2 + 2 * m) && (Nat.blt 47 (9 + k + q1 + q2 + m) || (Nat.beq m 3 && memt tk1 k q1 q2)))))) = true := by decide +kernel
theorem k9C : ckl xc1 (fun k q1 q2 => Nat.ble 18 k || (List.range 20).all (fun m => Nat.blt m 6 || (Nat.blt 58 (9 + k + q1 + q2 + 2 * m + 5) || (npl true false true m k q1 q2 && (npl true false false m k q1 q2 || ((Nat.beq m 6 && Nat.blt 48 (9 + k + q1 + q2 + 2 * m)) || memt tk2 k q1 q2)))))) = true := by decide +kernel
section PmZ9
variable {f : Nat} {s u x y C : Ty} {Γ0 Δ1 : List Ty} {Δ : List (Nat × Ty × Nat)}
/-- what is left: the shorter term has a choice under an operation -/
def RsS (f : Nat) (x y C : Ty) (Γ0 Δ1 : List Ty) (Δ : List (Nat × Ty × Nat)) : Prop := Δ ≠ [] ∧ (∀ b ∈ Δ1, noh 0 b = true) ∧ memt tk2 (tch C) (cch Γ0) (cch Δ1) = true ∧ ∃ s, (s = x ∨ s = y) ∧ (mch s ≤ mch x ∧ mch s ≤ mch y) ∧ 6 ≤ mch s ∧ ¬ COk f s 0
/-- the shorter term s, the longer one u -/
theorem K_su {co : Bool} (w1 : TWf f (cxs Δ1 Γ0 (tAll tTop C)).length (Δ.map (fun a => a.1)) s) (w2 : TWf f (cxs Δ1 Γ0 (tAll tTop C)).length (Δ.map (fun a => a.1)) u) (he : TE (cxs Δ1 Γ0 (tAll tTop C)) Δ) (t1 : TNo f s) (le : mch s ≤ mch u) (m3 : 3 ≤ mch s) (hb : cch (cxs Δ1 Γ0 (tAll tTop C)) + dch Δ + (2 + (mch s + mch u)) ≤ 60) (h20 : 20 ≤ cch (cxs Δ1 Γ0 (tAll tTop C))) (h49 : cch (cxs Δ1 Γ0 (tAll tTop C)) ≤ 47) (k17 : tch C ≤ 17) (hco : co = true ↔ COk f s 0) (hn : npl true Δ.isEmpty co (mch s) (tch C) (cch Γ0) (cch Δ1) = false) (rs : ¬ ((∀ a ∈ Δ, noh 0 a.2.1 = true) ∧ NHt 0 f s ∧ NHt 0 f u) ∨ 6 ≤ mch s)   : NtV (cxs Δ1 Γ0 (tAll tTop C)) Δ f u 887 597 ∨ (Δ ≠ [] ∧ (memt tk2 (tch C) (cch Γ0) (cch Δ1) = true ∧ 6 ≤ mch s ∧ ¬ COk f s 0)) := by
  have ec := ec_top C Γ0 Δ1
  have nk : ¬ Nat.ble 18 (tch C) = true := fun h => by have := Nat.le_of_ble_eq_true h; omega
  have hn0 := hn
  unfold npl at hn
  by_cases nΔ : Δ = []
  · exfalso
    have hE : Δ.isEmpty = true := List.isEmpty_iff.mpr nΔ
    rw [hE, if_pos rfl, Bool.or_eq_false_iff] at hn
    rw [hE] at hn0
    have q := ckl_get k9E (by omega) hn.1
    rw [Bool.or_eq_true] at q
    have q := rng_all (q.resolve_left nk) (i := mch s) (by omega)
    rw [Bool.or_eq_true, Bool.or_eq_true, Bool.and_eq_true] at q
    rcases q with q | q | q
    · exact blt_no m3 q
    · exact blt_no (by omega) q
    · cases co
      · rw [q.2] at hn0; cases hn0
      · rw [q.1] at hn0; cases hn0
  have d5 := dch_five he nΔ
  have hE : Δ.isEmpty = false := by
    cases h : Δ.isEmpty with
    | false => rfl
    | true => exact absurd (List.isEmpty_iff.mp h) nΔ
  rw [hE, if_neg (by decide)] at hn
  rw [hE] at hn0
  by_cases m6 : mch s < 6
  · left
    have hc : co = true := hco.mpr ((co_six w1).resolve_right (by omega))
    rw [hc] at hn0
    rw [blt_is m6, if_pos rfl, Bool.or_eq_false_iff] at hn
    have q := ckl_get k9A (by omega) hn.1
    rw [Bool.or_eq_true] at q
    have q := rng_all (q.resolve_left nk) (i := mch s) m6
    rw [Bool.or_eq_true, Bool.or_eq_true, Bool.and_eq_true, Bool.or_eq_true, Bool.and_eq_true] at q
    rcases q with q | q | ⟨q1, q2⟩
    · exact (blt_no m3 q).elim
    · rw [q] at hn0; cases hn0
    have fl := rs.resolve_right (by omega)
    have hΔ : ∀ a ∈ Δ, noh 0 a.2.1 = true := by
      intro a ha
      cases h : noh 0 a.2.1 with
      | true => rfl
      | false =>
        have := dch_ten he ⟨a, ha, h⟩
        exact (blt_no (by omega) q1).elim
    obtain ⟨s1, s2, s3, sl, sH, -, -⟩ := chr_min f _ _ s w1
    obtain ⟨u1, u2, u3, ul, uH, -, -⟩ := chr_min f _ _ u w2
    have hs : NHt 0 f s := sH.resolve_right (by omega)
    have u5 : 5 ≤ u1 := uH.resolve_left (fun h => fl ⟨hΔ, hs, h⟩)
    rcases q2 with q2 | q2
    · exact (blt_no (by omega) q2).elim
    · have e3 := Nat.eq_of_beq_eq_true q2.1
      have et := List.mem_singleton.mp (memt_mem q2.2)
      rw [Prod.mk.injEq, Prod.mk.injEq] at et
      exact nat_six w2 he (fun h => fl ⟨hΔ, hs, h⟩) (by omega) (by omega)
  · right
    refine ⟨nΔ, ?_⟩
    rw [blt_not m6, if_neg (by decide), Bool.or_eq_false_iff] at hn
    have q := ckl_get k9C (by omega) hn.1
    rw [Bool.or_eq_true] at q
    have q := rng_all (q.resolve_left nk) (i := mch s) (by omega)
    rw [Bool.or_eq_true, Bool.or_eq_true, Bool.and_eq_true, Bool.or_eq_true, Bool.or_eq_true, Bool.and_eq_true] at q
    rcases q with q | q | ⟨qt, qf⟩
    · exact (blt_no (by omega) q).elim
    · exact (blt_no (by omega) q).elim
    have nco : ¬ COk f s 0 := by
      intro h
      rw [hco.mpr h, qt] at hn0
      cases hn0
    have hc : co = false := by
      cases h : co with
      | false => rfl
      | true => exact absurd (hco.mp h) nco
    rw [hc] at hn0
    rcases qf with q | ⟨q1, q2⟩ | q
    · rw [q] at hn0; cases hn0
    · exfalso
      have e6 := Nat.eq_of_beq_eq_true q1
      by_cases h9 : dch Δ ≤ 9
      · obtain ⟨a, rfl⟩ := dch_one he nΔ h9
        have := (chr_one f _ _ s w1 t1).2.resolve_left nco
        omega
      · exact blt_no (by omega) q2
    · exact ⟨q, by omega, nco⟩
theorem pair_K9 (nC : noh 0 C = true) (n0 : ∀ b ∈ Γ0, noh 0 b = true) (x1 : TWf f (cxs Δ1 Γ0 (tAll tTop C)).length (Δ.map (fun a => a.1)) x) (x2 : TWf f (cxs Δ1 Γ0 (tAll tTop C)).length (Δ.map (fun a => a.1)) y) (he : TE (cxs Δ1 Γ0 (tAll tTop C)) Δ) (y1 : NAt f x) (y2 : NAt f y) (hv : noac (cxs Δ1 Γ0 (tAll tTop C))) (hd' : ∀ a ∈ Δ, noal a.2.1 = true) (t1 : TNo f x) (t2 : TNo f y) (ch1 : mch x ≤ mch y → CHo f x []) (ch2 : ¬ mch x ≤ mch y → CHo f y []) (ho : (∀ b ∈ Γ0, nsch b = true ∨ (true = true ∧ tch b ≤ tch C + 5)) ∧ ∀ b ∈ Δ1, nsch b = true ∨ (true = true ∧ tch b ≤ tch C + 5)) (m3 : 3 ≤ mch x) (n3 : 3 ≤ mch y) (hb : cch (cxs Δ1 Γ0 (tAll tTop C)) + dch Δ + (2 + (mch x + mch y)) ≤ 60) (h20 : 20 ≤ cch (cxs Δ1 Γ0 (tAll tTop C))) (h49 : cch (cxs Δ1 Γ0 (tAll tTop C)) ≤ 47) (k17 : tch C ≤ 17) (lf : LFn f x y C Γ0 Δ1 Δ) : PRn f x y (cxs Δ1 Γ0 (tAll tTop C)) Δ ∨ RsS f x y C Γ0 Δ1 Δ := by
  rcases pair_K nC n0 x1 x2 he y1 y2 hv hd' ch1 ch2 ho m3 n3 hb h20 h49 k17 lf with h | ⟨n1, rs⟩
  · exact Or.inl h
  have nt : NtV (cxs Δ1 Γ0 (tAll tTop C)) Δ f x 887 597 ∨ NtV (cxs Δ1 Γ0 (tAll tTop C)) Δ f y 887 597 → PRn f x y (cxs Δ1 Γ0 (tAll tTop C)) Δ := pair_ntv x1 x2 he y1 y2 hv hd' (by omega)
  obtain ⟨s, co, hs, ⟨l1, l2⟩, hco, hn⟩ := lf
  have big : (mch x ≤ mch y ∧ ¬ COk f x 0) ∨ (¬ mch x ≤ mch y ∧ ¬ COk f y 0) → 6 ≤ mch x ∧ 6 ≤ mch y := by
    rintro (⟨c, h⟩ | ⟨c, h⟩)
    · have := (co_six x1).resolve_left h
      omega
    · have := (co_six x2).resolve_left h
      omega
  rcases hs with e | e
  · subst e
    have rs' : ¬ ((∀ a ∈ Δ, noh 0 a.2.1 = true) ∧ NHt 0 f s ∧ NHt 0 f y) ∨ 6 ≤ mch s := rs.imp id (fun h => (big h).1)
    rcases K_su x1 x2 he t1 l2 m3 hb h20 h49 k17 hco hn rs' with h | ⟨nΔ, k, m6, nco⟩
    · exact Or.inl (nt (Or.inr h))
    · exact Or.inr ⟨nΔ, n1, k, s, Or.inl rfl, ⟨l1, l2⟩, m6, nco⟩
  · subst e
    have rs' : ¬ ((∀ a ∈ Δ, noh 0 a.2.1 = true) ∧ NHt 0 f s ∧ NHt 0 f x) ∨ 6 ≤ mch s := rs.imp (fun h q => h ⟨q.1, q.2.2, q.2.1⟩) (fun h => (big h).2)
    rcases K_su x2 x1 he t2 l1 n3 (by omega) h20 h49 k17 hco hn rs' with h | ⟨nΔ, k, m6, nco⟩
    · exact Or.inl (nt (Or.inl h))
    · exact Or.inr ⟨nΔ, n1, k, s, Or.inr rfl, ⟨l1, l2⟩, m6, nco⟩
end PmZ9
