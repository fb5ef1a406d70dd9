/-! C HOLDS A SCHEME WITH BOUND TOP: three contexts fall by counting characters. -/
def tb9 : List (Nat × Nat × Nat) := [(10, 0, 22), (23, 0, 9), (15, 0, 17)]
def exW : List (Nat × Nat × Nat) := [(12, 0, 26), (15, 0, 22), (15, 0, 23), (16, 0, 22), (27, 0, 9), (27, 0, 10), (27, 0, 11), (28, 0, 9), (28, 0, 10), (29, 0, 9)]
def nvp (e co : Bool) (m k q1 q2 : Nat) : Bool := npl true e co m k q1 q2 || nvl true e co m k q1 q2
theorem b9E : tb9.all (fun s => (List.range 20).all (fun m => Nat.blt m 3 || (Nat.blt 58 (9 + s.1 + s.2.1 + s.2.2 + 2 * m) || (nvp true true m s.1 s.2.1 s.2.2 && nvp true false m s.1 s.2.1 s.2.2)))) = true := by decide +kernel
theorem b9A : tb9.all (fun s => (List.range 20).all (fun m => Nat.blt m 3 || (Nat.blt 58 (9 + s.1 + s.2.1 + s.2.2 + 2 * m + 5) || (nvp false true m s.1 s.2.1 s.2.2 && (Nat.ble m 6 || nvp false false m s.1 s.2.1 s.2.2))))) = true := by decide +kernel
theorem b9c : tb9.all (fun s => Nat.beq (9 + s.1 + s.2.1 + s.2.2) 41) = true := by decide
section PmZh
variable {f : Nat} {s x y C : Ty} {Γ0 Δ1 : List Ty} {Δ : List (Nat × Ty × Nat)}
theorem nat_q (hp : phf (fun _ => true) C = true) (w : TWf f (cxs Δ1 Γ0 (tAll tTop C)).length (Δ.map (fun a => a.1)) s) (he : TE (cxs Δ1 Γ0 (tAll tTop C)) Δ) (tn : TNo f s) (ch : CHo f s []) (hz : memt tb9 (tch C) (cch Γ0) (cch Δ1) = true) (ho : (∀ b ∈ Γ0, nsch b = true ∨ (true = true ∧ tch b ≤ tch C + 5)) ∧ ∀ b ∈ Δ1, nsch b = true ∨ (true = true ∧ tch b ≤ tch C + 5)) (m3 : 3 ≤ mch s) (hb : cch (cxs Δ1 Γ0 (tAll tTop C)) + dch Δ + 2 * mch s ≤ 58) (h20 : 20 ≤ cch (cxs Δ1 Γ0 (tAll tTop C))) (h49 : cch (cxs Δ1 Γ0 (tAll tTop C)) ≤ 47) : NtV (cxs Δ1 Γ0 (tAll tTop C)) Δ f s 887 597 := by
  have ec := ec_top C Γ0 Δ1
  have hz := memt_mem hz
  have c41 : 9 + tch C + cch Γ0 + cch Δ1 = 41 := Nat.eq_of_beq_eq_true (List.all_eq_true.mp b9c _ hz)
  obtain ⟨co, hco⟩ : ∃ co : Bool, (co = true ↔ COk f s 0) := by
    by_cases c : COk f s 0
    · exact ⟨true, fun _ => c, fun _ => rfl⟩
    · exact ⟨false, (fun h => by cases h), fun h => absurd h c⟩
  have fin : nvp Δ.isEmpty co (mch s) (tch C) (cch Γ0) (cch Δ1) = true → NtV (cxs Δ1 Γ0 (tAll tTop C)) Δ f s 887 597 := by
    intro h
    unfold nvp at h
    rw [Bool.or_eq_true] at h
    rcases h with h | h
    · exact nat_pl (o := true) w he ch m3 hco.mp h ho hb h20 h49
    · exact nat_vl (o := true) w he ch m3 hco.mp hp h ho hb h20 h49
  by_cases nΔ : Δ = []
  · have hE : Δ.isEmpty = true := List.isEmpty_iff.mpr nΔ
    rw [hE] at fin
    have q := rng_all (List.all_eq_true.mp b9E _ hz) (i := mch s) (by omega)
    rw [Bool.or_eq_true, Bool.or_eq_true, Bool.and_eq_true] at q
    rcases q with q | q | q
    · exact (blt_no m3 q).elim
    · have q : Nat.blt 58 (9 + tch C + cch Γ0 + cch Δ1 + 2 * mch s) = true := q
      exact (blt_no (by omega) q).elim
    · cases co
      · exact fin q.2
      · exact fin q.1
  · have d5 := dch_five he nΔ
    have hE : Δ.isEmpty = false := by
      cases h : Δ.isEmpty with
      | false => rfl
      | true => exact absurd (List.isEmpty_iff.mp h) nΔ
    rw [hE] at fin
    have q := rng_all (List.all_eq_true.mp b9A _ hz) (i := mch s) (by omega)
    rw [Bool.or_eq_true, Bool.or_eq_true, Bool.and_eq_true, Bool.or_eq_true] at q
    rcases q with q | q | ⟨q1, q2⟩
    · exact (blt_no m3 q).elim
    · have q : Nat.blt 58 (9 + tch C + cch Γ0 + cch Δ1 + 2 * mch s + 5) = true := q
      exact (blt_no (by omega) q).elim
    · by_cases c : COk f s 0
      · rw [hco.mpr c] at fin
        exact fin q1
      · have hc : co = false := by
          cases h : co with
          | false => rfl
          | true => exact absurd (hco.mp h) c
        rw [hc] at fin
        rcases q2 with q2 | q2
        · exfalso
          have q2 := Nat.le_of_ble_eq_true q2
          have m6 := (co_six w).resolve_left c
          obtain ⟨a, e⟩ := dch_one he nΔ (by omega)
          rw [e] at w
          have := (chr_one f _ _ s w tn).2.resolve_left c
          omega
        · exact fin q2
end PmZh
def RsG (f : Nat) (x y C : Ty) (Γ0 Δ1 : List Ty) (Δ : List (Nat × Ty × Nat)) : Prop := LFn f x y C Γ0 Δ1 Δ ∧ phf (fun _ => true) C = true ∧ ((ndk (cch Γ0) (cch Δ1) = true ∧ ¬ HKd 0 tTop C Γ0) ∨ (kdt C ≠ 1 ∧ kdt C ≠ 4 ∧ memt exW (tch C) (cch Γ0) (cch Δ1) = true))
def LeftG (f : Nat) (x y : Ty) (Γ : List Ty) (Δ : List (Nat × Ty × Nat)) : Prop := ∃ (Δ1 Γ0 : List Ty) (b : Ty), Γ = cxs Δ1 Γ0 b ∧ nsch b = false ∧ ((∀ a ∈ Γ0, nsch a = true ∨ tch a ≤ tch b) ∧ ∀ a ∈ Δ1, nsch a = true ∨ tch a ≤ tch b) ∧ ((∀ B C, b ≠ tAll B C) ∨ (∃ B C, b = tAll B C ∧ B ≠ tTop) ∨ ∃ (C : Ty), b = tAll tTop C ∧ RsG f x y C Γ0 Δ1 Δ)
def RESTf : Prop := ∀ (f : Nat) (x y : Ty) (Γ : List Ty) (Δ : List (Nat × Ty × Nat)), TWf f Γ.length (Δ.map (fun a => a.1)) x → TWf f Γ.length (Δ.map (fun a => a.1)) y → TE Γ Δ → NAt f x → NAt f y → noac Γ → (∀ a ∈ Δ, noal a.2.1 = true) → TNo f x → TNo f y → 3 ≤ mch x → 3 ≤ mch y → (mch x ≤ mch y → ¬ NOp f x) → (¬ mch x ≤ mch y → ¬ NOp f y) → 20 ≤ cch Γ → cch Γ ≤ 47 → cch Γ + dch Δ + (2 + (mch x + mch y)) ≤ 60 → NoG f x y Γ Δ → (¬ ((mch x ≤ mch y → CHo f x []) ∧ (¬ mch x ≤ mch y → CHo f y [])) ∨ LeftG f x y Γ Δ) → PRn f x y Γ Δ
theorem reste_of (R : RESTf) : RESTe := by
  intro f x y Γ Δ x1 x2 he y1 y2 hv hd' tx ty m3 n3 no1 no2 h20 h47 hb ng hL
  have rest := R f x y Γ Δ x1 x2 he y1 y2 hv hd' tx ty m3 n3 no1 no2 h20 h47 hb ng
  have nt : NtV Γ Δ f x 887 597 ∨ NtV Γ Δ f y 887 597 → PRn f x y Γ Δ := pair_ntv x1 x2 he y1 y2 hv hd' (by omega)
  by_cases ch : (mch x ≤ mch y → CHo f x []) ∧ (¬ mch x ≤ mch y → CHo f y [])
  rotate_left
  · exact rest (Or.inl ch)
  rcases hL with h | ⟨Δ1, Γ0, b, e, nb, hs, h⟩
  · exact absurd ch h
  rcases h with h | h | ⟨C, eb, lf, hp, h⟩
  · exact rest (Or.inr ⟨Δ1, Γ0, b, e, nb, hs, Or.inl h⟩)
  · exact rest (Or.inr ⟨Δ1, Γ0, b, e, nb, hs, Or.inr (Or.inl h)⟩)
  have out : RsG f x y C Γ0 Δ1 Δ → PRn f x y Γ Δ := fun r => rest (Or.inr ⟨Δ1, Γ0, b, e, nb, hs, Or.inr (Or.inr ⟨C, eb, r⟩)⟩)
  have key : memt tb9 (tch C) (cch Γ0) (cch Δ1) = true → PRn f x y Γ Δ := by
    intro k
    have ho : (∀ b ∈ Γ0, nsch b = true ∨ (true = true ∧ tch b ≤ tch C + 5)) ∧ ∀ b ∈ Δ1, nsch b = true ∨ (true = true ∧ tch b ≤ tch C + 5) := by
      have et : tch b = tch C + 5 := by rw [eb, tch_all, tch_top]; omega
      rw [et] at hs
      exact ⟨fun a ha => (hs.1 a ha).imp id (fun q => ⟨rfl, q⟩), fun a ha => (hs.2 a ha).imp id (fun q => ⟨rfl, q⟩)⟩
    subst eb
    subst e
    by_cases c : mch x ≤ mch y
    · exact nt (Or.inl (nat_q hp x1 he tx (ch.1 c) k ho m3 (by omega) h20 h47))
    · exact nt (Or.inr (nat_q hp x2 he ty (ch.2 c) k ho n3 (by omega) h20 h47))
  rcases h with h | h | ⟨h1, h2, h⟩
  · exact out ⟨lf, hp, Or.inl h⟩
  · refine key ?_
    have et := List.mem_singleton.mp (memt_mem h)
    rw [Prod.mk.injEq, Prod.mk.injEq] at et
    rw [et.1, et.2.1, et.2.2]
    decide
  · have sp : exV.all (fun s => memt tb9 s.1 s.2.1 s.2.2 || memt exW s.1 s.2.1 s.2.2) = true := by decide +kernel
    have q := List.all_eq_true.mp sp _ (memt_mem h)
    rw [Bool.or_eq_true] at q
    rcases q with q | q
    · exact key q
    · exact out ⟨lf, hp, Or.inr ⟨h1, h2, q⟩⟩
