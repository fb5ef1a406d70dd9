/-! ROOT SCHEMES with a bound that names variables whose body holds a scheme with the very bound: pairs. -/
def zgR (L : LnT) (be k q1 q2 : Nat) : Bool := liy L (soR be q1) fr1 fg1 1 3 (kpz fr1 0 (max 1 (fx1.getD q1 0)) 0) (wbz fr1 1 (max 1 (fx1.getD q1 0)) be) (max 1 (fx1.getD q1 0)) (ojz k 0 q1 q2) k q2 (8 + be + k + q1 + q2)
def zgG (L : LnT) (be k q1 q2 : Nat) : Bool := liy L (soG be q1) frq fgq 0 1 (kpz frq 1 (max 1 (fxq.getD q1 0)) 0) (wbz frq 0 (max 1 (fxq.getD q1 0)) be) (max 1 (fxq.getD q1 0)) (ojz k 0 q1 q2) k q2 (8 + be + k + q1 + q2)
def B5z (e : Bool) (m be k q1 q2 : Nat) : Bool := if e then (Nat.ble 8 m && (Nat.ble 34 (8 + be + k + q1 + q2) && (zgR u2R be k q1 q2 && zgG u2G be k q1 q2))) else if Nat.ble m 5 then zgR u0R be k q1 q2 && zgG u0G be k q1 q2 else Nat.ble 30 (8 + be + k + q1 + q2) && (zgR u1R be k q1 q2 && zgG u1G be k q1 q2)
section PmHy
variable {f : Nat} {t B C : Ty} {Γ0 Δ1 : List Ty} {Δ : List (Nat × Ty × Nat)}
theorem nat_bg (q13 : cch Γ0 ≤ 13) (lb : LBd Γ0 Δ1 (tAll B C) tTop B C) (nB : nsch B = true) (b2 : 4 ≤ tch B) (b16 : tch B ≤ 16) (fl : sB B C = true) (w : TWf f (cxs Δ1 Γ0 (tAll B C)).length (Δ.map (fun a => a.1)) t) (he : TE (cxs Δ1 Γ0 (tAll B C)) Δ) (ch : CHo f t []) (hz : B5z Δ.isEmpty (mch t) (tch B) (tch C) (cch Γ0) (cch Δ1) = true) (m3 : 3 ≤ mch t) (h20 : 20 ≤ cch (cxs Δ1 Γ0 (tAll B C))) (h47 : cch (cxs Δ1 Γ0 (tAll B C)) ≤ 47) (q38 : cch Δ1 ≤ 38) (hb : cch (cxs Δ1 Γ0 (tAll B C)) + dch Δ + 2 * mch t ≤ 58) : NtV (cxs Δ1 Γ0 (tAll B C)) Δ f t 887 597 := by
  have ec := cch_cx (Γ0 := Γ0) (β := tAll B C) Δ1
  have eσ := tch_all B C
  have ez : tch (tAll B C) - tch (tAll B C) = 0 := Nat.sub_self _
  have eq : 8 + tch B + tch C + cch Γ0 + cch Δ1 = cch (cxs Δ1 Γ0 (tAll B C)) := by omega
  have oσ := lb.1.2.1
  have oC : ok (Γ0.length + 1) C = true := (ok_all.mp oσ).2
  have oc0 := (okc_low Δ1 he.1).1
  have oB := (ok_all.mp oσ).1
  have fR := fun d => so_rows (d := d) oc0 q13 oB nB b2 b16 oC lb.2.2.2.1 fl
  have fG := so_goals oc0 q13 oB nB b2 b16 oC lb.2.2.2.1 fl
  have key : ∀ {un e : Bool} {LR LG : LnT} {c0 c1 m0 m1 : Nat}, ((e = true ∧ Δ = []) ∨ (e = false ∧ Δ ≠ [])) → (un = true ∨ COk f t 0) → zgR LR (tch B) (tch C) (cch Γ0) (cch Δ1) = true → zgG LG (tch B) (tch C) (cch Γ0) (cch Δ1) = true → lnf un e LR fr1 fg1 1 2 3 2 2 2 2 887 c0 c1 m0 m1 = true → lnf un e LG frq fgq 0 1 1 1 3 2 1 597 c0 c1 m0 m1 = true → c0 ≤ cch (cxs Δ1 Γ0 (tAll B C)) → cch (cxs Δ1 Γ0 (tAll B C)) < c1 → m0 ≤ mch t → mch t < m1 → NtV (cxs Δ1 Γ0 (tAll B C)) Δ f t 887 597 := by
    intro un e LR LG c0 c1 m0 m1 hΔ cu zR zG tR tG h0 h1 g0 g1
    unfold zgR at zR
    unfold zgG at zG
    rw [eq] at zR zG
    exact zone_k (un := un) (e := e) fR fG lb w he hΔ cu ch (by rw [ez]; exact zR) (by rw [ez]; exact zG) tR tG h0 h1 g0 g1 h47 q38 hb
  unfold B5z at hz
  rw [eq] at hz
  by_cases c : Δ = []
  · rw [if_pos (List.isEmpty_iff.mpr c), Bool.and_eq_true, Bool.and_eq_true, Bool.and_eq_true] at hz
    obtain ⟨m8, h32, zR, zG⟩ := hz
    exact key (e := true) (un := true) (Or.inl ⟨rfl, c⟩) (Or.inl rfl) zR zG u2R_34 u2G_34 (Nat.le_of_ble_eq_true h32) (by omega) (Nat.le_of_ble_eq_true m8) (by have := Nat.le_of_ble_eq_true h32; omega)
  · have hΔ : (false = true ∧ Δ = []) ∨ (false = false ∧ Δ ≠ []) := Or.inr ⟨rfl, c⟩
    rw [if_neg (by intro q; exact c (List.isEmpty_iff.mp q))] at hz
    by_cases m5 : mch t ≤ 5
    · rw [if_pos (Nat.ble_eq_true_of_le m5), Bool.and_eq_true] at hz
      exact key (un := false) hΔ (Or.inr ((co_six w).resolve_right (by omega))) hz.1 hz.2 u0R_20 u0G_20 h20 (by omega) m3 (by omega)
    · rw [if_neg (by intro q; exact m5 (Nat.le_of_ble_eq_true q)), Bool.and_eq_true, Bool.and_eq_true] at hz
      obtain ⟨h26, zR, zG⟩ := hz
      have h26 := Nat.le_of_ble_eq_true h26
      by_cases c36 : cch (cxs Δ1 Γ0 (tAll B C)) < 36
      · exact key (un := true) hΔ (Or.inl rfl) zR zG u1R_30 u1G_30 h26 c36 (by omega) (by omega)
      exact key (un := true) hΔ (Or.inl rfl) zR zG u1R_36 u1G_36 (by omega) (by omega) (by omega) (by omega)
end PmHy
def AzG (f : Nat) (t : Ty) (Γ : List Ty) (Δ : List (Nat × Ty × Nat)) : Prop := ∃ (Δ1 Γ0 : List Ty) (B C : Ty), Γ = cxs Δ1 Γ0 (tAll B C) ∧ cch Γ0 ≤ 13 ∧ LBd Γ0 Δ1 (tAll B C) tTop B C ∧ nsch B = true ∧ 4 ≤ tch B ∧ tch B ≤ 16 ∧ sB B C = true ∧ CHo (pee f t).1 (pee f t).2 [] ∧ B5z Δ.isEmpty (mch (pee f t).2) (tch B) (tch C) (cch Γ0) (cch Δ1) = true ∧ 3 ≤ mch (pee f t).2 ∧ cch Δ1 ≤ 38 ∧ cch Γ + dch Δ + 2 * mch (pee f t).2 ≤ 58
theorem AzG.v {f : Nat} {t : Ty} {Γ : List Ty} {Δ : List (Nat × Ty × Nat)} (w : TWf f Γ.length (Δ.map (fun a => a.1)) t) (he : TE Γ Δ) (h20 : 20 ≤ cch Γ) (h47 : cch Γ ≤ 47) (h : AzG f t Γ Δ) : NtV Γ Δ f t 887 597 := by
  obtain ⟨Δ1, Γ0, B, C, e, oB, lb, nB, b2, b16, fl, ch, hz, m3, q38, hb⟩ := h
  refine NtV_pee f t w he ?_
  have w' := (pee_ok f _ _ t w).1.1
  subst e
  exact nat_bg oB lb nB b2 b16 fl w' he ch hz m3 h20 h47 q38 hb
def RESTo9 : Prop := ∀ (f : Nat) (x y : Ty) (Γ : List Ty) (Δ : List (Nat × Ty × Nat)), TWf f Γ.length (Δ.map (fun a => a.1)) x → TWf f Γ.length (Δ.map (fun a => a.1)) y → TE Γ Δ → NAt f x → NAt f y → noac Γ → (∀ a ∈ Δ, noal a.2.1 = true) → TNo f x → TNo f y → 3 ≤ mch x → 3 ≤ mch y → (mch x ≤ mch y → ¬ NOp f x) → (¬ mch x ≤ mch y → ¬ NOp f y) → 20 ≤ cch Γ → cch Γ ≤ 47 → cch Γ + dch Δ + (2 + (mch x + mch y)) ≤ 60 → NoO f x y Γ Δ → ¬ AzT f x Γ Δ → ¬ AzT f y Γ Δ → ¬ AzB f x Γ Δ → ¬ AzB f y Γ Δ → ¬ AzC f x Γ Δ → ¬ AzC f y Γ Δ → ¬ AzI f x Γ Δ → ¬ AzI f y Γ Δ → ¬ AzF f x Γ Δ → ¬ AzF f y Γ Δ → ¬ AzG f x Γ Δ → ¬ AzG f y Γ Δ → (¬ ((mch x ≤ mch y → CHo f x []) ∧ (¬ mch x ≤ mch y → CHo f y [])) ∨ LeftJ f x y Γ Δ) → PRn f x y Γ Δ
theorem restn9_of (R : RESTo9) : RESTn9 := by
  intro f x y Γ Δ x1 x2 he y1 y2 hv hd' tx ty m3 n3 no1 no2 h20 h47 hb ng ax ay bx bz cx cy dx dy ex ey hL
  by_cases a : AzG f x Γ Δ
  · exact pair_ntv x1 x2 he y1 y2 hv hd' (by omega) (Or.inl (a.v x1 he h20 h47))
  by_cases b : AzG f y Γ Δ
  · exact pair_ntv x1 x2 he y1 y2 hv hd' (by omega) (Or.inr (b.v x2 he h20 h47))
  exact R f x y Γ Δ x1 x2 he y1 y2 hv hd' tx ty m3 n3 no1 no2 h20 h47 hb ng ax ay bx bz cx cy dx dy ex ey a b hL
theorem pairn_oo (R : RESTo9) : PAIRn := pairn_on (restn9_of R)
