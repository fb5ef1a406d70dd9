/-! OTHER BOUNDS MAY BE SCHEMES THEMSELVES: entries, pairs. -/
def r0R : LnT := [[], [], [], [], [], [], [], [], [], [], [], [], [], [], [], [], [], [], [], [], [], [], [], [], [], [], [], [], [], [], [], [], [], [], [], [], [], [], [], [], [], [], [], [], [(97, 5, 34, 9, 1, 22)], [(144, 5, 76, 9, 1, 23)], [(152, 5, 94, 9, 1, 24)], [(164, 9, 94, 9, 2, 25)]]
def r0G : LnT := [[], [], [], [], [], [], [], [], [], [], [], [], [], [], [], [], [], [], [], [], [], [], [], [], [], [], [], [], [], [], [], [], [], [], [], [], [], [], [], [], [], [], [], [], [(67, 5, 28, 9, 1, 22)], [(107, 5, 48, 9, 1, 23)], [(112, 5, 72, 9, 1, 24)], [(123, 9, 72, 9, 2, 25)]]
theorem r0R_44 : lnf8o false false r0R fr1 fg1 1 2 3 2 2 2 2 887 44 48 3 6 = true := by decide +kernel
theorem r0G_44 : lnf8o false false r0G frq fgq 0 1 1 1 3 2 1 597 44 48 3 6 = true := by decide +kernel
def r1R : LnT := [[], [], [], [], [], [], [], [], [], [], [], [], [], [], [], [], [], [], [], [], [], [], [], [], [], [], [], [], [], [], [], [], [], [], [], [], [], [], [], [], [(96, 5, 38, 6, 1, 18)], [(104, 5, 43, 6, 1, 19)], [], [], [], [], [], []]
def r1G : LnT := [[], [], [], [], [], [], [], [], [], [], [], [], [], [], [], [], [], [], [], [], [], [], [], [], [], [], [], [], [], [], [], [], [], [], [], [], [], [], [], [], [(74, 5, 31, 6, 1, 18)], [(79, 5, 32, 6, 1, 19)], [], [], [], [], [], []]
theorem r1R_40 : lnf8o true false r1R fr1 fg1 1 2 3 2 2 2 2 887 40 42 6 10 = true := by decide +kernel
theorem r1G_40 : lnf8o true false r1G frq fgq 0 1 1 1 3 2 1 597 40 42 6 10 = true := by decide +kernel
def zrR (L : LnT) (be k ov q1 q2 : Nat) : Bool := lizo L xr1 fr1 fg1 1 3 (kpz fr1 0 (max 1 (fx1.getD q1 0)) ov) (wbz fr1 1 (max 1 (fx1.getD q1 0)) be) (max 1 (fx1.getD q1 0)) (ojz k ov q1 q2) k q2 (8 + be + k + ov + q1 + q2)
def zrG (L : LnT) (be k ov q1 q2 : Nat) : Bool := lizo L xrq frq fgq 0 1 (kpz frq 1 (max 1 (fxq.getD q1 0)) ov) (wbz frq 0 (max 1 (fxq.getD q1 0)) be) (max 1 (fxq.getD q1 0)) (ojz k ov q1 q2) k q2 (8 + be + k + ov + q1 + q2)
/-- where that is enough: names around -/
def B11z (m be k ov q1 q2 : Nat) : Bool := if Nat.ble m 5 then (Nat.ble 44 (8 + be + k + ov + q1 + q2) && (zrR r0R be k ov q1 q2 && zrG r0G be k ov q1 q2)) else (Nat.ble 40 (8 + be + k + ov + q1 + q2) && (Nat.ble (8 + be + k + ov + q1 + q2) 41 && (zrR r1R be k ov q1 q2 && zrG r1G be k ov q1 q2)))
/-- such contexts that the crude lists leave -/
def r0L : List (Nat × Nat × Nat × Nat × Nat) := [(1, 22, 3, 0, 10), (5, 18, 3, 11, 0), (1, 22, 3, 0, 11), (1, 22, 4, 0, 10), (2, 22, 3, 0, 10), (2, 22, 3, 10, 0), (1, 23, 3, 0, 10), (4, 18, 3, 0, 13), (5, 18, 3, 12, 0), (5, 18, 4, 11, 0), (6, 18, 3, 11, 0), (7, 18, 3, 0, 10), (5, 19, 3, 11, 0), (1, 22, 3, 0, 12), (1, 22, 4, 0, 11), (1, 22, 5, 0, 10), (2, 22, 3, 0, 11), (2, 22, 3, 11, 0), (2, 22, 4, 0, 10), (2, 22, 4, 10, 0), (3, 22, 3, 0, 10), (3, 22, 3, 10, 0), (1, 23, 3, 0, 11), (1, 23, 4, 0, 10), (2, 23, 3, 0, 10), (2, 23, 3, 10, 0), (1, 24, 3, 0, 10), (5, 17, 3, 14, 0), (1, 18, 3, 0, 17), (4, 18, 3, 0, 14), (4, 18, 4, 0, 13), (5, 18, 3, 0, 13), (5, 18, 3, 13, 0), (5, 18, 4, 12, 0), (5, 18, 5, 11, 0), (6, 18, 3, 12, 0), (6, 18, 4, 11, 0), (7, 18, 3, 0, 11), (7, 18, 3, 11, 0), (7, 18, 4, 0, 10), (8, 18, 3, 0, 10), (4, 19, 3, 0, 13), (5, 19, 3, 12, 0), (5, 19, 4, 11, 0), (6, 19, 3, 11, 0), (7, 19, 3, 0, 10), (5, 20, 3, 11, 0), (2, 21, 3, 0, 13), (1, 22, 3, 0, 13), (1, 22, 4, 0, 12), (1, 22, 5, 0, 11), (1, 22, 6, 0, 10), (2, 22, 3, 0, 12), (2, 22, 3, 12, 0), (2, 22, 4, 0, 11), (2, 22, 4, 11, 0), (2, 22, 5, 0, 10), (2, 22, 5, 10, 0), (3, 22, 3, 0, 11), (3, 22, 3, 11, 0), (3, 22, 4, 0, 10), (3, 22, 4, 10, 0), (4, 22, 3, 0, 10), (4, 22, 3, 10, 0), (1, 23, 3, 0, 12), (1, 23, 4, 0, 11), (1, 23, 5, 0, 10), (2, 23, 3, 0, 11), (2, 23, 3, 11, 0), (2, 23, 4, 0, 10), (2, 23, 4, 10, 0), (3, 23, 3, 0, 10), (3, 23, 3, 10, 0), (1, 24, 3, 0, 11), (1, 24, 4, 0, 10), (2, 24, 3, 0, 10), (2, 24, 3, 10, 0), (1, 25, 3, 0, 10)]
theorem r0L_ok : r0L.all (fun a => B11z 5 a.1 a.2.1 a.2.2.1 a.2.2.2.1 a.2.2.2.2) = true := by decide +kernel
/-- such contexts that the crude lists leave -/
def r1L : List (Nat × Nat × Nat × Nat × Nat) := [(5, 13, 3, 11, 0), (1, 18, 3, 0, 10), (4, 13, 3, 0, 13), (5, 13, 3, 12, 0), (5, 13, 4, 11, 0), (6, 13, 3, 11, 0), (5, 14, 3, 11, 0), (1, 18, 3, 0, 11), (1, 18, 4, 0, 10), (2, 18, 3, 0, 10), (1, 19, 3, 0, 10)]
theorem r1L_ok : r1L.all (fun a => B11z 6 a.1 a.2.1 a.2.2.1 a.2.2.2.1 a.2.2.2.2) = true := by decide +kernel
section PmIy
variable {f : Nat} {t b b' B C : Ty} {Γ0 Δ1 : List Ty} {Δ : List (Nat × Ty × Nat)}
theorem nat_br (nΔ : Δ ≠ []) (hr : hd b ≠ 2) (lb : LBd Γ0 Δ1 b b' B C) (w : TWf f (cxs Δ1 Γ0 b).length (Δ.map (fun a => a.1)) t) (he : TE (cxs Δ1 Γ0 b) Δ) (ch : CHo f t []) (hz : B11z (mch t) (tch B) (tch C) (tch b - tch (tAll B C)) (cch Γ0) (cch Δ1) = true) (m3 : 3 ≤ mch t) (h47 : cch (cxs Δ1 Γ0 b) ≤ 47) (q38 : cch Δ1 ≤ 38) (hb : cch (cxs Δ1 Γ0 b) + dch Δ + 2 * mch t ≤ 58) : NtV (cxs Δ1 Γ0 b) Δ f t 887 597 := by
  have ec := cch_cx (Γ0 := Γ0) (β := b) Δ1
  have cσ := lb.1.ch
  have eσ := tch_all B C
  have eq : 8 + tch B + tch C + (tch b - tch (tAll B C)) + cch Γ0 + cch Δ1 = cch (cxs Δ1 Γ0 b) := by omega
  unfold B11z zrR zrG at hz
  rw [eq] at hz
  have hΔ : (false = true ∧ Δ = []) ∨ (false = false ∧ Δ ≠ []) := Or.inr ⟨rfl, nΔ⟩
  by_cases m5 : mch t ≤ 5
  · rw [if_pos (Nat.ble_eq_true_of_le m5), Bool.and_eq_true, Bool.and_eq_true] at hz
    obtain ⟨h39, zR, zG⟩ := hz
    have h39 := Nat.le_of_ble_eq_true h39
    exact zone_ho (un := false) hr lb w he hΔ (Or.inr ((co_six w).resolve_right (by omega))) ch zR zG r0R_44 r0G_44 h39 (by omega) m3 (by omega) h47 q38 hb
  · rw [if_neg (by intro q; exact m5 (Nat.le_of_ble_eq_true q)), Bool.and_eq_true, Bool.and_eq_true, Bool.and_eq_true] at hz
    obtain ⟨h34, h41, zR, zG⟩ := hz
    have h34 := Nat.le_of_ble_eq_true h34
    have h41 := Nat.le_of_ble_eq_true h41
    exact zone_ho (un := true) hr lb w he hΔ (Or.inl rfl) ch zR zG r1R_40 r1G_40 h34 (by omega) (by omega) (by omega) h47 q38 hb
end PmIy
def AzQ (f : Nat) (t : Ty) (Γ : List Ty) (Δ : List (Nat × Ty × Nat)) : Prop := ∃ (Δ1 Γ0 : List Ty) (b b' B C : Ty), Γ = cxs Δ1 Γ0 b ∧ Δ ≠ [] ∧ hd b ≠ 2 ∧ LBd Γ0 Δ1 b b' B C ∧ CHo (pee f t).1 (pee f t).2 [] ∧ B11z (mch (pee f t).2) (tch B) (tch C) (tch b - tch (tAll B C)) (cch Γ0) (cch Δ1) = true ∧ 3 ≤ mch (pee f t).2 ∧ cch Δ1 ≤ 38 ∧ cch Γ + dch Δ + 2 * mch (pee f t).2 ≤ 58
theorem AzQ.v {f : Nat} {t : Ty} {Γ : List Ty} {Δ : List (Nat × Ty × Nat)} (w : TWf f Γ.length (Δ.map (fun a => a.1)) t) (he : TE Γ Δ) (h47 : cch Γ ≤ 47) (h : AzQ f t Γ Δ) : NtV Γ Δ f t 887 597 := by
  obtain ⟨Δ1, Γ0, b, b', B, C, e, nΔ, hr, lb, ch, hz, m3, q38, hb⟩ := h
  refine NtV_pee f t w he ?_
  have w' := (pee_ok f _ _ t w).1.1
  subst e
  exact nat_br nΔ hr lb w' he ch hz m3 h47 q38 hb
def RESTy9 : Prop := ∀ (f : Nat) (x y : Ty) (Γ : List Ty) (Δ : List (Nat × Ty × Nat)), TWf f Γ.length (Δ.map (fun a => a.1)) x → TWf f Γ.length (Δ.map (fun a => a.1)) y → TE Γ Δ → NAt f x → NAt f y → noac Γ → (∀ a ∈ Δ, noal a.2.1 = true) → TNo f x → TNo f y → 3 ≤ mch x → 3 ≤ mch y → (mch x ≤ mch y → ¬ NOp f x) → (¬ mch x ≤ mch y → ¬ NOp f y) → 20 ≤ cch Γ → cch Γ ≤ 47 → cch Γ + dch Δ + (2 + (mch x + mch y)) ≤ 60 → NoO f x y Γ Δ → ¬ AzT f x Γ Δ → ¬ AzT f y Γ Δ → ¬ AzB f x Γ Δ → ¬ AzB f y Γ Δ → ¬ AzC f x Γ Δ → ¬ AzC f y Γ Δ → ¬ AzI f x Γ Δ → ¬ AzI f y Γ Δ → ¬ AzF f x Γ Δ → ¬ AzF f y Γ Δ → ¬ AzG f x Γ Δ → ¬ AzG f y Γ Δ → ¬ AzH f x Γ Δ → ¬ AzH f y Γ Δ → ¬ PrS f x y Γ Δ → ¬ AzK f x Γ Δ → ¬ AzK f y Γ Δ → ¬ AzL f x Γ Δ → ¬ AzL f y Γ Δ → ¬ AzM f x Γ Δ → ¬ AzM f y Γ Δ → ¬ PrG f x y Γ Δ → ¬ AzN f x Γ Δ → ¬ AzN f y Γ Δ → ¬ One9 Γ → ¬ AzO f x Γ Δ → ¬ AzO f y Γ Δ → ¬ AzP f x Γ Δ → ¬ AzP f y Γ Δ → ¬ AzQ f x Γ Δ → ¬ AzQ f y Γ Δ → (¬ ((mch x ≤ mch y → CHo f x []) ∧ (¬ mch x ≤ mch y → CHo f y [])) ∨ LeftJ f x y Γ Δ) → PRn f x y Γ Δ
theorem restx9_of (R : RESTy9) : RESTx9 := by
  intro f x y Γ Δ x1 x2 he y1 y2 hv hd' tx ty m3 n3 no1 no2 h20 h47 hb ng ax ay bx bz cx cy dx dy ex ey gx gy ix iy jx kx ky lx ly mx my px qx qy ox ux uy vx vy hL
  by_cases a : AzQ f x Γ Δ
  · exact pair_ntv x1 x2 he y1 y2 hv hd' (by omega) (Or.inl (a.v x1 he h47))
  by_cases b : AzQ f y Γ Δ
  · exact pair_ntv x1 x2 he y1 y2 hv hd' (by omega) (Or.inr (b.v x2 he h47))
  exact R f x y Γ Δ x1 x2 he y1 y2 hv hd' tx ty m3 n3 no1 no2 h20 h47 hb ng ax ay bx bz cx cy dx dy ex ey gx gy ix iy jx kx ky lx ly mx my px qx qy ox ux uy vx vy a b hL
theorem pairn_oy (R : RESTy9) : PAIRn := pairn_ox (restx9_of R)
