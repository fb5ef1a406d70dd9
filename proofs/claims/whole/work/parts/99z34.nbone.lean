/-! ANY BOUND THAT HOLDS SCHEMES: the entries, and what they are enough for. -/
/-- what stands in such a context has an entry -/
def l1z (L : LnT) (F W : FrT) (X : List Nat) (hv kb q1 q2 ob : Nat) : Bool := (frg F kb).all (fun v => (frg W q2).all (fun u => (lng L (4 + kb + q1 + q2)).any (fun s => Nat.ble (u.2 + u.1 * max (max 1 (X.getD q1 0)) (hv + max 1 (v.2 + v.1 * max 1 (X.getD q1 0)))) s.1 && (Nat.ble (v.2 + v.1 * max 1 (X.getD q1 0)) s.2.2.1 && (Nat.ble v.1 s.2.2.2.1 && (Nat.ble ob s.2.2.2.2.1 && Nat.beq s.2.2.2.2.2 0))))))
def o1s (kb q : Nat) : Nat := if Nat.ble q 4 then 0 else lmx fr1 (min (q - 4) kb)
def o1z (kb q1 q2 : Nat) : Nat := max (o1s kb q1) (o1s kb q2)
theorem l1z_get {L : LnT} {F W : FrT} {X : List Nat} {hv kb q1 q2 ob : Nat} (h : l1z L F W X hv kb q1 q2 ob = true) : ∀ v ∈ frg F kb, ∀ u ∈ frg W q2, ∃ s : T6, s ∈ lng L (4 + kb + q1 + q2) ∧ T1D hv (max 1 (X.getD q1 0)) ob v u s ∧ s.2.2.2.2.2 = 0 := by
  intro v hv u hu
  unfold l1z at h
  obtain ⟨s, hs, q⟩ := List.any_eq_true.mp (List.all_eq_true.mp (List.all_eq_true.mp h v hv) u hu)
  rw [Bool.and_eq_true, Bool.and_eq_true, Bool.and_eq_true, Bool.and_eq_true] at q
  exact ⟨s, hs, ⟨Nat.le_of_ble_eq_true q.1, Nat.le_of_ble_eq_true q.2.1, Nat.le_of_ble_eq_true q.2.2.1, Nat.le_of_ble_eq_true q.2.2.2.1⟩, Nat.eq_of_beq_eq_true q.2.2.2.2⟩
theorem o1s_le {Γ : List Ty} {b : Ty} {k : Nat} (hc : okc Γ) (k56 : k ≤ 56) (h : ∀ a ∈ Γ, nsch a = true ∨ tch a ≤ k) : ∀ a ∈ Γ, nsch a = true ∨ flv a ≤ o1s k (cch Γ) := by
  intro a ha
  refine (h a ha).imp id (fun c => ?_)
  obtain ⟨d, o1, o2⟩ := okc_mch hc ha
  have p := tch_pos o1
  unfold o1s
  rw [if_neg (by intro q; have := Nat.le_of_ble_eq_true q; omega)]
  exact flv_lmx (k := min (cch Γ - 4) k) o1 (by omega) (by omega)
theorem okc_top {Γ0 : List Ty} {b : Ty} : ∀ (Δ1 : List Ty), okc (cxs Δ1 Γ0 b) → ∀ a ∈ Δ1, ∃ d, ok d a = true ∧ tch a + 4 ≤ cch Δ1
  | c :: Δ1, hc, a, ha => by
    have ec : cch (c :: Δ1) = (tch c + 4) + cch Δ1 := rfl
    rcases List.mem_cons.mp ha with e | e
    · subst e
      exact ⟨_, hc.1, by omega⟩
    · obtain ⟨d, o1, o2⟩ := okc_top Δ1 hc.2 a e
      exact ⟨d, o1, by omega⟩
section PmHg
variable {f : Nat} {t b : Ty} {Γ0 Δ1 : List Ty} {Δ : List (Nat × Ty × Nat)} {un e : Bool} {LR LG : LnT} {c0 c1 m0 m1 : Nat}
theorem nat_bb (w : TWf f (cxs Δ1 Γ0 b).length (Δ.map (fun a => a.1)) t) (he : TE (cxs Δ1 Γ0 b) Δ) (hΔ : (e = true ∧ Δ = []) ∨ (e = false ∧ Δ ≠ [])) (cu : un = true ∨ COk f t 0) (ch : CHo f t []) (hs : (∀ a ∈ Γ0, nsch a = true ∨ tch a ≤ tch b) ∧ ∀ a ∈ Δ1, nsch a = true ∨ tch a ≤ tch b) (zR : l1z LR fr1 fg1 fx1 1 (tch b) (cch Γ0) (cch Δ1) (o1z (tch b) (cch Γ0) (cch Δ1)) = true) (zG : l1z LG frq fgq fxq 0 (tch b) (cch Γ0) (cch Δ1) (o1z (tch b) (cch Γ0) (cch Δ1)) = true) (tR : lne un e LR fr1 fg1 1 2 3 2 2 2 2 0 887 c0 c1 m0 m1 = true) (tG : lne un e LG frq fgq 0 1 1 1 3 2 1 0 597 c0 c1 m0 m1 = true) (h0 : c0 ≤ cch (cxs Δ1 Γ0 b)) (h1 : cch (cxs Δ1 Γ0 b) < c1) (g0 : m0 ≤ mch t) (g1 : mch t < m1) (h20 : 20 ≤ cch (cxs Δ1 Γ0 b)) (h47 : cch (cxs Δ1 Γ0 b) ≤ 47) (q38 : cch Δ1 ≤ 38) (hb : cch (cxs Δ1 Γ0 b) + dch Δ + 2 * mch t ≤ 58) : NtV (cxs Δ1 Γ0 b) Δ f t 887 597 := by
  obtain ⟨oc0, oB⟩ := okc_low Δ1 he.1
  have ec := cch_cx (Γ0 := Γ0) (β := b) Δ1
  have eq : 4 + tch b + cch Γ0 + cch Δ1 = cch (cxs Δ1 Γ0 b) := by omega
  have h0' : ∀ a ∈ Γ0, nsch a = true ∨ flv a ≤ o1z (tch b) (cch Γ0) (cch Δ1) := fun a ha => (o1s_le (b := b) oc0 (by omega) hs.1 a ha).imp id (fun q => Nat.le_trans q (Nat.le_max_left _ _))
  have h1' : ∀ a ∈ Δ1, nsch a = true ∨ flv a ≤ o1z (tch b) (cch Γ0) (cch Δ1) := by
    intro a ha
    refine (hs.2 a ha).imp id (fun c => Nat.le_trans ?_ (Nat.le_max_right _ _))
    obtain ⟨d, o1, o2⟩ := okc_top Δ1 he.1 a ha
    have p := tch_pos o1
    unfold o1s
    rw [if_neg (by intro q; have := Nat.le_of_ble_eq_true q; omega)]
    exact flv_lmx (k := min (cch Δ1 - 4) (tch b)) o1 (by omega) (by omega)
  refine zone_1 (un := un) (e := e) (ob := o1z (tch b) (cch Γ0) (cch Δ1)) (cd := 58 - 2 * mch t - cch (cxs Δ1 Γ0 b)) w he hΔ cu ch (by omega) (by omega) (by omega) h0' h1' q38 (by omega) (by omega) (Nat.le_refl _) (Nat.le_refl _) (fun v hv u hu => ?_) (fun v hv u hu => ?_)
  · obtain ⟨s, m, d, k⟩ := l1z_get zR v hv u hu
    rw [eq] at m
    have q := lne_get tR h0 h1 g0 g1 (by omega) m
    rw [k] at q
    exact ⟨s, d, ⟨Nat.zero_le _, Nat.zero_le _⟩, q⟩
  · obtain ⟨s, m, d, k⟩ := l1z_get zG v hv u hu
    rw [eq] at m
    have q := lne_get tG h0 h1 g0 g1 (by omega) m
    rw [k] at q
    exact ⟨s, d, ⟨Nat.zero_le _, Nat.zero_le _⟩, q⟩
end PmHg
def k0R : LnT := [[], [], [], [], [], [], [], [], [], [], [], [], [], [], [], [], [], [], [], [], [(22, 0, 21, 4, 2, 0)], [(23, 0, 22, 5, 2, 0)], [(26, 0, 25, 6, 2, 0)], [(26, 0, 25, 6, 2, 0)], [(34, 0, 33, 6, 2, 0)], [(34, 0, 33, 6, 2, 0)], [(34, 0, 33, 9, 3, 0)], [(42, 0, 41, 9, 3, 0)], [(50, 0, 49, 9, 3, 0)], [(50, 0, 49, 9, 3, 0)], [(52, 0, 51, 12, 3, 0)], [(62, 0, 61, 12, 3, 0)], [(68, 0, 67, 12, 3, 0)], [(74, 0, 73, 9, 3, 0), (56, 0, 55, 12, 0, 0)], [(74, 0, 73, 9, 4, 0)], [(83, 0, 82, 9, 4, 0), (54, 0, 53, 12, 1, 0)], [(87, 0, 86, 9, 4, 0), (68, 0, 67, 12, 1, 0)], [(107, 0, 106, 6, 4, 0), (79, 0, 77, 9, 2, 0), (68, 0, 67, 12, 1, 0)], [(107, 0, 106, 6, 4, 0), (82, 0, 81, 9, 2, 0), (68, 0, 67, 12, 1, 0)], [(111, 0, 110, 6, 4, 0), (83, 0, 82, 9, 2, 0), (59, 0, 55, 12, 1, 0)], [(131, 0, 130, 3, 3, 0), (125, 0, 124, 6, 4, 0), (85, 0, 73, 9, 2, 0), (59, 0, 55, 12, 1, 0)], [(155, 0, 154, 4, 4, 0), (125, 0, 124, 6, 4, 0), (95, 0, 45, 8, 2, 0), (85, 0, 76, 9, 2, 0), (67, 0, 65, 12, 1, 0)], [(155, 0, 154, 4, 4, 0), (124, 0, 123, 6, 5, 0), (95, 0, 77, 8, 2, 0), (85, 0, 76, 9, 2, 0), (67, 0, 65, 12, 1, 0)], [(161, 0, 160, 4, 4, 0), (139, 0, 138, 5, 5, 0), (128, 0, 100, 6, 5, 0), (95, 0, 77, 8, 2, 0), (87, 0, 76, 9, 2, 0), (57, 0, 53, 12, 1, 0)], [(191, 0, 190, 3, 3, 0), (161, 0, 147, 4, 4, 0), (128, 0, 100, 6, 4, 0), (97, 0, 45, 8, 2, 0), (87, 0, 82, 9, 2, 0)], [(200, 0, 64, 4, 3, 0), (191, 0, 190, 3, 3, 0), (177, 0, 147, 4, 4, 0), (128, 0, 40, 6, 4, 0), (126, 0, 124, 6, 4, 0), (97, 0, 45, 8, 2, 0), (87, 0, 82, 9, 2, 0)], [(212, 0, 190, 3, 3, 0), (194, 0, 62, 4, 3, 0), (177, 0, 142, 4, 4, 0), (128, 0, 40, 6, 4, 0), (126, 0, 124, 6, 4, 0), (86, 0, 82, 9, 2, 0)], [(223, 0, 222, 2, 2, 0), (212, 0, 192, 3, 3, 0), (194, 0, 62, 4, 3, 0), (177, 0, 147, 4, 4, 0), (143, 0, 123, 5, 5, 0), (130, 0, 106, 6, 4, 0), (86, 0, 82, 9, 2, 0)]]
def k0G : LnT := [[], [], [], [], [], [], [], [], [], [], [], [], [], [], [], [], [], [], [], [], [(18, 0, 18, 4, 2, 0)], [(18, 0, 18, 5, 2, 0)], [(19, 0, 19, 6, 2, 0)], [(24, 0, 24, 6, 2, 0)], [(27, 0, 27, 6, 2, 0)], [(27, 0, 27, 6, 2, 0)], [(30, 0, 30, 9, 3, 0)], [(36, 0, 36, 9, 3, 0)], [(36, 0, 36, 9, 3, 0)], [(38, 0, 38, 9, 3, 0)], [(45, 0, 45, 12, 3, 0)], [(48, 0, 48, 9, 3, 0), (27, 0, 27, 12, 0, 0)], [(50, 0, 50, 9, 3, 0), (28, 0, 28, 12, 0, 0)], [(57, 0, 57, 9, 3, 0), (36, 0, 36, 12, 0, 0)], [(56, 0, 56, 9, 4, 0)], [(61, 0, 59, 6, 4, 0), (45, 0, 45, 12, 2, 0)], [(74, 0, 74, 6, 4, 0), (48, 0, 48, 9, 2, 0), (28, 0, 27, 12, 1, 0)], [(83, 0, 83, 6, 4, 0), (54, 0, 54, 9, 2, 0), (29, 0, 28, 12, 1, 0)], [(83, 0, 83, 6, 4, 0), (57, 0, 54, 9, 2, 0), (37, 0, 36, 12, 1, 0)], [(92, 0, 92, 3, 3, 0), (84, 0, 84, 6, 4, 0), (57, 0, 54, 9, 2, 0), (37, 0, 36, 12, 1, 0)], [(110, 0, 110, 4, 4, 0), (84, 0, 84, 6, 4, 0), (58, 0, 45, 9, 2, 0), (37, 0, 36, 12, 1, 0)], [(111, 0, 111, 4, 4, 0), (94, 0, 94, 5, 4, 0), (84, 0, 84, 6, 4, 0), (60, 0, 48, 9, 2, 0), (40, 0, 36, 12, 1, 0)], [(116, 0, 116, 4, 4, 0), (94, 0, 94, 5, 5, 0), (87, 0, 66, 6, 4, 0), (55, 0, 54, 9, 2, 0), (25, 0, 24, 12, 1, 0)], [(137, 0, 137, 3, 3, 0), (114, 0, 112, 4, 4, 0), (99, 0, 99, 5, 5, 0), (92, 0, 39, 6, 5, 0), (70, 0, 69, 6, 3, 0), (55, 0, 54, 9, 2, 0), (28, 0, 24, 12, 1, 0)], [(146, 0, 146, 3, 3, 0), (131, 0, 43, 4, 3, 0), (117, 0, 114, 4, 4, 0), (92, 0, 30, 6, 4, 0), (85, 0, 84, 6, 4, 0), (55, 0, 54, 9, 2, 0)], [(149, 0, 146, 3, 3, 0), (134, 0, 44, 4, 3, 0), (114, 0, 114, 4, 4, 0), (93, 0, 30, 6, 4, 0), (85, 0, 84, 6, 4, 0), (58, 0, 54, 9, 2, 0)], [(151, 0, 151, 2, 2, 0), (149, 0, 147, 3, 3, 0), (134, 0, 44, 4, 3, 0), (117, 0, 111, 4, 4, 0), (99, 0, 94, 5, 4, 0), (93, 0, 30, 6, 3, 0), (85, 0, 84, 6, 4, 0), (58, 0, 54, 9, 2, 0)], [(169, 0, 169, 2, 2, 0), (149, 0, 149, 3, 3, 0), (135, 0, 44, 4, 3, 0), (117, 0, 112, 4, 4, 0), (100, 0, 24, 5, 4, 0), (95, 0, 94, 5, 5, 0), (85, 0, 84, 6, 4, 0), (58, 0, 54, 9, 2, 0)]]
theorem k0R_20_3 : lne false false k0R fr1 fg1 1 2 3 2 2 2 2 0 887 20 48 3 6 = true := by decide +kernel
theorem k0G_20_3 : lne false false k0G frq fgq 0 1 1 1 3 2 1 0 597 20 48 3 6 = true := by decide +kernel
