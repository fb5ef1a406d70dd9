/-! FUNCTIONS AND RECORDS WITH A SCHEME OF BOUND TOP INSIDE, no other binder: by characters and nodes. -/
/-- an entry is enough for terms of m characters; e: no names around, else they take cd -/
def TpR7 (un e : Bool) (wB cd m : Nat) (s : T6) : Prop := (s.2.2.2.2.2 ≤ 50 ∧ wB ≤ s.1) ∧ (e = false → 5 ≤ cd → dp5 un fr1 fg1 0 1 2 3 2 2 2 2 s.2.2.1 s.2.2.2.1 wB s.2.2.2.2.1 s.2.2.2.2.2 s.1 cd m ≤ 887) ∧ (e = true → dp5 un fr1 fg1 5 1 2 3 2 2 2 2 s.2.2.1 s.2.2.2.1 wB s.2.2.2.2.1 s.2.2.2.2.2 s.1 0 m ≤ 887)
def TpG7 (un e : Bool) (wB cd m : Nat) (s : T6) : Prop := (s.2.2.2.2.2 ≤ 50 ∧ wB ≤ s.1) ∧ (e = false → 5 ≤ cd → dp5 un frq fgq 0 0 1 1 1 3 2 1 s.2.2.1 s.2.2.2.1 wB s.2.2.2.2.1 s.2.2.2.2.2 s.1 cd m ≤ 597) ∧ (e = true → dp5 un frq fgq 5 0 1 1 1 3 2 1 s.2.2.1 s.2.2.2.1 wB s.2.2.2.2.1 s.2.2.2.2.2 s.1 0 m ≤ 597)
section PmZm
variable {f : Nat} {t B C : Ty} {Γ0 Δ1 : List Ty} {Δ : List (Nat × Ty × Nat)} {un e : Bool} {cd ob wR wG yR yG : Nat} {VR VG WR WG : List (Nat × Nat)}
theorem zone_g7 (w : TWf f (cxs Δ1 Γ0 (tAll B C)).length (Δ.map (fun a => a.1)) t) (he : TE (cxs Δ1 Γ0 (tAll B C)) Δ) (hΔ : (e = true ∧ Δ = []) ∨ (e = false ∧ Δ ≠ [])) (cu : un = true ∨ COk f t 0) (hC : hd C ≠ 2 ∧ hd C < 16) (ch : CHo f t []) (m30 : mch t ≤ 30) (hdd : dch Δ ≤ cd) (hcd : cd ≤ 56) (hb0 : ∀ b ∈ Γ0, nsch b = true ∨ flv b ≤ ob) (hb1 : ∀ b ∈ Δ1, nsch b = true ∨ flv b ≤ ob) (wbR : ∀ b, vlr b 1 (nz 0 (fun _ => 1 + 1) (2 + 1) (vlr b 1) (onz 0 (fun _ => 1 + 1) (2 + 1) (vlr b 1) Γ0) B) ≤ wR) (wbG : nz 1 ngc 1 (fun x => x) (onz 1 ngc 1 (fun x => x) Γ0) B ≤ wG)
  (hVR : ∃ v ∈ VR, xt (Γ0.length + 1) C ≤ v.1 ∧ xa 0 (fun _ => 1 + 1) 3 1 (Γ0.length + 1) C ≤ v.2) (hVG : ∃ v ∈ VG, xt (Γ0.length + 1) C ≤ v.1 ∧ xa 1 ngc 1 0 (Γ0.length + 1) C ≤ v.2)
  (cR : ∀ (b : Bool) (v : Nat × Nat), xt (Γ0.length + 1) C ≤ v.1 → xa 0 (fun _ => 1 + 1) 3 1 (Γ0.length + 1) C ≤ v.2 → ∃ p, p ≤ v.1 ∧ ∃ w ∈ WR, 1 ≤ w.2 + w.1 * max yR (1 + (3 + (v.2 + (v.1 - p) * yR + p * wR))) ∧ (∀ j, j < (cxs Δ1 Γ0 (tAll B C)).length → vw (onz 0 (fun _ => 1 + 1) (2 + 1) (vlr b 1) (cxs Δ1 Γ0 (tAll B C))) j ≤ w.2 + w.1 * max yR (1 + (3 + (v.2 + (v.1 - p) * yR + p * wR)))) ∧ ∀ z, nz 0 (fun _ => 1 + 1) (2 + 1) (vlr b 1) (hzx (vlr b 1) z (nz 0 (fun _ => 1 + 1) (2 + 1) (vlr b 1) (onz 0 (fun _ => 1 + 1) (2 + 1) (vlr b 1) Γ0) B) :: onz 0 (fun _ => 1 + 1) (2 + 1) (vlr b 1) Γ0) C ≤ v.2 + (v.1 - p) * yR + p * max z wR)
  (cG : ∀ (v : Nat × Nat), xt (Γ0.length + 1) C ≤ v.1 → xa 1 ngc 1 0 (Γ0.length + 1) C ≤ v.2 → ∃ p, p ≤ v.1 ∧ ∃ w ∈ WG, 1 ≤ w.2 + w.1 * max yG (0 + (1 + (v.2 + (v.1 - p) * yG + p * wG))) ∧ (∀ j, j < (cxs Δ1 Γ0 (tAll B C)).length → vw (onz 1 ngc 1 (fun x => x) (cxs Δ1 Γ0 (tAll B C))) j ≤ w.2 + w.1 * max yG (0 + (1 + (v.2 + (v.1 - p) * yG + p * wG)))) ∧ ∀ z, nz 1 ngc 1 (fun x => x) (hzx (fun x => x) z (nz 1 ngc 1 (fun x => x) (onz 1 ngc 1 (fun x => x) Γ0) B) :: onz 1 ngc 1 (fun x => x) Γ0) C ≤ v.2 + (v.1 - p) * yG + p * max z wG)
  (hTR : ∀ v ∈ VR, ∀ p, p ≤ v.1 → ∀ w ∈ WR, ∃ s, TpD 1 3 wR yR ob (tch C) p v w s ∧ TpR7 un e wR cd (mch t) s)
  (hTG : ∀ v ∈ VG, ∀ p, p ≤ v.1 → ∀ w ∈ WG, ∃ s, TpD 0 1 wG yG ob (tch C) p v w s ∧ TpG7 un e wG cd (mch t) s) : NtV (cxs Δ1 Γ0 (tAll B C)) Δ f t 887 597 := by
  have d5 : Δ ≠ [] → 5 ≤ cd := fun e => Nat.le_trans (dch_five he e) hdd
  have hch : CHo f t (([] : Stk).map Option.isSome) := ch
  refine fun S hS => ⟨fun b => ?_, ?_⟩
  · obtain ⟨v, hv, x1, x2⟩ := hVR
    obtain ⟨p, hp, ew, he', g1, g2, g3⟩ := cR b v x1 x2
    obtain ⟨s, ⟨k1, k2, k3, k4, k5⟩, ⟨k50, wy⟩, R0, R5⟩ := hTR v hv p hp ew he'
    have hb0' : ∀ b ∈ Γ0, nsch b = true ∨ flv b ≤ s.2.2.2.2.1 := fun b hb => (hb0 b hb).imp id (fun h => Nat.le_trans h k4)
    have hb1' : ∀ b ∈ Δ1, nsch b = true ∨ flv b ≤ s.2.2.2.2.1 := fun b hb => (hb1 b hb).imp id (fun h => Nat.le_trans h k4)
    rcases hΔ with ⟨ee, cΔ⟩ | ⟨ee, cΔ⟩
    · exact gen_fin7 (β' := tAll B C) (un := un) (a5 := 5) (cd := 0) (wB := wR) (E0 := s.2.2.1) (p := s.2.2.2.1) (ob := s.2.2.2.2.1) (k := s.2.2.2.2.2) (y := s.1) (NC_rows b 1) (vlr_mono b 1) (vlr_lip b 1) (tbs1 b) fr1_m fg1_ok fg1_m fg1s_1 (by decide) (vlr_one b) w he cu m30 hb0' hb1' (by rw [cΔ]; exact Nat.le_refl _) (Nat.zero_le _) (Nat.le_refl _) (fun e => absurd cΔ e) (Nat.le_trans g1 k1) (fun j hj => Nat.le_trans (g2 j hj) k1) (fun E Z aq hE => GH_natc (E := E) (Z := Z) (NC_rows b 1) (vlr_mono b 1) f t [] _ _ Δ w he hch aq (onz_cv (NC_rows b 1) he.1) hE) (fun z => Nat.le_trans (g3 z) (Nat.add_le_add k2 (Nat.mul_le_mul_right _ k3))) (wbR b) wy hC k5 k50 (R5 ee) hS
    · exact gen_fin7 (β' := tAll B C) (un := un) (a5 := 0) (cd := cd) (wB := wR) (E0 := s.2.2.1) (p := s.2.2.2.1) (ob := s.2.2.2.2.1) (k := s.2.2.2.2.2) (y := s.1) (NC_rows b 1) (vlr_mono b 1) (vlr_lip b 1) (tbs1 b) fr1_m fg1_ok fg1_m fg1s_1 (by decide) (vlr_one b) w he cu m30 hb0' hb1' hdd hcd (Nat.zero_le _) (fun _ => rfl) (Nat.le_trans g1 k1) (fun j hj => Nat.le_trans (g2 j hj) k1) (fun E Z aq hE => GH_natc (E := E) (Z := Z) (NC_rows b 1) (vlr_mono b 1) f t [] _ _ Δ w he hch aq (onz_cv (NC_rows b 1) he.1) hE) (fun z => Nat.le_trans (g3 z) (Nat.add_le_add k2 (Nat.mul_le_mul_right _ k3))) (wbR b) wy hC k5 k50 (R0 ee (d5 cΔ)) hS
  · obtain ⟨v, hv, x1, x2⟩ := hVG
    obtain ⟨p, hp, ew, he', g1, g2, g3⟩ := cG v x1 x2
    obtain ⟨s, ⟨k1, k2, k3, k4, k5⟩, ⟨k50, wy⟩, R0, R5⟩ := hTG v hv p hp ew he'
    have hb0' : ∀ b ∈ Γ0, nsch b = true ∨ flv b ≤ s.2.2.2.2.1 := fun b hb => (hb0 b hb).imp id (fun h => Nat.le_trans h k4)
    have hb1' : ∀ b ∈ Δ1, nsch b = true ∨ flv b ≤ s.2.2.2.2.1 := fun b hb => (hb1 b hb).imp id (fun h => Nat.le_trans h k4)
    rcases hΔ with ⟨ee, cΔ⟩ | ⟨ee, cΔ⟩
    · exact gen_fin7 (β' := tAll B C) (un := un) (a5 := 5) (cd := 0) (wB := wG) (E0 := s.2.2.1) (p := s.2.2.2.1) (ob := s.2.2.2.2.1) (k := s.2.2.2.2.2) (y := s.1) NC_goals (fun y y' hy => hy) (fun y δ => Nat.le_refl _) tbsq frq_m fgq_ok fgq_m fg1s_q (by decide) (fun y => by show y ≤ 0 + max 1 y; omega) w he cu m30 hb0' hb1' (by rw [cΔ]; exact Nat.le_refl _) (Nat.zero_le _) (Nat.le_refl _) (fun e => absurd cΔ e) (Nat.le_trans g1 k1) (fun j hj => Nat.le_trans (g2 j hj) k1) (fun E Z aq hE => GH_natc (E := E) (Z := Z) NC_goals (fun y y' hy => hy) f t [] _ _ Δ w he hch aq (onz_cv NC_goals he.1) hE) (fun z => Nat.le_trans (g3 z) (Nat.add_le_add k2 (Nat.mul_le_mul_right _ k3))) wbG wy hC k5 k50 (R5 ee) hS
    · exact gen_fin7 (β' := tAll B C) (un := un) (a5 := 0) (cd := cd) (wB := wG) (E0 := s.2.2.1) (p := s.2.2.2.1) (ob := s.2.2.2.2.1) (k := s.2.2.2.2.2) (y := s.1) NC_goals (fun y y' hy => hy) (fun y δ => Nat.le_refl _) tbsq frq_m fgq_ok fgq_m fg1s_q (by decide) (fun y => by show y ≤ 0 + max 1 y; omega) w he cu m30 hb0' hb1' hdd hcd (Nat.zero_le _) (fun _ => rfl) (Nat.le_trans g1 k1) (fun j hj => Nat.le_trans (g2 j hj) k1) (fun E Z aq hE => GH_natc (E := E) (Z := Z) NC_goals (fun y y' hy => hy) f t [] _ _ Δ w he hch aq (onz_cv NC_goals he.1) hE) (fun z => Nat.le_trans (g3 z) (Nat.add_le_add k2 (Nat.mul_le_mul_right _ k3))) wbG wy hC k5 k50 (R0 ee (d5 cΔ)) hS
end PmZm
/-- of two forms the lesser -/
def mnl (A B : List (Nat × Nat)) : List (Nat × Nat) := A.flatMap (fun u => B.map (fun v => (min u.1 v.1, min u.2 v.2)))
theorem mnl_ex {A B : List (Nat × Nat)} {l a : Nat} (h1 : ∃ u ∈ A, l ≤ u.1 ∧ a ≤ u.2) (h2 : ∃ v ∈ B, l ≤ v.1 ∧ a ≤ v.2) : ∃ w ∈ mnl A B, l ≤ w.1 ∧ a ≤ w.2 := by
  obtain ⟨u, hu, u1, u2⟩ := h1
  obtain ⟨v, hv, v1, v2⟩ := h2
  refine ⟨(min u.1 v.1, min u.2 v.2), List.mem_flatMap.mpr ⟨u, hu, List.mem_map.mpr ⟨v, hv, rfl⟩⟩, ?_, ?_⟩
  · show l ≤ min u.1 v.1
    omega
  · show a ≤ min u.2 v.2
    omega
def k14 : List Nat := [22, 26, 27, 28, 30, 31, 32, 33, 34, 35, 36, 37, 38]
def t7R : List (List (Nat × Nat × Nat)) := [[], [], [], [], [], [], [], [], [], [], [], [], [], [], [], [], [], [], [], [], [], [], [(31, 27, 5)], [], [], [], [(43, 39, 5), (43, 27, 6)], [(47, 43, 7)], [(49, 44, 7)], [], [(55, 51, 9)], [(67, 63, 10)], [(69, 64, 10)], [(69, 65, 10)], [(79, 75, 10), (61, 34, 12)], [(83, 79, 9), (63, 39, 12)], [(83, 79, 9), (63, 39, 12)], [(83, 79, 9), (63, 39, 12)], [(83, 79, 9), (63, 39, 12)]]
def t7G : List (List (Nat × Nat × Nat)) := [[], [], [], [], [], [], [], [], [], [], [], [], [], [], [], [], [], [], [], [], [], [], [(18, 17, 5)], [], [], [], [(23, 22, 6)], [(28, 27, 7)], [(31, 30, 7)], [], [(34, 33, 9)], [(40, 39, 10)], [(40, 39, 10)], [(42, 41, 10)], [(49, 48, 11), (30, 17, 12)], [(52, 51, 10), (30, 18, 12)], [(54, 53, 10), (30, 18, 12)], [(57, 56, 9), (32, 21, 12)], [(57, 56, 9), (32, 21, 12)]]
def d7 (F : FrT) (N : List (Nat × Nat)) (T : List (List (Nat × Nat × Nat))) (hv s2 wB : Nat) : Bool := k14.all (fun k => (mnl (frg F k) N).all (fun v => (List.range (v.1 + 1)).all (fun p => (T.getD k []).any (fun s => Nat.ble (max 1 (hv + (s2 + (v.2 + (v.1 - p) * 1 + p * wB)))) s.1 && (Nat.ble (v.2 + (v.1 - p) * 1) s.2.1 && Nat.ble p s.2.2)))))
theorem d7R_ok : d7 yw1 nW1 t7R 1 3 2 = true := by decide +kernel
theorem d7G_ok : d7 ywq nWq t7G 0 1 1 = true := by decide +kernel
def u7 (k m : Nat) : Bool := Nat.ble 6 m && !(Nat.ble 30 k && (Nat.ble k 32 && Nat.beq m 6))
def c7 (F W : FrT) (hv fn s2 r0 r1 r2 r3 wB Bd : Nat) (T : List (List (Nat × Nat × Nat))) (k : Nat) : Bool := (T.getD k []).all (fun s => (List.range 12).all (fun m => Nat.blt m 3 || (Nat.blt 58 (9 + k + 5 + 2 * m) || ((Nat.beq k 30 && Nat.beq m 7) || Nat.ble (dp5 (u7 k m) F W 0 hv fn s2 r0 r1 r2 r3 s.2.1 s.2.2 wB 0 k s.1 (58 - 2 * m - (9 + k)) m) Bd))))
theorem c7R_22 : c7 fr1 fg1 1 2 3 2 2 2 2 2 887 t7R 22 = true := by decide +kernel
theorem c7G_22 : c7 frq fgq 0 1 1 1 3 2 1 1 597 t7G 22 = true := by decide +kernel
theorem c7R_26 : c7 fr1 fg1 1 2 3 2 2 2 2 2 887 t7R 26 = true := by decide +kernel
theorem c7G_26 : c7 frq fgq 0 1 1 1 3 2 1 1 597 t7G 26 = true := by decide +kernel
theorem c7R_27 : c7 fr1 fg1 1 2 3 2 2 2 2 2 887 t7R 27 = true := by decide +kernel
theorem c7G_27 : c7 frq fgq 0 1 1 1 3 2 1 1 597 t7G 27 = true := by decide +kernel
theorem c7R_28 : c7 fr1 fg1 1 2 3 2 2 2 2 2 887 t7R 28 = true := by decide +kernel
theorem c7G_28 : c7 frq fgq 0 1 1 1 3 2 1 1 597 t7G 28 = true := by decide +kernel
theorem c7R_30 : c7 fr1 fg1 1 2 3 2 2 2 2 2 887 t7R 30 = true := by decide +kernel
theorem c7G_30 : c7 frq fgq 0 1 1 1 3 2 1 1 597 t7G 30 = true := by decide +kernel
theorem c7R_31 : c7 fr1 fg1 1 2 3 2 2 2 2 2 887 t7R 31 = true := by decide +kernel
theorem c7G_31 : c7 frq fgq 0 1 1 1 3 2 1 1 597 t7G 31 = true := by decide +kernel
theorem c7R_32 : c7 fr1 fg1 1 2 3 2 2 2 2 2 887 t7R 32 = true := by decide +kernel
theorem c7G_32 : c7 frq fgq 0 1 1 1 3 2 1 1 597 t7G 32 = true := by decide +kernel
theorem c7R_33 : c7 fr1 fg1 1 2 3 2 2 2 2 2 887 t7R 33 = true := by decide +kernel
theorem c7G_33 : c7 frq fgq 0 1 1 1 3 2 1 1 597 t7G 33 = true := by decide +kernel
theorem c7R_34 : c7 fr1 fg1 1 2 3 2 2 2 2 2 887 t7R 34 = true := by decide +kernel
theorem c7G_34 : c7 frq fgq 0 1 1 1 3 2 1 1 597 t7G 34 = true := by decide +kernel
theorem c7R_35 : c7 fr1 fg1 1 2 3 2 2 2 2 2 887 t7R 35 = true := by decide +kernel
theorem c7G_35 : c7 frq fgq 0 1 1 1 3 2 1 1 597 t7G 35 = true := by decide +kernel
theorem c7R_36 : c7 fr1 fg1 1 2 3 2 2 2 2 2 887 t7R 36 = true := by decide +kernel
theorem c7G_36 : c7 frq fgq 0 1 1 1 3 2 1 1 597 t7G 36 = true := by decide +kernel
theorem c7R_37 : c7 fr1 fg1 1 2 3 2 2 2 2 2 887 t7R 37 = true := by decide +kernel
theorem c7G_37 : c7 frq fgq 0 1 1 1 3 2 1 1 597 t7G 37 = true := by decide +kernel
theorem c7R_38 : c7 fr1 fg1 1 2 3 2 2 2 2 2 887 t7R 38 = true := by decide +kernel
theorem c7G_38 : c7 frq fgq 0 1 1 1 3 2 1 1 597 t7G 38 = true := by decide +kernel
theorem c7_all : ∀ k ∈ k14, c7 fr1 fg1 1 2 3 2 2 2 2 2 887 t7R k = true ∧ c7 frq fgq 0 1 1 1 3 2 1 1 597 t7G k = true := by
  intro k hk
  simp only [k14, List.mem_cons, List.not_mem_nil, or_false] at hk
  rcases hk with rfl | rfl | rfl | rfl | rfl | rfl | rfl | rfl | rfl | rfl | rfl | rfl | rfl
  · exact ⟨c7R_22, c7G_22⟩
  · exact ⟨c7R_26, c7G_26⟩
  · exact ⟨c7R_27, c7G_27⟩
  · exact ⟨c7R_28, c7G_28⟩
  · exact ⟨c7R_30, c7G_30⟩
  · exact ⟨c7R_31, c7G_31⟩
  · exact ⟨c7R_32, c7G_32⟩
  · exact ⟨c7R_33, c7G_33⟩
  · exact ⟨c7R_34, c7G_34⟩
  · exact ⟨c7R_35, c7G_35⟩
  · exact ⟨c7R_36, c7G_36⟩
  · exact ⟨c7R_37, c7G_37⟩
  · exact ⟨c7R_38, c7G_38⟩
theorem d7_get {F : FrT} {N : List (Nat × Nat)} {T : List (List (Nat × Nat × Nat))} {hv s2 wB k p : Nat} (h : d7 F N T hv s2 wB = true) (hk : k ∈ k14) {v : Nat × Nat} (hv' : v ∈ mnl (frg F k) N) (hp : p ≤ v.1) : ∃ s ∈ T.getD k [], max 1 (hv + (s2 + (v.2 + (v.1 - p) * 1 + p * wB))) ≤ s.1 ∧ v.2 + (v.1 - p) * 1 ≤ s.2.1 ∧ p ≤ s.2.2 := by
  have q := rng_all (List.all_eq_true.mp (List.all_eq_true.mp h k hk) v hv') (i := p) (by omega)
  obtain ⟨s, hs, e⟩ := List.any_eq_true.mp q
  rw [Bool.and_eq_true, Bool.and_eq_true] at e
  exact ⟨s, hs, Nat.le_of_ble_eq_true e.1, Nat.le_of_ble_eq_true e.2.1, Nat.le_of_ble_eq_true e.2.2⟩
theorem c7_get {F W : FrT} {hv fn s2 r0 r1 r2 r3 wB Bd k m : Nat} {T : List (List (Nat × Nat × Nat))} (h : c7 F W hv fn s2 r0 r1 r2 r3 wB Bd T k = true) {s : Nat × Nat × Nat} (hs : s ∈ T.getD k []) (m3 : 3 ≤ m) (m12 : m < 12) (hb : 9 + k + 5 + 2 * m ≤ 58) (h7 : ¬ (k = 30 ∧ m = 7)) : dp5 (u7 k m) F W 0 hv fn s2 r0 r1 r2 r3 s.2.1 s.2.2 wB 0 k s.1 (58 - 2 * m - (9 + k)) m ≤ Bd := by
  have q := rng_all (List.all_eq_true.mp h s hs) (i := m) m12
  rw [Bool.or_eq_true, Bool.or_eq_true, Bool.or_eq_true, Bool.and_eq_true] at q
  rcases q with q | q | q | q
  · exact (blt_no m3 q).elim
  · exact (blt_no hb q).elim
  · exact absurd ⟨Nat.eq_of_beq_eq_true q.1, Nat.eq_of_beq_eq_true q.2⟩ h7
  · exact Nat.le_of_ble_eq_true q
theorem k14_min : ∀ k ∈ k14, 22 ≤ k ∧ k ≤ 38 := by decide
section PmZn
variable {f : Nat} {t C : Ty} {Δ : List (Nat × Ty × Nat)}
theorem nat_7 (w : TWf f (cxs [] [] (tAll tTop C)).length (Δ.map (fun a => a.1)) t) (he : TE (cxs [] [] (tAll tTop C)) Δ) (nΔ : Δ ≠ []) (tn : TNo f t) (ch : CHo f t []) (hp : phf (fun _ => true) C = true) (kd : kdt C = 1 ∨ kdt C = 4) (hk : tch C ∈ k14) (m3 : 3 ≤ mch t) (hb : 9 + tch C + dch Δ + 2 * mch t ≤ 58) (h7 : ¬ (tch C = 30 ∧ mch t = 7)) : NtV (cxs [] [] (tAll tTop C)) Δ f t 887 597 := by
  have kk := k14_min _ hk
  have d5 := dch_five he nΔ
  obtain ⟨-, oA⟩ := okc_low [] he.1
  have oC := (ok_all.mp oA).2
  have hC : hd C ≠ 2 ∧ hd C < 16 := by
    unfold kdt at kd
    by_cases c1 : hd C = 1
    · omega
    · rw [if_neg c1] at kd
      by_cases c2 : hd C = 2
      · rw [if_pos c2] at kd
        split at kd <;> omega
      · rw [if_neg c2] at kd
        by_cases c3 : 8 ≤ hd C ∧ hd C < 16
        · omega
        · rw [if_neg c3] at kd; omega
  have l14 : (flat C).length ≤ 14 := by
    have q : (flat (tAll tTop C)).length ≤ 16 := he.2.1 0 (by rw [cxs_len]; simp)
    rw [flat_all, List.length_cons, List.length_append] at q
    have : (flat tTop).length = 1 := rfl
    omega
  have cu : u7 (tch C) (mch t) = true ∨ COk f t 0 := by
    by_cases c : u7 (tch C) (mch t) = true
    · exact Or.inl c
    · right
      rcases co_six w with q | q
      · exact q
      · have c' : ¬ (6 ≤ mch t ∧ ¬ (30 ≤ tch C ∧ tch C ≤ 32 ∧ mch t = 6)) := by
          intro h
          apply c
          unfold u7
          rw [Bool.and_eq_true, Bool.not_eq_true']
          refine ⟨Nat.ble_eq_true_of_le h.1, ?_⟩
          rw [Bool.eq_false_iff]
          intro e
          rw [Bool.and_eq_true, Bool.and_eq_true] at e
          exact h.2 ⟨Nat.le_of_ble_eq_true e.1, Nat.le_of_ble_eq_true e.2.1, Nat.eq_of_beq_eq_true e.2.2⟩
        have c2 : 30 ≤ tch C ∧ tch C ≤ 32 ∧ mch t = 6 := Classical.byContradiction (fun h => c' ⟨q, h⟩)
        obtain ⟨a, ea⟩ := dch_one he nΔ (by omega)
        rw [ea] at w
        have := (chr_one f _ _ t w tn).2
        rcases this with h | h
        · exact h
        · omega
  have e1 : max 1 (fx1.getD 0 0) = 1 := by decide
  have eq : max 1 (fxq.getD 0 0) = 1 := by decide
  have w1 : frg fg1 0 = [(1, 0)] := by decide
  have wq : frg fgq 0 = [(1, 0)] := by decide
  have yR := fun (d : Nat) (o : ok d C = true) => mnl_ex (yw_R o (by omega) hp kd) (nw_form (t0 := 0) (n1 := fun _ => 1 + 1) (s2 := 3) (hv := 1) nf1_ok nw1_ok (by decide) (tbs1 true).2.2.2.1 (tbs1 true).2.2.2.2.1 o l14 hp kd)
  have yG := fun (d : Nat) (o : ok d C = true) => mnl_ex (yw_G o (by omega) hp kd) (nw_form (t0 := 1) (n1 := ngc) (s2 := 1) (hv := 0) nfq_ok nwq_ok (by decide) tbsq.2.2.2.1 tbsq.2.2.2.2.1 o l14 hp kd)
  refine zone_g7 (un := u7 (tch C) (mch t)) (e := false) (cd := 58 - 2 * mch t - (9 + tch C)) (ob := 0) (wR := 2) (wG := 1) (yR := max 1 (fx1.getD 0 0)) (yG := max 1 (fxq.getD 0 0)) (VR := mnl (frg yw1 (tch C)) nW1) (VG := mnl (frg ywq (tch C)) nWq) (WR := frg fg1 0) (WG := frg fgq 0) w he (Or.inr ⟨rfl, nΔ⟩) cu hC ch (by omega) (by omega) (by omega) (fun b hb => by cases hb) (fun b hb => by cases hb) (fun b => by rw [nz_top]; exact vlr_one b 0) (by rw [nz_top]; exact Nat.le_refl _) (yR _ oC) (yG _ oC) (fun b v x1 x2 => nat_ctxg (wB := 2) (v := v) (tbs1 b) (vlr_one b) (by decide) he.1 x1 x2 (by rw [nz_top]; exact vlr_one b 0) (Nat.le_refl _) (by decide) (gr_R he.1 (by decide) b)) (fun v x1 x2 => nat_ctxg (wB := 1) (v := v) tbsq (fun y => by show y ≤ 0 + max 1 y; omega) (by decide) he.1 x1 x2 (by rw [nz_top]; exact Nat.le_refl _) (Nat.le_refl _) (by decide) (gr_G he.1 (by decide))) ?_ ?_
  · intro v hv p hp' e he'
    rw [w1] at he'
    rw [List.mem_singleton.mp he', e1]
    obtain ⟨s, hs, s1, s2, s3⟩ := d7_get d7R_ok hk hv hp'
    refine ⟨(s.1, 0, s.2.1, s.2.2, 0, tch C), ⟨?_, s2, s3, Nat.le_refl _, Nat.le_refl _⟩, ⟨by show tch C ≤ 50; omega, by show 2 ≤ s.1; omega⟩, fun _ _ => c7_get (c7_all _ hk).1 hs m3 (by omega) (by omega) h7, fun e => by cases e⟩
    show 0 + 1 * max 1 (1 + (3 + (v.2 + (v.1 - p) * 1 + p * 2))) ≤ s.1
    omega
  · intro v hv p hp' e he'
    rw [wq] at he'
    rw [List.mem_singleton.mp he', eq]
    obtain ⟨s, hs, s1, s2, s3⟩ := d7_get d7G_ok hk hv hp'
    refine ⟨(s.1, 0, s.2.1, s.2.2, 0, tch C), ⟨?_, s2, s3, Nat.le_refl _, Nat.le_refl _⟩, ⟨by show tch C ≤ 50; omega, by show 1 ≤ s.1; omega⟩, fun _ _ => c7_get (c7_all _ hk).2 hs m3 (by omega) (by omega) h7, fun e => by cases e⟩
    show 0 + 1 * max 1 (0 + (1 + (v.2 + (v.1 - p) * 1 + p * 1))) ≤ s.1
    omega
end PmZn
