/-! THE BODY OF A SCHEME REPLACED BY A SMALL ONE, any bound: sums of two terms. -/
def TwR (un e : Bool) (wB cd m L : Nat) (s : T6) : Prop := (s.2.2.2.2.2 ≤ 50 ∧ wB ≤ s.1) ∧ (e = false → 5 ≤ cd → dpD un fr1 fg1 0 1 2 3 2 2 2 2 s.2.2.1 s.2.2.2.1 s.1 s.2.2.2.2.1 s.2.2.2.2.2 s.1 cd m ≤ L) ∧ (e = true → dpD un fr1 fg1 5 1 2 3 2 2 2 2 s.2.2.1 s.2.2.2.1 s.1 s.2.2.2.2.1 s.2.2.2.2.2 s.1 0 m ≤ L)
def TwG (un e : Bool) (wB cd m L : Nat) (s : T6) : Prop := (s.2.2.2.2.2 ≤ 50 ∧ wB ≤ s.1) ∧ (e = false → 5 ≤ cd → dpD un frq fgq 0 0 1 1 1 3 2 1 s.2.2.1 s.2.2.2.1 s.1 s.2.2.2.2.1 s.2.2.2.2.2 s.1 cd m ≤ L) ∧ (e = true → dpD un frq fgq 5 0 1 1 1 3 2 1 s.2.2.1 s.2.2.2.1 s.1 s.2.2.2.2.1 s.2.2.2.2.2 s.1 0 m ≤ L)
theorem mxw {w y : Nat} (z : Nat) (h : w ≤ y) : max z w ≤ max z y := by omega
section PmHy9
variable {f : Nat} {t B C Dm : Ty} {Γ0 Δ1 : List Ty} {Δ : List (Nat × Ty × Nat)} {un e : Bool} {cd ob wR wG va vg LR LG : Nat} {VR VG : List (Nat × Nat)}
theorem zone_sw (w : TWf f (cxs Δ1 Γ0 (tAll B C)).length (Δ.map (fun a => a.1)) t) (he : TE (cxs Δ1 Γ0 (tAll B C)) Δ) (hΔ : (e = true ∧ Δ = []) ∨ (e = false ∧ Δ ≠ [])) (cu : un = true ∨ COk f t 0) (m30 : mch t ≤ 30) (hdd : dch Δ ≤ cd) (hcd : cd ≤ 56) (hb0 : ∀ b ∈ Γ0, nsch b = true ∨ flv b ≤ ob) (hb1 : ∀ b ∈ Δ1, nsch b = true ∨ flv b ≤ ob) (q56 : cch Γ0 ≤ 56) (q38 : cch Δ1 ≤ 38) (wbR : ∀ b, vlr b 1 (nz 0 (fun _ => 1 + 1) (2 + 1) (vlr b 1) (onz 0 (fun _ => 1 + 1) (2 + 1) (vlr b 1) Γ0) B) ≤ wR) (wbG : nz 1 ngc 1 (fun x => x) (onz 1 ngc 1 (fun x => x) Γ0) B ≤ wG)
  (hVR : ∃ v ∈ VR, xt (Γ0.length + 1) C ≤ v.1 ∧ xa 0 (fun _ => 1 + 1) 3 1 (Γ0.length + 1) C ≤ v.2) (hVG : ∃ v ∈ VG, xt (Γ0.length + 1) C ≤ v.1 ∧ xa 1 ngc 1 0 (Γ0.length + 1) C ≤ v.2)
  (oD : ok (Γ0.length + 1) Dm = true) (vD : ∀ b, vlr b 1 (mz b 1 Γ0 (tAll B Dm)) ≤ va) (vG : gz Γ0 (tAll B Dm) ≤ vg)
  (goR : ∀ (b : Bool) E Z, AQh 0 (fun _ => 1 + 1) (2 + 1) (vlr b 1) E Z f t [] (onz 0 (fun _ => 1 + 1) (2 + 1) (vlr b 1) (cxs Δ1 Γ0 (tAll B Dm))) → GOk 0 (fun _ => 1 + 1) (2 + 1) (vlr b 1) E f t [] (onz 0 (fun _ => 1 + 1) (2 + 1) (vlr b 1) (cxs Δ1 Γ0 (tAll B Dm))) (cxs Δ1 Γ0 (tAll B C)) Δ) (goG : ∀ E Z, AQh 1 ngc 1 (fun x => x) E Z f t [] (onz 1 ngc 1 (fun x => x) (cxs Δ1 Γ0 (tAll B Dm))) → GOk 1 ngc 1 (fun x => x) E f t [] (onz 1 ngc 1 (fun x => x) (cxs Δ1 Γ0 (tAll B Dm))) (cxs Δ1 Γ0 (tAll B C)) Δ)
  (hTR : ∀ v ∈ VR, ∀ p, p ≤ v.1 → ∀ w ∈ frg fg1 (cch Δ1), ∃ s, TqD va (max 1 (fx1.getD (cch Γ0) 0)) ob (tch C) p v w s ∧ TwR un e wR cd (mch t) LR s)
  (hTG : ∀ v ∈ VG, ∀ p, p ≤ v.1 → ∀ w ∈ frg fgq (cch Δ1), ∃ s, TqD vg (max 1 (fxq.getD (cch Γ0) 0)) ob (tch C) p v w s ∧ TwG un e wG cd (mch t) LG s) : SmV Dm B C Γ0 Δ1 Δ f t LR LG := by
  have d5 : Δ ≠ [] → 5 ≤ cd := fun e => Nat.le_trans (dch_five he e) hdd
  refine fun S hS => ⟨fun b => ?_, ?_⟩
  · obtain ⟨v, hv, x1, x2⟩ := hVR
    obtain ⟨p, hp, ew, he', g1, g2, g3⟩ := sm_ctx (wB := wR) (v := v) (va := va) (Dm := Dm) (tbs1 b) fg1_ok (by decide) fg1_m (vlr_one b) he.1 oD (vD b) x1 x2 (wbR b) (Nat.le_refl _) q56 (Nat.le_refl _) q38
    obtain ⟨s, ⟨k1, k2, k3, k4, k5⟩, ⟨k50, wy⟩, R0, R5⟩ := hTR v hv p hp ew he'
    have hb0' : ∀ b ∈ Γ0, nsch b = true ∨ flv b ≤ s.2.2.2.2.1 := fun b hb => (hb0 b hb).imp id (fun h => Nat.le_trans h k4)
    have hb1' : ∀ b ∈ Δ1, nsch b = true ∨ flv b ≤ s.2.2.2.2.1 := fun b hb => (hb1 b hb).imp id (fun h => Nat.le_trans h k4)
    rcases hΔ with ⟨ee, cΔ⟩ | ⟨ee, cΔ⟩
    · exact gen_fin5 (β' := tAll B Dm) (un := un) (a5 := 5) (cd := 0) (wB := s.1) (E0 := s.2.2.1) (p := s.2.2.2.1) (ob := s.2.2.2.2.1) (k := s.2.2.2.2.2) (y := s.1) (NC_rows b 1) (vlr_mono b 1) (vlr_lip b 1) (tbs1 b) fr1_m fg1_ok fg1_m fg1s_1 (by decide) (vlr_one b) w he cu m30 hb0' hb1' (by rw [cΔ]; exact Nat.le_refl _) (Nat.zero_le _) (Nat.le_refl _) (fun e => absurd cΔ e) (Nat.le_trans g1 k1) (fun j hj => Nat.le_trans (g2 j hj) k1) (fun E Z aq _ => goR b E Z aq) (fun z => Nat.le_trans (g3 z) (Nat.add_le_add k2 (Nat.mul_le_mul k3 (mxw z wy)))) (Nat.le_trans (wbR b) wy) (Nat.le_refl _) k5 k50 (R5 ee) hS
    · exact gen_fin5 (β' := tAll B Dm) (un := un) (a5 := 0) (cd := cd) (wB := s.1) (E0 := s.2.2.1) (p := s.2.2.2.1) (ob := s.2.2.2.2.1) (k := s.2.2.2.2.2) (y := s.1) (NC_rows b 1) (vlr_mono b 1) (vlr_lip b 1) (tbs1 b) fr1_m fg1_ok fg1_m fg1s_1 (by decide) (vlr_one b) w he cu m30 hb0' hb1' hdd hcd (Nat.zero_le _) (fun _ => rfl) (Nat.le_trans g1 k1) (fun j hj => Nat.le_trans (g2 j hj) k1) (fun E Z aq _ => goR b E Z aq) (fun z => Nat.le_trans (g3 z) (Nat.add_le_add k2 (Nat.mul_le_mul k3 (mxw z wy)))) (Nat.le_trans (wbR b) wy) (Nat.le_refl _) k5 k50 (R0 ee (d5 cΔ)) hS
  · obtain ⟨v, hv, x1, x2⟩ := hVG
    obtain ⟨p, hp, ew, he', g1, g2, g3⟩ := sm_ctx (wB := wG) (v := v) (va := vg) (Dm := Dm) tbsq fgq_ok (by decide) fgq_m (fun y => by show y ≤ 0 + max 1 y; omega) he.1 oD vG x1 x2 wbG (Nat.le_refl _) q56 (Nat.le_refl _) q38
    obtain ⟨s, ⟨k1, k2, k3, k4, k5⟩, ⟨k50, wy⟩, R0, R5⟩ := hTG v hv p hp ew he'
    have hb0' : ∀ b ∈ Γ0, nsch b = true ∨ flv b ≤ s.2.2.2.2.1 := fun b hb => (hb0 b hb).imp id (fun h => Nat.le_trans h k4)
    have hb1' : ∀ b ∈ Δ1, nsch b = true ∨ flv b ≤ s.2.2.2.2.1 := fun b hb => (hb1 b hb).imp id (fun h => Nat.le_trans h k4)
    rcases hΔ with ⟨ee, cΔ⟩ | ⟨ee, cΔ⟩
    · exact gen_fin5 (β' := tAll B Dm) (un := un) (a5 := 5) (cd := 0) (wB := s.1) (E0 := s.2.2.1) (p := s.2.2.2.1) (ob := s.2.2.2.2.1) (k := s.2.2.2.2.2) (y := s.1) NC_goals (fun y y' hy => hy) (fun y δ => Nat.le_refl _) tbsq frq_m fgq_ok fgq_m fg1s_q (by decide) (fun y => by show y ≤ 0 + max 1 y; omega) w he cu m30 hb0' hb1' (by rw [cΔ]; exact Nat.le_refl _) (Nat.zero_le _) (Nat.le_refl _) (fun e => absurd cΔ e) (Nat.le_trans g1 k1) (fun j hj => Nat.le_trans (g2 j hj) k1) (fun E Z aq _ => goG E Z aq) (fun z => Nat.le_trans (g3 z) (Nat.add_le_add k2 (Nat.mul_le_mul k3 (mxw z wy)))) (Nat.le_trans wbG wy) (Nat.le_refl _) k5 k50 (R5 ee) hS
    · exact gen_fin5 (β' := tAll B Dm) (un := un) (a5 := 0) (cd := cd) (wB := s.1) (E0 := s.2.2.1) (p := s.2.2.2.1) (ob := s.2.2.2.2.1) (k := s.2.2.2.2.2) (y := s.1) NC_goals (fun y y' hy => hy) (fun y δ => Nat.le_refl _) tbsq frq_m fgq_ok fgq_m fg1s_q (by decide) (fun y => by show y ≤ 0 + max 1 y; omega) w he cu m30 hb0' hb1' hdd hcd (Nat.zero_le _) (fun _ => rfl) (Nat.le_trans g1 k1) (fun j hj => Nat.le_trans (g2 j hj) k1) (fun E Z aq _ => goG E Z aq) (fun z => Nat.le_trans (g3 z) (Nat.add_le_add k2 (Nat.mul_le_mul k3 (mxw z wy)))) (Nat.le_trans wbG wy) (Nat.le_refl _) k5 k50 (R0 ee (d5 cΔ)) hS
end PmHy9
def vbR : LnT := [[], [], [], [], [], [], [], [], [], [], [], [], [], [], [], [], [], [], [], [], [], [], [], [], [], [], [], [], [], [], [], [], [], [], [], [], [], [(17, 0, 23, 6, 2, 18)], [(17, 0, 29, 6, 2, 19)], [(17, 0, 29, 6, 2, 20)], [(39, 0, 58, 5, 4, 21), (19, 0, 22, 6, 2, 21)], [(47, 0, 64, 4, 4, 19), (26, 0, 34, 9, 3, 22)], [(17, 0, 43, 9, 2, 23)], [(17, 0, 45, 9, 2, 24)], [(26, 0, 45, 9, 3, 25)], [(35, 0, 76, 10, 4, 26), (17, 0, 30, 12, 2, 26)], [(71, 0, 112, 4, 4, 27), (59, 0, 62, 6, 6, 27), (26, 0, 51, 12, 3, 27)], [(71, 0, 148, 4, 5, 28), (59, 0, 78, 6, 6, 28), (26, 0, 58, 12, 3, 28)]]
def vbG : LnT := [[], [], [], [], [], [], [], [], [], [], [], [], [], [], [], [], [], [], [], [], [], [], [], [], [], [], [], [], [], [], [], [], [], [], [], [], [], [(7, 0, 17, 6, 2, 18)], [(7, 0, 22, 6, 2, 19)], [(10, 0, 24, 6, 2, 20)], [(32, 0, 43, 4, 4, 21), (10, 0, 16, 6, 2, 21)], [(32, 0, 44, 4, 4, 20), (11, 0, 28, 9, 3, 22)], [(7, 0, 33, 9, 2, 23)], [(10, 0, 33, 9, 2, 24)], [(11, 0, 34, 9, 3, 25)], [(21, 0, 66, 11, 4, 26), (7, 0, 12, 12, 2, 26)], [(56, 0, 99, 3, 4, 27), (37, 0, 39, 7, 6, 27), (13, 0, 59, 12, 3, 27)], [(56, 0, 71, 4, 4, 28), (37, 0, 76, 6, 6, 28), (16, 0, 99, 12, 4, 28)]]
def vt0R : List (List Nat) := [[], [], [], [], [], [], [], [], [], [], [], [], [], [], [], [], [], [], [], [], [], [], [], [], [], [], [], [], [], [], [], [], [], [], [], [], [], [0, 0, 0, 125, 125, 125, 163, 239, 250, 250, 258, 353, 364, 375, 0, 0], [0, 0, 0, 131, 131, 131, 167, 245, 262, 262, 262, 359, 376, 0, 0, 0], [0, 0, 0, 131, 131, 131, 167, 245, 262, 262, 262, 359, 0, 0, 0, 0], [0, 0, 0, 253, 253, 256, 333, 458, 506, 506, 509, 0, 0, 0, 0, 0], [0, 0, 0, 268, 268, 298, 301, 520, 536, 592, 0, 0, 0, 0, 0, 0], [0, 0, 0, 196, 196, 196, 214, 367, 392, 0, 0, 0, 0, 0, 0, 0], [0, 0, 0, 198, 198, 198, 216, 369, 0, 0, 0, 0, 0, 0, 0, 0], [0, 0, 0, 279, 279, 279, 305, 0, 0, 0, 0, 0, 0, 0, 0, 0], [0, 0, 0, 426, 426, 449, 0, 0, 0, 0, 0, 0, 0, 0, 0, 0], [0, 0, 0, 416, 416, 0, 0, 0, 0, 0, 0, 0, 0, 0, 0, 0], [0, 0, 0, 432, 0, 0, 0, 0, 0, 0, 0, 0, 0, 0, 0, 0]]
def vt5R : List (List Nat) := [[], [], [], [], [], [], [], [], [], [], [], [], [], [], [], [], [], [], [], [], [], [], [], [], [], [], [], [], [], [], [], [], [], [], [], [], [], [0, 0, 0, 0, 0, 0, 0, 0, 0, 0, 0, 0, 0, 0, 0, 0], [0, 0, 0, 0, 0, 0, 0, 0, 0, 0, 0, 0, 0, 0, 0, 0], [0, 0, 0, 0, 0, 0, 0, 0, 0, 0, 0, 0, 0, 0, 0, 0], [0, 0, 0, 0, 0, 0, 0, 0, 0, 0, 0, 0, 0, 0, 0, 0], [0, 0, 0, 0, 0, 2, 97, 99, 305, 323, 353, 365, 585, 602, 696, 0], [0, 0, 0, 0, 0, 2, 37, 39, 224, 242, 242, 244, 414, 440, 0, 0], [0, 0, 0, 0, 0, 0, 0, 0, 0, 0, 0, 0, 0, 0, 0, 0], [0, 0, 0, 0, 0, 0, 0, 0, 0, 0, 0, 0, 0, 0, 0, 0], [0, 0, 0, 0, 0, 0, 0, 0, 0, 0, 0, 0, 0, 0, 0, 0], [0, 0, 0, 0, 0, 0, 0, 0, 0, 0, 0, 0, 0, 0, 0, 0], [0, 0, 0, 0, 0, 0, 0, 0, 0, 0, 0, 0, 0, 0, 0, 0]]
def vt0G : List (List Nat) := [[], [], [], [], [], [], [], [], [], [], [], [], [], [], [], [], [], [], [], [], [], [], [], [], [], [], [], [], [], [], [], [], [], [], [], [], [], [0, 0, 0, 59, 59, 59, 77, 107, 118, 118, 125, 155, 166, 177, 0, 0], [0, 0, 0, 64, 64, 64, 82, 112, 128, 128, 130, 160, 176, 0, 0, 0], [0, 0, 0, 84, 84, 84, 105, 150, 168, 168, 168, 216, 0, 0, 0, 0], [0, 0, 0, 171, 171, 207, 236, 303, 342, 405, 405, 0, 0, 0, 0, 0], [0, 0, 0, 172, 172, 201, 207, 304, 344, 399, 0, 0, 0, 0, 0, 0], [0, 0, 0, 96, 96, 96, 123, 168, 192, 0, 0, 0, 0, 0, 0, 0], [0, 0, 0, 123, 123, 123, 150, 222, 0, 0, 0, 0, 0, 0, 0, 0], [0, 0, 0, 133, 133, 133, 160, 0, 0, 0, 0, 0, 0, 0, 0, 0], [0, 0, 0, 297, 297, 297, 0, 0, 0, 0, 0, 0, 0, 0, 0, 0], [0, 0, 0, 298, 298, 0, 0, 0, 0, 0, 0, 0, 0, 0, 0, 0], [0, 0, 0, 298, 0, 0, 0, 0, 0, 0, 0, 0, 0, 0, 0, 0]]
def vt5G : List (List Nat) := [[], [], [], [], [], [], [], [], [], [], [], [], [], [], [], [], [], [], [], [], [], [], [], [], [], [], [], [], [], [], [], [], [], [], [], [], [], [0, 0, 0, 0, 0, 0, 0, 0, 0, 0, 0, 0, 0, 0, 0, 0], [0, 0, 0, 0, 0, 0, 0, 0, 0, 0, 0, 0, 0, 0, 0, 0], [0, 0, 0, 0, 0, 0, 0, 0, 0, 0, 0, 0, 0, 0, 0, 0], [0, 0, 0, 0, 0, 0, 0, 0, 0, 0, 0, 0, 0, 0, 0, 0], [0, 0, 0, 0, 0, 3, 66, 66, 209, 209, 240, 242, 370, 385, 465, 0], [0, 0, 0, 0, 0, 3, 16, 16, 113, 113, 113, 143, 194, 218, 0, 0], [0, 0, 0, 0, 0, 0, 0, 0, 0, 0, 0, 0, 0, 0, 0, 0], [0, 0, 0, 0, 0, 0, 0, 0, 0, 0, 0, 0, 0, 0, 0, 0], [0, 0, 0, 0, 0, 0, 0, 0, 0, 0, 0, 0, 0, 0, 0, 0], [0, 0, 0, 0, 0, 0, 0, 0, 0, 0, 0, 0, 0, 0, 0, 0], [0, 0, 0, 0, 0, 0, 0, 0, 0, 0, 0, 0, 0, 0, 0, 0]]
/-- entries and tables: names around, none around -/
def jya (L : LnT) (T0 : List (List Nat)) (F W : FrT) (hv fn s2 r0 r1 r2 r3 a b : Nat) : Bool := (List.range b).all (fun c => Nat.blt c a || (lng L c).all (fun s => (List.range 16).all (fun m => Nat.blt m 3 || (Nat.blt 50 (c + m) || Nat.ble (dpD false F W 0 hv fn s2 r0 r1 r2 r3 s.2.2.1 s.2.2.2.1 s.1 s.2.2.2.2.1 s.2.2.2.2.2 s.1 (55 - c - m) m) (bhg T0 c m)))))
def jyb (L : LnT) (T5 : List (List Nat)) (F W : FrT) (hv fn s2 r0 r1 r2 r3 a b : Nat) : Bool := (List.range b).all (fun c => Nat.blt c a || (lng L c).all (fun s => (List.range 16).all (fun m => Nat.blt m 3 || (Nat.blt 55 (c + m) || Nat.ble (dpD false F W 5 hv fn s2 r0 r1 r2 r3 s.2.2.1 s.2.2.2.1 s.1 s.2.2.2.2.1 s.2.2.2.2.2 s.1 0 m) (bhg T5 c m)))))
theorem jya_get {L : LnT} {T0 : List (List Nat)} {F W : FrT} {hv fn s2 r0 r1 r2 r3 a b c m : Nat} (h : jya L T0 F W hv fn s2 r0 r1 r2 r3 a b = true) (ha : a ≤ c) (hb : c < b) (m3 : 3 ≤ m) (m16 : m < 16) (hc : c + m ≤ 50) {s : T6} (hs : s ∈ lng L c) : dpD false F W 0 hv fn s2 r0 r1 r2 r3 s.2.2.1 s.2.2.2.1 s.1 s.2.2.2.2.1 s.2.2.2.2.2 s.1 (55 - c - m) m ≤ bhg T0 c m := by
  unfold jya at h
  have q := rng_all h (i := c) hb
  rw [Bool.or_eq_true] at q
  rcases q with q | q
  · exact (blt_no ha q).elim
  have q := rng_all (List.all_eq_true.mp q s hs) (i := m) m16
  rw [Bool.or_eq_true, Bool.or_eq_true] at q
  rcases q with q | q | q
  · exact (blt_no m3 q).elim
  · exact (blt_no hc q).elim
  exact Nat.le_of_ble_eq_true q
theorem jyb_get {L : LnT} {T5 : List (List Nat)} {F W : FrT} {hv fn s2 r0 r1 r2 r3 a b c m : Nat} (h : jyb L T5 F W hv fn s2 r0 r1 r2 r3 a b = true) (ha : a ≤ c) (hb : c < b) (m3 : 3 ≤ m) (m16 : m < 16) (hc : c + m ≤ 55) {s : T6} (hs : s ∈ lng L c) : dpD false F W 5 hv fn s2 r0 r1 r2 r3 s.2.2.1 s.2.2.2.1 s.1 s.2.2.2.2.1 s.2.2.2.2.2 s.1 0 m ≤ bhg T5 c m := by
  unfold jyb at h
  have q := rng_all h (i := c) hb
  rw [Bool.or_eq_true] at q
  rcases q with q | q
  · exact (blt_no ha q).elim
  have q := rng_all (List.all_eq_true.mp q s hs) (i := m) m16
  rw [Bool.or_eq_true, Bool.or_eq_true] at q
  rcases q with q | q | q
  · exact (blt_no m3 q).elim
  · exact (blt_no hc q).elim
  exact Nat.le_of_ble_eq_true q
theorem vbR_0 : jya vbR vt0R fr1 fg1 1 2 3 2 2 2 2 37 48 = true := by decide +kernel
theorem vbG_0 : jya vbG vt0G frq fgq 0 1 1 1 3 2 1 37 48 = true := by decide +kernel
theorem vbR_5 : jyb vbR vt5R fr1 fg1 1 2 3 2 2 2 2 41 43 = true := by decide +kernel
theorem vbG_5 : jyb vbG vt5G frq fgq 0 1 1 1 3 2 1 41 43 = true := by decide +kernel
theorem vtR_s : jxs vt0R vt5R 887 = true := by decide +kernel
theorem vtG_s : jxs vt0G vt5G 597 = true := by decide +kernel
/-- what a context needs is below an entry -/
def lyz (L : LnT) (XR W : FrT) (va wB y1 ob k q2 c : Nat) : Bool := (frg XR k).all (fun v => (List.range (v.1 + 1)).all (fun p => (frg W q2).all (fun u => (lng L c).any (fun s => Nat.ble (u.2 + u.1 * max y1 va) s.1 && (Nat.ble (v.2 + (v.1 - p) * y1) s.2.2.1 && (Nat.ble p s.2.2.2.1 && (Nat.ble ob s.2.2.2.2.1 && (Nat.ble k s.2.2.2.2.2 && (Nat.ble wB s.1 && Nat.ble s.2.2.2.2.2 50)))))))))
theorem lyz_get {L : LnT} {XR W : FrT} {va wB y1 ob k q2 c : Nat} (h : lyz L XR W va wB y1 ob k q2 c = true) : ∀ v ∈ frg XR k, ∀ p, p ≤ v.1 → ∀ u ∈ frg W q2, ∃ s : T6, s ∈ lng L c ∧ TqD va y1 ob k p v u s ∧ s.2.2.2.2.2 ≤ 50 ∧ wB ≤ s.1 := by
  intro v hv p hp u hu
  unfold lyz at h
  obtain ⟨s, hs, q⟩ := List.any_eq_true.mp (List.all_eq_true.mp (rng_all (List.all_eq_true.mp h v hv) (i := p) (by omega)) u hu)
  rw [Bool.and_eq_true, Bool.and_eq_true, Bool.and_eq_true, Bool.and_eq_true, Bool.and_eq_true, Bool.and_eq_true] at q
  obtain ⟨q1, q2, q3, q4, q5, q6, q7⟩ := q
  exact ⟨s, hs, ⟨Nat.le_of_ble_eq_true q1, Nat.le_of_ble_eq_true q2, Nat.le_of_ble_eq_true q3, Nat.le_of_ble_eq_true q4, Nat.le_of_ble_eq_true q5⟩, Nat.le_of_ble_eq_true q7, Nat.le_of_ble_eq_true q6⟩
