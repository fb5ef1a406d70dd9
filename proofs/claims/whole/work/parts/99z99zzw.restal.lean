/-! CHOICES ANYWHERE, no names around: 15 to 17 characters (RESTAL9). -/
def eQn : List (List (List (Nat × T6 × T6))) := [[[], [], [], [], [], [], [], [(11, (22, 11, 76, 3, 1, 11), (17, 11, 57, 3, 1, 11))], [(11, (22, 11, 76, 3, 1, 11), (17, 11, 60, 3, 1, 11))], [(11, (22, 11, 82, 3, 1, 11), (17, 11, 66, 3, 1, 11))]],
  [[], [], [], [], [], [], [], [(12, (22, 12, 78, 3, 1, 12), (17, 12, 59, 3, 1, 12))], [(12, (22, 12, 78, 3, 1, 12), (17, 12, 62, 3, 1, 12))], [(12, (22, 12, 84, 3, 1, 12), (17, 12, 68, 3, 1, 12))]],
  [[], [], [], [], [], [], [], [(13, (23, 13, 106, 4, 1, 13), (18, 13, 79, 4, 1, 13))], [(13, (23, 13, 106, 4, 1, 13), (18, 13, 83, 4, 1, 13))], [(12, (23, 12, 85, 4, 1, 13), (18, 12, 68, 4, 1, 13)), (13, (18, 13, 94, 4, 0, 1), (15, 13, 79, 4, 0, 1))]],
  [[], [], [], [], [], [], [], [(12, (26, 12, 88, 4, 1, 14), (23, 12, 74, 4, 1, 14)), (14, (22, 14, 107, 4, 0, 2), (15, 14, 68, 4, 0, 2))], [(12, (26, 12, 88, 4, 1, 14), (23, 12, 77, 4, 1, 14)), (14, (22, 14, 107, 4, 0, 2), (15, 14, 72, 4, 0, 2))], [(12, (26, 12, 70, 4, 1, 14), (20, 12, 57, 4, 1, 14)), (14, (22, 14, 115, 4, 0, 2), (15, 14, 80, 4, 0, 2))]],
  [[], [], [], [], [], [], [], [(11, (34, 11, 112, 3, 1, 12), (25, 11, 81, 3, 1, 12)), (15, (27, 15, 127, 4, 0, 15), (15, 15, 68, 4, 0, 15))], [(11, (34, 11, 112, 3, 1, 12), (25, 11, 84, 3, 1, 12)), (15, (27, 15, 127, 4, 0, 15), (15, 15, 72, 4, 0, 15))], [(8, (32, 8, 44, 3, 1, 12), (25, 8, 37, 3, 1, 12)), (12, (27, 12, 72, 4, 0, 15), (18, 12, 53, 4, 0, 15)), (14, (22, 14, 115, 4, 0, 3), (15, 14, 80, 4, 0, 3))]],
  [[], [], [], [], [], [], [], [(12, (34, 12, 114, 3, 1, 10), (25, 12, 83, 3, 1, 10)), (16, (27, 16, 127, 4, 0, 16), (21, 16, 94, 4, 0, 16))], [(12, (34, 12, 114, 3, 1, 10), (25, 12, 86, 3, 1, 10)), (16, (27, 16, 127, 4, 0, 16), (21, 16, 98, 4, 0, 16))], []],
  [[], [], [], [], [], [], [], [(12, (34, 12, 114, 3, 1, 11), (26, 12, 86, 3, 1, 11)), (12, (31, 12, 72, 5, 0, 17), (22, 12, 49, 5, 0, 17)), (16, (26, 16, 123, 4, 0, 4), (20, 16, 90, 4, 0, 4))], [(12, (34, 12, 114, 3, 1, 11), (26, 12, 89, 3, 1, 11)), (9, (31, 9, 72, 4, 0, 14), (22, 9, 52, 4, 0, 14)), (15, (27, 15, 100, 5, 0, 17), (18, 15, 66, 5, 0, 17)), (16, (26, 16, 123, 4, 0, 2), (20, 16, 94, 4, 0, 2))], []],
  [[], [], [], [], [], [], [], [(12, (37, 12, 123, 3, 1, 12), (28, 12, 92, 3, 1, 12)), (10, (35, 10, 80, 4, 0, 15), (22, 10, 49, 4, 0, 15)), (12, (31, 12, 43, 5, 0, 17), (18, 12, 26, 5, 0, 17)), (16, (27, 16, 127, 4, 0, 4), (20, 16, 90, 4, 0, 4))], [], []],
  [[], [], [], [], [], [], [], [(12, (41, 12, 135, 3, 2, 12), (28, 12, 92, 3, 2, 12)), (6, (36, 6, 78, 2, 1, 5), (32, 6, 67, 2, 1, 5)), (11, (35, 11, 80, 4, 0, 16), (24, 11, 54, 4, 0, 16)), (12, (31, 12, 43, 5, 0, 17), (18, 12, 26, 5, 0, 17)), (15, (28, 15, 131, 4, 0, 4), (21, 15, 92, 4, 0, 4))], [], []]]
def bQn : List (List (List (Nat × Nat × Nat))) := [[[], [], [], [], [], [], [], [], [], []], [[], [], [], [], [], [], [], [], [], []], [[], [], [], [], [], [], [], [], [], []], [[], [], [], [], [], [], [], [], [], [(10, 5, 0)]], [[], [], [], [], [], [], [], [], [], [(11, 5, 0), (10, 6, 0), (15, 1, 0)]], [[], [], [], [], [], [], [], [], [], []], [[], [], [], [], [], [], [], [(13, 5, 0), (17, 1, 0)], [(13, 5, 0), (17, 1, 0)], []], [[], [], [], [], [], [], [], [(14, 5, 0), (10, 9, 0), (13, 6, 0), (1, 18, 0), (18, 1, 0), (17, 2, 0)], [], []], [[], [], [], [], [], [], [], [(11, 9, 0), (15, 5, 0), (14, 6, 0), (7, 13, 0), (6, 14, 0), (2, 18, 0), (10, 10, 0), (1, 19, 0), (13, 7, 0), (19, 1, 0), (18, 2, 0), (16, 1, 3), (16, 4, 0), (17, 3, 0)], [], []]]
def okQn (c m : Nat) : Bool := (gQ eQn c m).all (fun e => Nat.ble (max 5 (m - 9)) e.1 && (Nat.ble e.1 30 && (lnqn [[e.2.1]] fr1 fg1 1 2 3 2 2 2 2 887 m e.1 (max 5 (m - 9)) && lnqn [[e.2.2]] frq fgq 0 1 1 1 3 2 1 597 m e.1 (max 5 (m - 9)))))
theorem qn_20_15 : okQn 20 15 = true := by decide +kernel
theorem qn_20_16 : okQn 20 16 = true := by decide +kernel
theorem qn_20_17 : okQn 20 17 = true := by decide +kernel
theorem qn_21_15 : okQn 21 15 = true := by decide +kernel
theorem qn_21_16 : okQn 21 16 = true := by decide +kernel
theorem qn_21_17 : okQn 21 17 = true := by decide +kernel
theorem qn_22_15 : okQn 22 15 = true := by decide +kernel
theorem qn_22_16 : okQn 22 16 = true := by decide +kernel
theorem qn_22_17 : okQn 22 17 = true := by decide +kernel
theorem qn_23_15 : okQn 23 15 = true := by decide +kernel
theorem qn_23_16 : okQn 23 16 = true := by decide +kernel
theorem qn_23_17 : okQn 23 17 = true := by decide +kernel
theorem qn_24_15 : okQn 24 15 = true := by decide +kernel
theorem qn_24_16 : okQn 24 16 = true := by decide +kernel
theorem qn_24_17 : okQn 24 17 = true := by decide +kernel
theorem qn_25_15 : okQn 25 15 = true := by decide +kernel
theorem qn_25_16 : okQn 25 16 = true := by decide +kernel
theorem qn_25_17 : okQn 25 17 = true := by decide +kernel
theorem qn_26_15 : okQn 26 15 = true := by decide +kernel
theorem qn_26_16 : okQn 26 16 = true := by decide +kernel
theorem qn_26_17 : okQn 26 17 = true := by decide +kernel
theorem qn_27_15 : okQn 27 15 = true := by decide +kernel
theorem qn_27_16 : okQn 27 16 = true := by decide +kernel
theorem qn_27_17 : okQn 27 17 = true := by decide +kernel
theorem qn_28_15 : okQn 28 15 = true := by decide +kernel
theorem qn_28_16 : okQn 28 16 = true := by decide +kernel
theorem qn_28_17 : okQn 28 17 = true := by decide +kernel
theorem cvn9_20 : cvx9 eQn bQn 20 15 17 = true := by decide +kernel
theorem cvn9_21 : cvx9 eQn bQn 21 15 17 = true := by decide +kernel
theorem cvn9_22 : cvx9 eQn bQn 22 15 17 = true := by decide +kernel
theorem cvn9_23 : cvx9 eQn bQn 23 15 17 = true := by decide +kernel
theorem cvn9_24 : cvx9 eQn bQn 24 15 17 = true := by decide +kernel
theorem cvn9_25 : cvx9 eQn bQn 25 15 16 = true := by decide +kernel
theorem cvn9_26 : cvx9 eQn bQn 26 15 16 = true := by decide +kernel
theorem cvn9_27 : cvx9 eQn bQn 27 15 15 = true := by decide +kernel
theorem cvn9_28 : cvx9 eQn bQn 28 15 15 = true := by decide +kernel
theorem qn_get {c m : Nat} (c0 : 20 ≤ c) (c1 : c ≤ 28) (m0 : 15 ≤ m) (m1 : m ≤ 17) : okQn c m = true := by
  have hc : c = 20 ∨ c = 21 ∨ c = 22 ∨ c = 23 ∨ c = 24 ∨ c = 25 ∨ c = 26 ∨ c = 27 ∨ c = 28 := by omega
  have hm : m = 15 ∨ m = 16 ∨ m = 17 := by omega
  rcases hc with rfl | rfl | rfl | rfl | rfl | rfl | rfl | rfl | rfl
  · rcases hm with rfl | rfl | rfl
    · exact qn_20_15
    · exact qn_20_16
    · exact qn_20_17
  · rcases hm with rfl | rfl | rfl
    · exact qn_21_15
    · exact qn_21_16
    · exact qn_21_17
  · rcases hm with rfl | rfl | rfl
    · exact qn_22_15
    · exact qn_22_16
    · exact qn_22_17
  · rcases hm with rfl | rfl | rfl
    · exact qn_23_15
    · exact qn_23_16
    · exact qn_23_17
  · rcases hm with rfl | rfl | rfl
    · exact qn_24_15
    · exact qn_24_16
    · exact qn_24_17
  · rcases hm with rfl | rfl | rfl
    · exact qn_25_15
    · exact qn_25_16
    · exact qn_25_17
  · rcases hm with rfl | rfl | rfl
    · exact qn_26_15
    · exact qn_26_16
    · exact qn_26_17
  · rcases hm with rfl | rfl | rfl
    · exact qn_27_15
    · exact qn_27_16
    · exact qn_27_17
  · rcases hm with rfl | rfl | rfl
    · exact qn_28_15
    · exact qn_28_16
    · exact qn_28_17
theorem cvxn_all {c : Nat} (c0 : 20 ≤ c) (c1 : c ≤ 28) : ∃ m1, cvx9 eQn bQn c 15 m1 = true ∧ (17 ≤ m1 ∨ 57 ≤ c + 2 * m1) := by
  have hc : c = 20 ∨ c = 21 ∨ c = 22 ∨ c = 23 ∨ c = 24 ∨ c = 25 ∨ c = 26 ∨ c = 27 ∨ c = 28 := by omega
  rcases hc with rfl | rfl | rfl | rfl | rfl | rfl | rfl | rfl | rfl
  · exact ⟨17, cvn9_20, by decide⟩
  · exact ⟨17, cvn9_21, by decide⟩
  · exact ⟨17, cvn9_22, by decide⟩
  · exact ⟨17, cvn9_23, by decide⟩
  · exact ⟨17, cvn9_24, by decide⟩
  · exact ⟨16, cvn9_25, by decide⟩
  · exact ⟨16, cvn9_26, by decide⟩
  · exact ⟨15, cvn9_27, by decide⟩
  · exact ⟨15, cvn9_28, by decide⟩
section PmZw1
variable {f : Nat} {t b b' B C : Ty} {Γ0 Δ1 : List Ty} {Δ : List (Nat × Ty × Nat)}
theorem nat_Qn (lb : LBd Γ0 Δ1 b b' B C) (ho : tch b - tch (tAll B C) = 0 ∨ 3 ≤ tch b - tch (tAll B C)) (w : TWf f (cxs Δ1 Γ0 b).length (Δ.map (fun a => a.1)) t) (he : TE (cxs Δ1 Γ0 b) Δ) (tn : TNo f t) (eD : Δ = []) (m0 : 15 ≤ mch t) (m17 : mch t ≤ 17) (h20 : 20 ≤ cch (cxs Δ1 Γ0 b)) (hb : cch (cxs Δ1 Γ0 b) + dch Δ + 2 * mch t ≤ 58) : NtV (cxs Δ1 Γ0 b) Δ f t 887 597 ∨ inB (gB bQn (cch (cxs Δ1 Γ0 b)) (mch t)) (tch B) (tch C) (tch b - tch (tAll B C)) (cch Γ0) (cch Δ1) = true := by
  obtain ⟨oc0, oB⟩ := okc_low Δ1 he.1
  have ec := cch_cx (Γ0 := Γ0) (β := b) Δ1
  have cσ := lb.1.ch
  have eσ := tch_all B C
  have oBB := (ok_all.mp lb.1.2.1).1
  have oC : ok (Γ0.length + 1) C = true := (ok_all.mp lb.1.2.1).2
  have pB := tch_pos oBB
  have pC := tch_pos oC
  have k40 := lb.2.2.2.1
  have q5 : ∀ (G : List Ty), (∀ a ∈ G, 1 ≤ tch a) → cch G = 0 ∨ 5 ≤ cch G := fun G hG => by
    cases G with
    | nil => exact Or.inl rfl
    | cons a G =>
      right
      have e : cch (a :: G) = (tch a + 4) + cch G := rfl
      have := hG a (List.mem_cons_self ..)
      omega
  have g0 := q5 Γ0 (fun a ha => by
    obtain ⟨d, o1, -⟩ := okc_mch oc0 ha
    exact tch_pos o1)
  have g1 := q5 Δ1 (fun a ha => by
    obtain ⟨d, o1, -⟩ := okc_top Δ1 he.1 a ha
    exact tch_pos o1)

  obtain ⟨m1, cv, hm1⟩ := cvxn_all h20 (by omega)
  rcases cvx_get cv (m := mch t) pB pC ho g0 g1 (by omega) m0 (by omega) with q | q
  rotate_left
  · exact Or.inr q
  left
  obtain ⟨e, he9, z⟩ := List.any_eq_true.mp q
  have ok9 := List.all_eq_true.mp ((show okQn _ _ = true from qn_get h20 (by omega) m0 m17)) e he9
  rw [Bool.and_eq_true, Bool.and_eq_true, Bool.and_eq_true] at ok9
  obtain ⟨o1, o2, tR, tG⟩ := ok9
  have o1 := Nat.le_of_ble_eq_true o1
  have o2 := Nat.le_of_ble_eq_true o2
  unfold eqx at z
  rw [Bool.and_eq_true, Bool.and_eq_true, Bool.and_eq_true, Bool.and_eq_true, Bool.and_eq_true, Bool.and_eq_true, Bool.and_eq_true] at z
  obtain ⟨⟨z1, z2, z3, z4, z5, z6⟩, zR, zG⟩ := z
  have z1 := Nat.le_of_ble_eq_true z1
  have z2 := Nat.le_of_ble_eq_true z2
  have z3 := Nat.le_of_ble_eq_true z3
  have z4 := Nat.le_of_ble_eq_true z4
  have z5 := Nat.le_of_ble_eq_true z5
  have z6 := Nat.le_of_ble_eq_true z6
  have fR : ∃ v ∈ frg xr1 (tch C), xt (Γ0.length + 1) C ≤ v.1 ∧ xa 0 (fun _ => 1 + 1) 3 1 (Γ0.length + 1) C ≤ v.2 := xr_form (n1 := fun _ => 1 + 1) (hv := 1) xr1_ok (tbs1 true).2.2.2.1 (tbs1 true).2.2.2.2.1 _ C (Γ0.length + 1) (Nat.le_refl _) oC k40
  have fG : ∃ v ∈ frg xrq (tch C), xt (Γ0.length + 1) C ≤ v.1 ∧ xa 1 ngc 1 0 (Γ0.length + 1) C ≤ v.2 := xr_form (n1 := ngc) (hv := 0) xrq_ok tbsq.2.2.2.1 tbsq.2.2.2.2.1 _ C (Γ0.length + 1) (Nat.le_refl _) oC k40
  exact zone_jqn fR fG lb w he tn eD (K := e.1) (La := max 5 (mch t - 9)) o1 o2 z1 z2 z3 z4 (by omega) (by omega) (by omega) (by omega) (qts_liz zR) (qts_liz zG) tR tG (by omega) (by omega) (by omega)
end PmZw1
theorem z0n_15 : (lnqn [[(50, 6, 106, 2, 0, 0)]] fr1 fg1 1 2 3 2 2 2 2 887 15 6 6 && lnqn [[(36, 6, 75, 2, 0, 0)]] frq fgq 0 1 1 1 3 2 1 597 15 6 6) = true ∧ ∀ c, c < 29 → max 1 (fx1.getD c 0) ≤ 50 ∧ max 1 (fxq.getD c 0) ≤ 36 := ⟨by decide +kernel, by decide +kernel⟩
theorem z0n_16 : (lnqn [[(34, 7, 74, 2, 0, 0)]] fr1 fg1 1 2 3 2 2 2 2 887 16 7 7 && lnqn [[(30, 7, 66, 2, 0, 0)]] frq fgq 0 1 1 1 3 2 1 597 16 7 7) = true ∧ ∀ c, c < 27 → max 1 (fx1.getD c 0) ≤ 34 ∧ max 1 (fxq.getD c 0) ≤ 30 := ⟨by decide +kernel, by decide +kernel⟩
theorem z0n_17 : (lnqn [[(34, 8, 80, 2, 0, 0)]] fr1 fg1 1 2 3 2 2 2 2 887 17 8 8 && lnqn [[(27, 8, 66, 2, 0, 0)]] frq fgq 0 1 1 1 3 2 1 597 17 8 8) = true ∧ ∀ c, c < 25 → max 1 (fx1.getD c 0) ≤ 34 ∧ max 1 (fxq.getD c 0) ≤ 27 := ⟨by decide +kernel, by decide +kernel⟩
section PmZw2
variable {f : Nat} {t : Ty} {Γ : List Ty} {Δ : List (Nat × Ty × Nat)}
theorem nat_0qn (w : TWf f Γ.length (Δ.map (fun a => a.1)) t) (he : TE Γ Δ) (cu : TNo f t) (eD : Δ = []) (hb0 : ∀ b ∈ Γ, IS2 (fun _ => False) b) (m0 : 15 ≤ mch t) (m17 : mch t ≤ 17) (hb : cch Γ + 2 * mch t ≤ 58) : NtV Γ Δ f t 887 597 := by
  have hm : mch t = 15 ∨ mch t = 16 ∨ mch t = 17 := by omega
  rcases hm with e | e | e
  · have q := z0n_15
    rw [Bool.and_eq_true] at q
    have q2 := q.2 (cch Γ) (by omega)
    exact zone_0qn (K := 6) (La := 6) (sR := (50, 6, 106, 2, 0, 0)) (sG := (36, 6, 75, 2, 0, 0)) w he cu eD hb0 (by omega) (by omega) (by omega) (by omega) (by omega) q2.1 q2.2 (by rw [e]; exact q.1.1) (by rw [e]; exact q.1.2) (by omega) (by omega)
  · have q := z0n_16
    rw [Bool.and_eq_true] at q
    have q2 := q.2 (cch Γ) (by omega)
    exact zone_0qn (K := 7) (La := 7) (sR := (34, 7, 74, 2, 0, 0)) (sG := (30, 7, 66, 2, 0, 0)) w he cu eD hb0 (by omega) (by omega) (by omega) (by omega) (by omega) q2.1 q2.2 (by rw [e]; exact q.1.1) (by rw [e]; exact q.1.2) (by omega) (by omega)
  · have q := z0n_17
    rw [Bool.and_eq_true] at q
    have q2 := q.2 (cch Γ) (by omega)
    exact zone_0qn (K := 8) (La := 8) (sR := (34, 8, 80, 2, 0, 0)) (sG := (27, 8, 66, 2, 0, 0)) w he cu eD hb0 (by omega) (by omega) (by omega) (by omega) (by omega) q2.1 q2.2 (by rw [e]; exact q.1.1) (by rw [e]; exact q.1.2) (by omega) (by omega)
end PmZw2
def RESTAL9 : Prop := ∀ (f : Nat) (x y : Ty) (Γ : List Ty) (Δ : List (Nat × Ty × Nat)) (t : Ty), H9 f x y Γ Δ → Sh9 x y t → ¬ CHo f t [] → ((Δ = [] ∧ (mch t ≤ 14 ∨ 18 ≤ mch t ∨ ∃ (b b' B C : Ty), Γ = [b] ∧ LBd [] [] b b' B C ∧ ¬ IS2 (fun _ => False) b ∧ sN B 0 1 C = true ∧ inB (gB bQn (cch Γ) (mch t)) (tch B) (tch C) (tch b - tch (tAll B C)) 0 0 = true)) ∨ ∃ (b b' B C : Ty), Γ = [b] ∧ LBd [] [] b b' B C ∧ ¬ IS2 (fun _ => False) b ∧ sN B 0 1 C = true ∧ ((Δ.length = 1 ∧ (tch B = 1 ∨ 12 ≤ mch t ∨ (tch B = 2 ∧ mch t = 11)) ∧ inB (gB bQo (cch Γ) (mch t)) (tch B) (tch C) (tch b - tch (tAll B C)) 0 0 = true) ∨ (2 ≤ Δ.length ∧ (tch B = 1 ∨ (tch B = 2 ∧ 9 ≤ mch t) ∨ 10 ≤ mch t) ∧ inB (gB bQm (cch Γ) (mch t)) (tch B) (tch C) (tch b - tch (tAll B C)) 0 0 = true))) → PRn f x y Γ Δ
theorem restAK9_of (R : RESTAL9) : RESTAK9 := by
  intro f x y Γ Δ t H sh nc q
  have H' := H
  obtain ⟨hx9, hy9, ⟨he, hv, hd', h20, h47, nOne⟩, hb, nO, nPS, nPG, -⟩ := H'
  obtain ⟨⟨wt, nt, tt, m3', m3, n9⟩, pm, hbt⟩ := h9_t H sh
  rcases q with eD | q
  rotate_left
  · exact R f x y Γ Δ t H sh nc (Or.inr q)
  by_cases m14 : mch t ≤ 14
  · exact R f x y Γ Δ t H sh nc (Or.inl ⟨eD, Or.inl m14⟩)
  by_cases m18 : 18 ≤ mch t
  · exact R f x y Γ Δ t H sh nc (Or.inl ⟨eD, Or.inr (Or.inl m18)⟩)
  have na : ∀ a ∈ Γ, noal a = true := fun a ha => by
    obtain ⟨j, hj, ej⟩ := mem_bnd9 Γ a ha
    rw [← ej]
    exact (hv j hj).1
  rcases lb_ex2 Γ he.1 na h47 with i | ⟨Δ1, Γ0, b, b', B, C, eΓ, lb, nf⟩
  · exact h9_ntv H sh (nat_0qn wt he tt eD i (by omega) (by omega) (by omega))
  have hc := he.1
  rw [eΓ] at hc
  obtain ⟨oc0, ob⟩ := okc_low Δ1 hc
  have cσ := lb.1.ch
  have ho : tch b - tch (tAll B C) = 0 ∨ 3 ≤ tch b - tch (tAll B C) := by
    by_cases h2 : hd b = 2
    · left
      obtain ⟨p, r, rfl, -, -⟩ := hd_is_all ob h2
      rcases IS2_all lb.1.2.2.2.2 with q | ⟨-, -, q, -⟩
      · rw [q]; exact Nat.sub_self _
      · exfalso; omega
    · right
      have := ov_three lb.1 ob nf h2
      omega
  have wt' := wt
  have he' := he
  have h20' := h20
  have hbt' := hbt
  rw [eΓ] at wt' he' h20' hbt'
  rcases nat_Qn lb ho wt' he' tt eD (by omega) (by omega) h20' hbt' with z | z
  · refine h9_ntv H sh ?_
    rw [eΓ]
    exact z
  rw [← eΓ] at z
  have z' := z
  unfold inB at z'
  rw [Bool.and_eq_true, Bool.and_eq_true] at z'
  have q1 := Nat.eq_of_beq_eq_true z'.1
  have q2 := Nat.eq_of_beq_eq_true z'.2.1
  have g0 : Γ0 = [] := (q05_of (fun a ha => by
    obtain ⟨d, o1, -⟩ := okc_mch oc0 ha
    exact tch_pos o1)).2 q1
  have g1 : Δ1 = [] := (q05_of (fun a ha => by
    obtain ⟨d, o1, -⟩ := okc_top Δ1 hc a ha
    exact tch_pos o1)).2 q2
  subst g0
  subst g1
  rw [q1] at z
  have eΓ : Γ = [b] := eΓ
  by_cases fl : sN B 0 1 C = true
  · exact R f x y Γ Δ t H sh nc (Or.inl ⟨eD, Or.inr (Or.inr ⟨b, b', B, C, eΓ, lb, nf, fl, z⟩)⟩)
  · exfalso
    refine nOne ?_
    rw [eΓ]
    refine one_of ob lb nf ?_ (by rw [Bool.not_eq_true] at fl; exact fl)
    have ov : ∀ (L : List (List (List (Nat × Nat × Nat)))), (∀ l ∈ L, ∀ l' ∈ l, ∀ e ∈ l', e.2.2 ≤ 7) → inB (gB L (cch Γ) (mch t)) (tch B) (tch C) (tch b - tch (tAll B C)) 0 0 = true → tch b ≤ tch (tAll B C) + 7 := by
      intro L hL hi
      unfold inB at hi
      rw [Bool.and_eq_true, Bool.and_eq_true] at hi
      obtain ⟨e, he9, z⟩ := List.any_eq_true.mp hi.2.2
      have e7 : e.2.2 ≤ 7 := by
        obtain ⟨l', hl', hel⟩ := getD_mem9 he9
        obtain ⟨l, hl, hl2⟩ := getD_mem9 hl'
        exact hL l hl l' hl2 e hel
      simp only [Bool.and_eq_true] at z
      have z3 := Nat.eq_of_beq_eq_true z.2.2
      omega
    exact ov bQn (by decide +kernel) z
theorem pairn_ql (R : RESTAL9) : PAIRn := pairn_qk (restAK9_of R)
