/-! INNER SCHEMES WITH SEVERAL BINDERS: the short list but one (RESTW9). -/
def oX9 : List ((Nat × Nat × Nat × Nat) × List T6 × List T6) := [((5, 9, 4, 20), [(195, 0, 70, 3, 0, 13)], [(151, 0, 56, 3, 0, 13)]), ((5, 9, 4, 21), [(203, 0, 73, 3, 0, 13)], [(151, 0, 56, 3, 0, 13)]), ((5, 9, 5, 20), [(195, 0, 70, 3, 0, 13)], [(151, 0, 56, 3, 0, 13)]), ((5, 10, 4, 20), [(195, 0, 70, 3, 0, 13)], [(151, 0, 56, 3, 0, 13)]), ((6, 9, 4, 20), [(195, 0, 70, 3, 0, 13)], [(151, 0, 56, 3, 0, 13)])]
def oY9 : List ((Nat × Nat × Nat × Nat) × List T6 × List T6) := [((1, 9, 3, 20), [(98, 0, 70, 3, 3, 13)], [(78, 0, 56, 3, 3, 13)])]
def okX9 (a : (Nat × Nat × Nat × Nat) × List T6 × List T6) : Bool :=
  lizn [a.2.1] xr1 fr1 fg1 1 3 (kpz fr1 0 (max 1 (fx1.getD a.1.2.2.2 0)) a.1.2.2.1) (wbz fr1 1 (max 1 (fx1.getD a.1.2.2.2 0)) a.1.1) (max 1 (fx1.getD a.1.2.2.2 0)) (ojy a.1.2.1 a.1.2.2.1 a.1.2.2.2 0) a.1.2.1 0 0 &&
  (lizn [a.2.2] xrq frq fgq 0 1 (kpz frq 1 (max 1 (fxq.getD a.1.2.2.2 0)) a.1.2.2.1) (wbz frq 0 (max 1 (fxq.getD a.1.2.2.2 0)) a.1.1) (max 1 (fxq.getD a.1.2.2.2 0)) (ojy a.1.2.1 a.1.2.2.1 a.1.2.2.2 0) a.1.2.1 0 0 &&
  (lno false [a.2.1] fr1 fg1 1 2 3 2 2 2 2 887 (58 - 2 * 3 - (8 + a.1.1 + a.1.2.1 + a.1.2.2.1 + a.1.2.2.2)) 3 && lno false [a.2.2] frq fgq 0 1 1 1 3 2 1 597 (58 - 2 * 3 - (8 + a.1.1 + a.1.2.1 + a.1.2.2.1 + a.1.2.2.2)) 3))
def okY9 (a : (Nat × Nat × Nat × Nat) × List T6 × List T6) : Bool :=
  liz [a.2.1] xr1 fr1 fg1 1 3 (kpz fr1 0 (max 1 (fx1.getD a.1.2.2.2 0)) a.1.2.2.1) (wbz fr1 1 (max 1 (fx1.getD a.1.2.2.2 0)) a.1.1) (max 1 (fx1.getD a.1.2.2.2 0)) (ojy a.1.2.1 a.1.2.2.1 a.1.2.2.2 0) a.1.2.1 0 0 &&
  (liz [a.2.2] xrq frq fgq 0 1 (kpz frq 1 (max 1 (fxq.getD a.1.2.2.2 0)) a.1.2.2.1) (wbz frq 0 (max 1 (fxq.getD a.1.2.2.2 0)) a.1.1) (max 1 (fxq.getD a.1.2.2.2 0)) (ojy a.1.2.1 a.1.2.2.1 a.1.2.2.2 0) a.1.2.1 0 0 &&
  (lno false [a.2.1] fr1 fg1 1 2 3 2 2 2 2 887 (58 - 2 * 6 - (8 + a.1.1 + a.1.2.1 + a.1.2.2.1 + a.1.2.2.2)) 6 && lno false [a.2.2] frq fgq 0 1 1 1 3 2 1 597 (58 - 2 * 6 - (8 + a.1.1 + a.1.2.1 + a.1.2.2.1 + a.1.2.2.2)) 6))
theorem oX9_ok : oX9.all (fun a => okX9 a && (Nat.ble a.1.2.2.1 5 && Nat.ble 46 (8 + a.1.1 + a.1.2.1 + a.1.2.2.1 + a.1.2.2.2))) = true := by decide +kernel
theorem oY9_ok : oY9.all (fun a => okY9 a && Nat.ble 41 (8 + a.1.1 + a.1.2.1 + a.1.2.2.1 + a.1.2.2.2)) = true := by decide +kernel
def has4 (L : List ((Nat × Nat × Nat × Nat) × List T6 × List T6)) (be k ov q1 : Nat) : Bool := L.any (fun a => Nat.beq be a.1.1 && (Nat.beq k a.1.2.1 && (Nat.beq ov a.1.2.2.1 && Nat.beq q1 a.1.2.2.2)))
theorem has4_get {L : List ((Nat × Nat × Nat × Nat) × List T6 × List T6)} {be k ov q1 : Nat} {p : ((Nat × Nat × Nat × Nat) × List T6 × List T6) → Bool} (ok : L.all p = true) (h : has4 L be k ov q1 = true) : ∃ l1 l2, p ((be, k, ov, q1), l1, l2) = true := by
  obtain ⟨a, ha, q⟩ := List.any_eq_true.mp h
  have z := List.all_eq_true.mp ok a ha
  rw [Bool.and_eq_true, Bool.and_eq_true, Bool.and_eq_true] at q
  obtain ⟨q1, q2, q3, q4⟩ := q
  have e1 := Nat.eq_of_beq_eq_true q1
  have e2 := Nat.eq_of_beq_eq_true q2
  have e3 := Nat.eq_of_beq_eq_true q3
  have e4 := Nat.eq_of_beq_eq_true q4
  subst e1; subst e2; subst e3; subst e4
  exact ⟨a.2.1, a.2.2, z⟩
/-- what is left -/
def exK (m be k ov q1 q2 : Nat) : Bool := Nat.ble m 5 && (Nat.beq be 1 && (Nat.beq k 22 && (Nat.beq ov 3 && (Nat.beq q1 0 && Nat.beq q2 9))))
theorem ex2_s {m be k ov q1 q2 : Nat} (h : ex2 m be k ov q1 q2 = true) : exK m be k ov q1 q2 = true ∨ (m ≤ 5 ∧ q2 = 0 ∧ has4 oX9 be k ov q1 = true) ∨ (6 ≤ m ∧ q2 = 0 ∧ has4 oY9 be k ov q1 = true) := by
  unfold ex2 at h
  by_cases m5 : Nat.ble m 5 = true
  · rw [if_pos m5] at h
    obtain ⟨a, ha, q⟩ := List.any_eq_true.mp h
    rw [Bool.and_eq_true, Bool.and_eq_true, Bool.and_eq_true, Bool.and_eq_true] at q
    obtain ⟨q1, q2, q3, q4, q5⟩ := q
    have e1 := Nat.eq_of_beq_eq_true q1
    have e2 := Nat.eq_of_beq_eq_true q2
    have e3 := Nat.eq_of_beq_eq_true q3
    have e4 := Nat.eq_of_beq_eq_true q4
    have e5 := Nat.eq_of_beq_eq_true q5
    subst e1; subst e2; subst e3; subst e4; subst e5
    simp only [List.mem_cons, List.not_mem_nil, or_false] at ha
    rcases ha with rfl | rfl | rfl | rfl | rfl | rfl
    · left
      unfold exK
      rw [m5]
      rfl
    all_goals exact Or.inr (Or.inl ⟨Nat.le_of_ble_eq_true m5, rfl, by decide +kernel⟩)
  · rw [if_neg m5, Bool.and_eq_true, Bool.and_eq_true, Bool.and_eq_true, Bool.and_eq_true] at h
    obtain ⟨q1, q2, q3, q4, q5⟩ := h
    have e1 := Nat.eq_of_beq_eq_true q1
    have e2 := Nat.eq_of_beq_eq_true q2
    have e3 := Nat.eq_of_beq_eq_true q3
    have e4 := Nat.eq_of_beq_eq_true q4
    have e5 := Nat.eq_of_beq_eq_true q5
    have m6 : 6 ≤ m := by
      refine Classical.byContradiction (fun c => m5 (Nat.ble_eq_true_of_le (by omega)))
    subst e1; subst e2; subst e3; subst e4; subst e5
    exact Or.inr (Or.inr ⟨m6, rfl, by decide +kernel⟩)
section PmZn9
variable {f : Nat} {t b b' B C : Ty} {Γ0 : List Ty} {Δ : List (Nat × Ty × Nat)}
theorem nat_n9 (lb : LBd Γ0 [] b b' B C) (w : TWf f (cxs [] Γ0 b).length (Δ.map (fun a => a.1)) t) (he : TE (cxs [] Γ0 b) Δ) (nD : Δ ≠ []) (tn : TNo f t) (ch : CHo f t []) (m3 : 3 ≤ mch t) (hz : (mch t ≤ 5 ∧ has4 oX9 (tch B) (tch C) (tch b - tch (tAll B C)) (cch Γ0) = true) ∨ (6 ≤ mch t ∧ has4 oY9 (tch B) (tch C) (tch b - tch (tAll B C)) (cch Γ0) = true)) (h47 : cch (cxs [] Γ0 b) ≤ 47) (hb : cch (cxs [] Γ0 b) + dch Δ + 2 * mch t ≤ 58) : NtV (cxs [] Γ0 b) Δ f t 887 597 := by
  have ec := cch_cx (Γ0 := Γ0) (β := b) []
  have e0 : cch ([] : List Ty) = 0 := rfl
  have cσ := lb.1.ch
  have eσ := tch_all B C
  have eq : 8 + tch B + tch C + (tch b - tch (tAll B C)) + cch Γ0 = cch (cxs [] Γ0 b) := by omega
  have d5 := dch_five he nD
  have oC : ok (Γ0.length + 1) C = true := (ok_all.mp lb.1.2.1).2
  have fR : ∃ v ∈ frg xr1 (tch C), xt (Γ0.length + 1) C ≤ v.1 ∧ xa 0 (fun _ => 1 + 1) 3 1 (Γ0.length + 1) C ≤ v.2 := xr_form (n1 := fun _ => 1 + 1) (hv := 1) xr1_ok (tbs1 true).2.2.2.1 (tbs1 true).2.2.2.2.1 _ C (Γ0.length + 1) (Nat.le_refl _) oC lb.2.2.2.1
  have fG : ∃ v ∈ frg xrq (tch C), xt (Γ0.length + 1) C ≤ v.1 ∧ xa 1 ngc 1 0 (Γ0.length + 1) C ≤ v.2 := xr_form (n1 := ngc) (hv := 0) xrq_ok tbsq.2.2.2.1 tbsq.2.2.2.2.1 _ C (Γ0.length + 1) (Nat.le_refl _) oC lb.2.2.2.1
  have one : dch Δ ≤ 9 → Δ.length ≤ 1 := fun d9 => by
    obtain ⟨a, ea⟩ := dch_one he nD d9
    rw [ea]; exact Nat.le_refl _
  rcases hz with ⟨m5, hz⟩ | ⟨m6, hz⟩
  · obtain ⟨l1, l2, z⟩ := has4_get oX9_ok hz
    rw [Bool.and_eq_true, Bool.and_eq_true] at z
    obtain ⟨z, o5, c46⟩ := z
    have o5 : tch b - tch (tAll B C) ≤ 5 := Nat.le_of_ble_eq_true o5
    have c46 : 46 ≤ 8 + tch B + tch C + (tch b - tch (tAll B C)) + cch Γ0 := Nat.le_of_ble_eq_true c46
    have m33 : mch t = 3 := by omega
    unfold okX9 at z
    rw [Bool.and_eq_true, Bool.and_eq_true, Bool.and_eq_true] at z
    obtain ⟨zR, zG, tR, tG⟩ := z
    simp only [eq] at tR tG
    exact zone_jn (e := false) (cd := 58 - 2 * 3 - cch (cxs [] Γ0 b)) fR fG lb w he (Or.inr ⟨rfl, nD⟩) tn (one (by omega)) ch zR zG (by rw [m33]; exact tR) (by rw [m33]; exact tG) (by omega) (by omega) h47 rfl o5 (Nat.zero_le _) (by omega)
  · obtain ⟨l1, l2, z⟩ := has4_get oY9_ok hz
    rw [Bool.and_eq_true] at z
    obtain ⟨z, c46⟩ := z
    have c46 : 41 ≤ 8 + tch B + tch C + (tch b - tch (tAll B C)) + cch Γ0 := Nat.le_of_ble_eq_true c46
    have m33 : mch t = 6 := by omega
    unfold okY9 at z
    rw [Bool.and_eq_true, Bool.and_eq_true, Bool.and_eq_true] at z
    obtain ⟨zR, zG, tR, tG⟩ := z
    simp only [eq] at tR tG
    exact zone_jo (e := false) (cd := 58 - 2 * 6 - cch (cxs [] Γ0 b)) fR fG lb w he (Or.inr ⟨rfl, nD⟩) tn (one (by omega)) ch zR zG (by rw [m33]; exact tR) (by rw [m33]; exact tG) (by omega) (by omega) h47 (Nat.zero_le _) (by omega)
end PmZn9
def W9n (m : Nat) (e : Bool) (Γ : List Ty) : Prop := (e = false ∧ ExA Γ) ∨ (∃ B C : Ty, Γ = [tAll B C] ∧ 2 ≤ tch B ∧ LBd [] [] (tAll B C) tTop B C ∧ sN B 0 1 C = true ∧ exJ e m (tch B) (tch C) = true) ∨ (e = false ∧ ∃ (Δ1 Γ0 : List Ty) (b b' B C : Ty), Γ = cxs Δ1 Γ0 b ∧ LBd Γ0 Δ1 b b' B C ∧ ¬ IS2 (fun _ => False) b ∧ hd b ≠ 2 ∧ 1 ≤ cch Γ0 + cch Δ1 ∧ exK m (tch B) (tch C) (tch b - tch (tAll B C)) (cch Γ0) (cch Δ1) = true)
def RESTW9 : Prop := ∀ (f : Nat) (x y : Ty) (Γ : List Ty) (Δ : List (Nat × Ty × Nat)) (t : Ty), H9 f x y Γ Δ → Sh9 x y t → (¬ CHo f t [] ∨ (CHo f t [] ∧ (W9n (mch (pee f t).2) Δ.isEmpty Γ ∨ V9a f x y t (mch (pee f t).2) Δ.isEmpty Γ))) → PRn f x y Γ Δ
theorem restV9_of (R : RESTW9) : RESTV9 := by
  intro f x y Γ Δ t H sh h
  rcases h with h | ⟨ch, h | h⟩
  · exact R f x y Γ Δ t H sh (Or.inl h)
  rotate_left
  · exact R f x y Γ Δ t H sh (Or.inr ⟨ch, Or.inr h⟩)
  rcases h with h | h | ⟨eI, Δ1, Γ0, b, b', B, C, eΓ, lb, ni, hb2, nz, hx⟩
  · exact R f x y Γ Δ t H sh (Or.inr ⟨ch, Or.inl (Or.inl h)⟩)
  · exact R f x y Γ Δ t H sh (Or.inr ⟨ch, Or.inl (Or.inr (Or.inl h))⟩)
  rcases ex2_s hx with c | hz
  · exact R f x y Γ Δ t H sh (Or.inr ⟨ch, Or.inl (Or.inr (Or.inr ⟨eI, Δ1, Γ0, b, b', B, C, eΓ, lb, ni, hb2, nz, c⟩))⟩)
  obtain ⟨⟨wt, nt, tt, m3', m3, n9⟩, pm, hbt⟩ := h9_t H sh
  have H' := H
  obtain ⟨-, -, ⟨he, hv, hd', h20, h47, -⟩, -⟩ := H'
  have nD : Δ ≠ [] := fun q => by rw [q] at eI; cases eI
  have q0 : cch Δ1 = 0 := by
    rcases hz with h | h
    · exact h.2.1
    · exact h.2.1
  have pos : ∀ a ∈ Δ1, 1 ≤ tch a := fun a ha => by
    obtain ⟨d, o1, -⟩ := okc_mch he.1 (show a ∈ Γ by rw [eΓ]; unfold cxs; simp [ha])
    exact tch_pos o1
  have g1 := (q05_of pos).2 q0
  subst g1
  obtain ⟨⟨w', -⟩, -, tn, -, -⟩ := pee_ok f _ _ t wt
  have hbp : cch Γ + dch Δ + 2 * mch (pee f t).2 ≤ 58 := by omega
  refine h9_ntv H sh (NtV_pee f t wt he ?_)
  subst eΓ
  refine nat_n9 lb w' he nD (tn tt) (pee_cho f t [] ch) m3 ?_ h47 hbp
  rcases hz with h | h
  · exact Or.inl ⟨h.1, h.2.2⟩
  · exact Or.inr ⟨h.1, h.2.2⟩
theorem pairn_pw (R : RESTW9) : PAIRn := pairn_pv (restV9_of R)
