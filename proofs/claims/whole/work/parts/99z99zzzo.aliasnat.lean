/-! CONTEXTS WITH AN ALIAS: natural values but for the lists. -/
theorem ccq_five : ∀ {G : List Ty}, (∀ a ∈ G, 1 ≤ tch a) → ccq G = 0 ∨ 5 ≤ ccq G
  | [], _ => Or.inl rfl
  | a :: G, h => by
    have ih := ccq_five (G := G) (fun x hx => h x (List.mem_cons_of_mem _ hx))
    have ha := h a (List.mem_cons_self ..)
    have e : ccq (a :: G) = (if 16 ≤ hd a then 0 else tch a + 4) + ccq G := rfl
    rw [e]
    split <;> omega
section PmZo1a
variable {f : Nat} {t b b' B C : Ty} {Γ0 Δ1 : List Ty} {Δ : List (Nat × Ty × Nat)}
/-- what the lists leave -/
def inBA (e : Bool) (c m be k ov q1 q2 : Nat) : Bool := if e then inA (bA2.getD (c - 20) []) be k ov q1 q2 else if Nat.ble 10 (53 - c - 2 * m) then inA (bA0.getD (c - 20) []) be k ov q1 q2 else inA (bA1.getD (c - 20) []) be k ov q1 q2
theorem natA (lb : LBd Γ0 Δ1 b b' B C) (ho : tch b - tch (tAll B C) = 0 ∨ 3 ≤ tch b - tch (tAll B C)) (w : TWf f (cxs Δ1 Γ0 b).length (Δ.map (fun a => a.1)) t) (he : TE (cxs Δ1 Γ0 b) Δ) (tn : TNo f t) (m3 : 3 ≤ mch t) (m6 : Δ = [] → 6 ≤ mch t) (h20 : 20 ≤ ccq (cxs Δ1 Γ0 b)) (hb : ccq (cxs Δ1 Γ0 b) + dch Δ + 2 * mch t ≤ 53) : NtQ (cxs Δ1 Γ0 b) Δ f t 780 597 ∨ inBA Δ.isEmpty (ccq (cxs Δ1 Γ0 b)) (mch t) (tch B) (tch C) (tch b - tch (tAll B C)) (ccq Γ0) (ccq Δ1) = true := by
  obtain ⟨oc0, oB⟩ := okc_low Δ1 he.1
  have cσ := lb.1.ch
  have eσ := tch_all B C
  have oBB := (ok_all.mp lb.1.2.1).1
  have oC : ok (Γ0.length + 1) C = true := (ok_all.mp lb.1.2.1).2
  have pB := tch_pos oBB
  have pC := tch_pos oC
  have k40 := lb.2.2.2.1
  have hβ : ¬ 16 ≤ hd b := fun q => by
    obtain ⟨j9, hj9, e9⟩ := hd_is_var oB q
    have t9 : tch b = 1 := by rw [e9]; rfl
    omega
  have ec := ccq_cx (Γ0 := Γ0) (β := b) hβ Δ1
  have b3 := tch_three oBB
  have c3 := tch_three oC
  have g0 := ccq_five (G := Γ0) (fun a ha => by
    obtain ⟨d, o1, -⟩ := okc_mcq oc0 ha
    exact tch_pos o1)
  have g1 := ccq_five (G := Δ1) (fun a ha => by
    obtain ⟨d, o1, -⟩ := okc_toq Δ1 he.1 a ha
    exact tch_pos o1)
  have fR : ∃ v ∈ frg xr1 (tch C), xt (Γ0.length + 1) C ≤ v.1 ∧ xa 0 (fun _ => 1 + 1) 3 1 (Γ0.length + 1) C ≤ v.2 := xr_form (n1 := fun _ => 1 + 1) (hv := 1) xr1_ok (tbs1 true).2.2.2.1 (tbs1 true).2.2.2.2.1 _ C (Γ0.length + 1) (Nat.le_refl _) oC k40
  have fG : ∃ v ∈ frg xrq (tch C), xt (Γ0.length + 1) C ≤ v.1 ∧ xa 1 ngc 1 0 (Γ0.length + 1) C ≤ v.2 := xr_form (n1 := ngc) (hv := 0) xrq_ok tbsq.2.2.2.1 tbsq.2.2.2.2.1 _ C (Γ0.length + 1) (Nat.le_refl _) oC k40
  have nb : ∀ a b : Nat, a ≠ b → Nat.beq a b = false := fun a b hab => by
    cases e : Nat.beq a b with
    | false => rfl
    | true => exact absurd (Nat.eq_of_beq_eq_true e) hab
  have nl : ∀ a b : Nat, b ≤ a → Nat.blt a b = false := fun a b hab => by
    cases e : Nat.blt a b with
    | false => rfl
    | true => exact (blt_no hab e).elim
  have hl : Δ.length = 0 ∨ 1 ≤ Δ.length := by omega
  by_cases nD : Δ = []
  · have m6 := m6 nD
    have d0 : dch Δ = 0 := by rw [nD]; rfl
    by_cases m13 : mch t ≤ 13
    · rcases cvA_get (cvA2_all (c := ccq (cxs Δ1 Γ0 b)) (by omega) (by omega)) pB pC b3 c3 ho g0 g1 (by omega) with q | q
      rotate_left
      · right
        have e9 : Δ.isEmpty = true := by rw [nD]; rfl
        unfold inBA
        rw [e9, if_pos rfl]
        exact q
      left
      obtain ⟨e, he9, z⟩ := List.any_eq_true.mp q
      have o := okA2_all h20 (c := ccq (cxs Δ1 Γ0 b)) (by omega)
      unfold okA2 at o
      have o := rng_all o (i := mch t) (by omega)
      rw [nl (mch t) 6 m6, nl 53 (ccq (cxs Δ1 Γ0 b) + 2 * mch t) (by omega)] at o
      simp only [Bool.false_or] at o
      have o := List.all_eq_true.mp o e he9
      rw [Bool.and_eq_true] at o
      unfold eqc at z
      rw [Bool.and_eq_true] at z
      refine fun S hS => ?_
      have ch : CHo f t [] := by
        rw [nD] at w hS
        exact cl_thirteen he.1 w tn hS m13
      exact zone_joQ (cd := 0) fR fG lb w he (Or.inl ⟨rfl, nD⟩) tn (by rw [nD]; exact Nat.zero_le _) ch (qts_liz z.1) (qts_liz z.2) o.1 o.2 (by omega) (by omega) (by omega) (by omega) (by omega) S hS
    · rcases cvA_get (cvA5_all (c := ccq (cxs Δ1 Γ0 b)) (by omega) (by omega)) pB pC b3 c3 ho g0 g1 (by omega) with q | q
      rotate_left
      · exact absurd q (by simp [inA])
      left
      obtain ⟨e, he9, z⟩ := List.any_eq_true.mp q
      have o := okA5_all h20 (c := ccq (cxs Δ1 Γ0 b)) (by omega)
      unfold okA5 at o
      have o := rng_all o (i := mch t) (by omega)
      rw [nl (mch t) 14 (by omega), nl 53 (ccq (cxs Δ1 Γ0 b) + 2 * mch t) (by omega)] at o
      simp only [Bool.false_or] at o
      have o := List.all_eq_true.mp o e he9
      rw [Bool.and_eq_true, Bool.and_eq_true, Bool.and_eq_true] at o
      unfold eqk eqc at z
      rw [Bool.and_eq_true, Bool.and_eq_true, Bool.and_eq_true, Bool.and_eq_true, Bool.and_eq_true, Bool.and_eq_true] at z
      obtain ⟨o2, o1, tR, tG⟩ := o
      obtain ⟨⟨z1, z2, z3, z4, z5⟩, zR, zG⟩ := z
      have o2 := Nat.le_of_ble_eq_true o2
      have o1 := Nat.le_of_ble_eq_true o1
      have z1 := Nat.le_of_ble_eq_true z1
      have z2 := Nat.le_of_ble_eq_true z2
      have z3 := Nat.le_of_ble_eq_true z3
      have z4 := Nat.le_of_ble_eq_true z4
      have z5 := Nat.le_of_ble_eq_true z5
      exact zone_jqnQ fR fG lb w he tn nD (K := e.1.2.1) (La := max 5 (mch t - 9)) o1 o2 z1 z2 z3 z4 (by omega) (by omega) (by omega) (by omega) (qts_liz zR) (qts_liz zG) tR tG (by omega) (by omega) (by omega)
  have d5 : 5 ≤ dch Δ := dch_five he nD
  by_cases cd : 10 ≤ 53 - ccq (cxs Δ1 Γ0 b) - 2 * mch t
  · by_cases m7 : mch t ≤ 7
    · rcases cvA_get (cvA0_all (c := ccq (cxs Δ1 Γ0 b)) (by omega) (by omega)) pB pC b3 c3 ho g0 g1 (by omega) with q | q
      rotate_left
      · right
        have e9 : Δ.isEmpty = false := by
          cases Δ with
          | nil => exact absurd rfl nD
          | cons => rfl
        unfold inBA
        rw [e9, if_neg (by decide), if_pos (Nat.ble_eq_true_of_le cd)]
        exact q
      left
      obtain ⟨e, he9, z⟩ := List.any_eq_true.mp q
      have o := okA0_all h20 (c := ccq (cxs Δ1 Γ0 b)) (by omega)
      unfold okA0 at o
      have o := rng_all o (i := mch t) (by omega)
      rw [nb (mch t) 0 (by omega), nl (53 - ccq (cxs Δ1 Γ0 b) - 2 * mch t) 10 cd] at o
      simp only [Bool.false_or] at o
      have o := List.all_eq_true.mp o e he9
      rw [Bool.and_eq_true] at o
      unfold eqc at z
      rw [Bool.and_eq_true] at z
      have ch : CHo f t [] := Classical.byContradiction (fun n => by
        have := cho_min _ _ _ _ _ w n
        simp only [List.length_nil] at this
        omega)
      exact zone_jmQ (cd := 53 - ccq (cxs Δ1 Γ0 b) - 2 * mch t) fR fG lb w he (Or.inr ⟨rfl, nD⟩) ch (qts_liz z.1) (qts_liz z.2) o.1 o.2 (by omega) (by omega) (by omega) (by omega) (by omega)
    · rcases cvA_get (cvA3_all (c := ccq (cxs Δ1 Γ0 b)) (by omega) (by omega)) pB pC b3 c3 ho g0 g1 (by omega) with q | q
      rotate_left
      · exact absurd q (by simp [inA])
      left
      obtain ⟨e, he9, z⟩ := List.any_eq_true.mp q
      have o := okA3_all h20 (c := ccq (cxs Δ1 Γ0 b)) (by omega)
      unfold okA3 at o
      have o := rng_all o (i := mch t) (by omega)
      rw [nl (mch t) 8 (by omega), nl (53 - ccq (cxs Δ1 Γ0 b) - 2 * mch t) 10 cd] at o
      simp only [Bool.false_or] at o
      have o := List.all_eq_true.mp o e he9
      rw [Bool.and_eq_true, Bool.and_eq_true, Bool.and_eq_true, Bool.and_eq_true] at o
      unfold eqk eqc at z
      rw [Bool.and_eq_true, Bool.and_eq_true, Bool.and_eq_true, Bool.and_eq_true, Bool.and_eq_true, Bool.and_eq_true] at z
      obtain ⟨o2, o1, o3, tR, tG⟩ := o
      obtain ⟨⟨z1, z2, z3, z4, z5⟩, zR, zG⟩ := z
      have o2 := Nat.le_of_ble_eq_true o2
      have o1 := Nat.le_of_ble_eq_true o1
      have o3 := Nat.le_of_ble_eq_true o3
      have z1 := Nat.le_of_ble_eq_true z1
      have z2 := Nat.le_of_ble_eq_true z2
      have z3 := Nat.le_of_ble_eq_true z3
      have z4 := Nat.le_of_ble_eq_true z4
      have z5 := Nat.le_of_ble_eq_true z5
      exact zone_jqQ (cd := 53 - ccq (cxs Δ1 Γ0 b) - 2 * mch t) fR fG lb w he nD (K := e.1.2.1) (La := max 3 (mch t - 7)) o1 o2 z1 z2 z3 z4 (by omega) (by omega) (by omega) (by omega) (by omega) (qts_liz zR) (qts_liz zG) tR tG (by omega) (by omega) (by omega) (by omega) (by omega)
  obtain ⟨a9, ea⟩ := dch_one he nD (by omega)
  have l1 : Δ.length ≤ 1 := by rw [ea]; exact Nat.le_refl _
  by_cases m8 : mch t ≤ 8
  · rcases cvA_get (cvA1_all (c := ccq (cxs Δ1 Γ0 b)) (by omega) (by omega)) pB pC b3 c3 ho g0 g1 (by omega) with q | q
    rotate_left
    · right
      have e9 : Δ.isEmpty = false := by
        cases Δ with
        | nil => exact absurd rfl nD
        | cons => rfl
      unfold inBA
      rw [e9, if_neg (by decide), if_neg (fun q9 => cd (Nat.le_of_ble_eq_true q9))]
      exact q
    left
    obtain ⟨e, he9, z⟩ := List.any_eq_true.mp q
    have o := okA1_all h20 (c := ccq (cxs Δ1 Γ0 b)) (by omega)
    unfold okA1 at o
    have o := rng_all o (i := mch t) (by omega)
    rw [nb (mch t) 0 (by omega), nl 9 (53 - ccq (cxs Δ1 Γ0 b) - 2 * mch t) (by omega), nl (53 - ccq (cxs Δ1 Γ0 b) - 2 * mch t) 5 (by omega)] at o
    simp only [Bool.false_or] at o
    have o := List.all_eq_true.mp o e he9
    rw [Bool.and_eq_true] at o
    unfold eqc at z
    rw [Bool.and_eq_true] at z
    have ch : CHo f t [] := Classical.byContradiction (fun n => by
      have w1 := w
      rw [ea] at w1
      have := cho_min9 _ _ _ _ _ w1 tn n
      simp only [List.length_nil] at this
      omega)
    exact zone_joQ (cd := 53 - ccq (cxs Δ1 Γ0 b) - 2 * mch t) fR fG lb w he (Or.inr ⟨rfl, nD⟩) tn l1 ch (qts_liz z.1) (qts_liz z.2) o.1 o.2 (by omega) (by omega) (by omega) (by omega) (by omega)
  · rcases cvA_get (cvA4_all (c := ccq (cxs Δ1 Γ0 b)) (by omega) (by omega)) pB pC b3 c3 ho g0 g1 (by omega) with q | q
    rotate_left
    · exact absurd q (by simp [inA])
    left
    obtain ⟨e, he9, z⟩ := List.any_eq_true.mp q
    have o := okA4_all h20 (c := ccq (cxs Δ1 Γ0 b)) (by omega)
    unfold okA4 at o
    have o := rng_all o (i := mch t) (by omega)
    rw [nl (mch t) 9 (by omega), nl 9 (53 - ccq (cxs Δ1 Γ0 b) - 2 * mch t) (by omega), nl (53 - ccq (cxs Δ1 Γ0 b) - 2 * mch t) 5 (by omega)] at o
    simp only [Bool.false_or] at o
    have o := List.all_eq_true.mp o e he9
    rw [Bool.and_eq_true, Bool.and_eq_true, Bool.and_eq_true, Bool.and_eq_true] at o
    unfold eqk eqc at z
    rw [Bool.and_eq_true, Bool.and_eq_true, Bool.and_eq_true, Bool.and_eq_true, Bool.and_eq_true, Bool.and_eq_true] at z
    obtain ⟨o2, o1, o3, tR, tG⟩ := o
    obtain ⟨⟨z1, z2, z3, z4, z5⟩, zR, zG⟩ := z
    have o2 := Nat.le_of_ble_eq_true o2
    have o1 := Nat.le_of_ble_eq_true o1
    have o3 := Nat.le_of_ble_eq_true o3
    have z1 := Nat.le_of_ble_eq_true z1
    have z2 := Nat.le_of_ble_eq_true z2
    have z3 := Nat.le_of_ble_eq_true z3
    have z4 := Nat.le_of_ble_eq_true z4
    have z5 := Nat.le_of_ble_eq_true z5
    exact zone_jqoQ (cd := 53 - ccq (cxs Δ1 Γ0 b) - 2 * mch t) fR fG lb w he nD tn l1 (K := e.1.2.1) (La := max 3 (mch t - 8)) o1 o2 z1 z2 z3 z4 (by omega) (by omega) (by omega) (by omega) (by omega) (qts_liz zR) (qts_liz zG) tR tG (by omega) (by omega) (by omega) (by omega) (by omega)
end PmZo1a
