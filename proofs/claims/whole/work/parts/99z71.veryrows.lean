/-! Such bodies, by the tables of 99z50. -/
theorem sn_rows {B C : Ty} {d : Nat} (oB : ok 0 B = true) (b2 : 2 ≤ tch B) (b16 : tch B ≤ 16) (oC : ok d C = true) (k40 : tch C ≤ 40) (h : sN B 0 d C = true) : ∃ v ∈ frg (sfR (tch B)) (tch C), xt d C ≤ v.1 ∧ xa 0 (fun _ => 1 + 1) 3 1 d C ≤ v.2 := by
  have T := tbs1 true
  unfold sfR
  by_cases c2 : tch B ≤ 3
  · rw [if_pos (Nat.ble_eq_true_of_le c2)]
    exact xn_form (n1 := fun _ => 1 + 1) (hv := 1) xr1_ok sf12_ok (mnf_le sf12_m) T.2.2.2.1 T.2.2.2.2.1 ⟨oB, by omega, XF_l0 (aB := 2) xr1_ok T.2.2.2.1 T.2.2.2.2.1 oB (by omega) (by rcases (show tch B = 2 ∨ tch B = 3 by omega) with e | e <;> (rw [e]; decide +kernel))⟩ _ C d (Nat.le_refl _) oC k40 h
  rw [if_neg (by intro q; exact c2 (Nat.le_of_ble_eq_true q))]
  by_cases c4 : tch B ≤ 4
  · rw [if_pos (Nat.ble_eq_true_of_le c4)]
    exact xn_form (n1 := fun _ => 1 + 1) (hv := 1) xr1_ok sf14_ok (mnf_le sf14_m) T.2.2.2.1 T.2.2.2.2.1 ⟨oB, by omega, XF_l0 (aB := 2) xr1_ok T.2.2.2.1 T.2.2.2.2.1 oB (by omega) (by rw [show tch B = 4 by omega]; decide +kernel)⟩ _ C d (Nat.le_refl _) oC k40 h
  rw [if_neg (by intro q; exact c4 (Nat.le_of_ble_eq_true q))]
  by_cases c5 : tch B ≤ 6
  · rw [if_pos (Nat.ble_eq_true_of_le c5)]
    exact xn_form (n1 := fun _ => 1 + 1) (hv := 1) xr1_ok sf15_ok (mnf_le sf15_m) T.2.2.2.1 T.2.2.2.2.1 ⟨oB, by omega, XF_l0 (aB := 5) xr1_ok T.2.2.2.1 T.2.2.2.2.1 oB (by omega) (by rcases (show tch B = 5 ∨ tch B = 6 by omega) with e | e <;> (rw [e]; decide +kernel))⟩ _ C d (Nat.le_refl _) oC k40 h
  rw [if_neg (by intro q; exact c5 (Nat.le_of_ble_eq_true q))]
  by_cases c7 : tch B ≤ 8
  · rw [if_pos (Nat.ble_eq_true_of_le c7)]
    exact xn_form (n1 := fun _ => 1 + 1) (hv := 1) xr1_ok sf17_ok (mnf_le sf17_m) T.2.2.2.1 T.2.2.2.2.1 ⟨oB, by omega, XF_l0 (aB := 6) xr1_ok T.2.2.2.1 T.2.2.2.2.1 oB (by omega) (by rcases (show tch B = 7 ∨ tch B = 8 by omega) with e | e <;> (rw [e]; decide +kernel))⟩ _ C d (Nat.le_refl _) oC k40 h
  rw [if_neg (by intro q; exact c7 (Nat.le_of_ble_eq_true q))]
  by_cases c9 : tch B ≤ 11
  · rw [if_pos (Nat.ble_eq_true_of_le c9)]
    exact xn_form (n1 := fun _ => 1 + 1) (hv := 1) xr1_ok sf19_ok (mnf_le sf19_m) T.2.2.2.1 T.2.2.2.2.1 ⟨oB, by omega, XF_l0 (aB := 11) xr1_ok T.2.2.2.1 T.2.2.2.2.1 oB (by omega) (by rcases (show tch B = 9 ∨ tch B = 10 ∨ tch B = 11 by omega) with e | e | e <;> (rw [e]; decide +kernel))⟩ _ C d (Nat.le_refl _) oC k40 h
  rw [if_neg (by intro q; exact c9 (Nat.le_of_ble_eq_true q))]
  exact xn_form (n1 := fun _ => 1 + 1) (hv := 1) xr1_ok sf112_ok (mnf_le sf112_m) T.2.2.2.1 T.2.2.2.2.1 ⟨oB, by omega, XF_l0 (aB := 19) xr1_ok T.2.2.2.1 T.2.2.2.2.1 oB (by omega) (by rcases (show tch B = 12 ∨ tch B = 13 ∨ tch B = 14 ∨ tch B = 15 ∨ tch B = 16 by omega) with e | e | e | e | e <;> (rw [e]; decide +kernel))⟩ _ C d (Nat.le_refl _) oC k40 h
theorem sn_goals {B C : Ty} {d : Nat} (oB : ok 0 B = true) (b2 : 2 ≤ tch B) (b16 : tch B ≤ 16) (oC : ok d C = true) (k40 : tch C ≤ 40) (h : sN B 0 d C = true) : ∃ v ∈ frg (sfG (tch B)) (tch C), xt d C ≤ v.1 ∧ xa 1 ngc 1 0 d C ≤ v.2 := by
  have T := tbsq
  unfold sfG
  by_cases c2 : tch B ≤ 3
  · rw [if_pos (Nat.ble_eq_true_of_le c2)]
    exact xn_form (n1 := ngc) (hv := 0) xrq_ok sfq2_ok (mnf_le sfq2_m) T.2.2.2.1 T.2.2.2.2.1 ⟨oB, by omega, XF_l0 (aB := 1) xrq_ok T.2.2.2.1 T.2.2.2.2.1 oB (by omega) (by rcases (show tch B = 2 ∨ tch B = 3 by omega) with e | e <;> (rw [e]; decide +kernel))⟩ _ C d (Nat.le_refl _) oC k40 h
  rw [if_neg (by intro q; exact c2 (Nat.le_of_ble_eq_true q))]
  by_cases c4 : tch B ≤ 4
  · rw [if_pos (Nat.ble_eq_true_of_le c4)]
    exact xn_form (n1 := ngc) (hv := 0) xrq_ok sfq4_ok (mnf_le sfq4_m) T.2.2.2.1 T.2.2.2.2.1 ⟨oB, by omega, XF_l0 (aB := 4) xrq_ok T.2.2.2.1 T.2.2.2.2.1 oB (by omega) (by rw [show tch B = 4 by omega]; decide +kernel)⟩ _ C d (Nat.le_refl _) oC k40 h
  rw [if_neg (by intro q; exact c4 (Nat.le_of_ble_eq_true q))]
  by_cases c5 : tch B ≤ 6
  · rw [if_pos (Nat.ble_eq_true_of_le c5)]
    exact xn_form (n1 := ngc) (hv := 0) xrq_ok sfq5_ok (mnf_le sfq5_m) T.2.2.2.1 T.2.2.2.2.1 ⟨oB, by omega, XF_l0 (aB := 4) xrq_ok T.2.2.2.1 T.2.2.2.2.1 oB (by omega) (by rcases (show tch B = 5 ∨ tch B = 6 by omega) with e | e <;> (rw [e]; decide +kernel))⟩ _ C d (Nat.le_refl _) oC k40 h
  rw [if_neg (by intro q; exact c5 (Nat.le_of_ble_eq_true q))]
  by_cases c7 : tch B ≤ 8
  · rw [if_pos (Nat.ble_eq_true_of_le c7)]
    exact xn_form (n1 := ngc) (hv := 0) xrq_ok sfq7_ok (mnf_le sfq7_m) T.2.2.2.1 T.2.2.2.2.1 ⟨oB, by omega, XF_l0 (aB := 7) xrq_ok T.2.2.2.1 T.2.2.2.2.1 oB (by omega) (by rcases (show tch B = 7 ∨ tch B = 8 by omega) with e | e <;> (rw [e]; decide +kernel))⟩ _ C d (Nat.le_refl _) oC k40 h
  rw [if_neg (by intro q; exact c7 (Nat.le_of_ble_eq_true q))]
  by_cases c9 : tch B ≤ 11
  · rw [if_pos (Nat.ble_eq_true_of_le c9)]
    exact xn_form (n1 := ngc) (hv := 0) xrq_ok sfq9_ok (mnf_le sfq9_m) T.2.2.2.1 T.2.2.2.2.1 ⟨oB, by omega, XF_l0 (aB := 10) xrq_ok T.2.2.2.1 T.2.2.2.2.1 oB (by omega) (by rcases (show tch B = 9 ∨ tch B = 10 ∨ tch B = 11 by omega) with e | e | e <;> (rw [e]; decide +kernel))⟩ _ C d (Nat.le_refl _) oC k40 h
  rw [if_neg (by intro q; exact c9 (Nat.le_of_ble_eq_true q))]
  exact xn_form (n1 := ngc) (hv := 0) xrq_ok sfq12_ok (mnf_le sfq12_m) T.2.2.2.1 T.2.2.2.2.1 ⟨oB, by omega, XF_l0 (aB := 16) xrq_ok T.2.2.2.1 T.2.2.2.2.1 oB (by omega) (by rcases (show tch B = 12 ∨ tch B = 13 ∨ tch B = 14 ∨ tch B = 15 ∨ tch B = 16 by omega) with e | e | e | e | e <;> (rw [e]; decide +kernel))⟩ _ C d (Nat.le_refl _) oC k40 h
