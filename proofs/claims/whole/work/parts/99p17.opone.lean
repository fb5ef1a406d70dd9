/-! ONE SHORT BINDER BEHIND THE SCHEME. -/
theorem fr1_four : (List.range 5).all (fun t => (frg fr1 t).all (fun p => Nat.ble (p.2 + p.1 * 4) 7)) = true := by decide +kernel
theorem frq_four : (List.range 5).all (fun t => (frg frq t).all (fun p => Nat.ble (p.2 + p.1 * 4) 7)) = true := by decide +kernel
section PmPk
variable {h : Nat} {Γ0 : List Ty} {B C S T W : Ty}
theorem z_base (b : Bool) (hc : okc (tAll B tTop :: Γ0)) (k0 : cch Γ0 ≤ 8) : ∀ j, j < (tAll B tTop :: Γ0).length → vw (onz 0 (fun _ => 1 + 1) (2 + 1) (vlr b 1) (tAll B tTop :: Γ0)) j ≤ 4 := by
  intro i hi
  have T := tbs1 b
  show vw (vlr b 1 (nz 0 (fun _ => 1 + 1) (2 + 1) (vlr b 1) (onz 0 (fun _ => 1 + 1) (2 + 1) (vlr b 1) Γ0) (tAll B tTop)) :: onz 0 (fun _ => 1 + 1) (2 + 1) (vlr b 1) Γ0) i ≤ 4
  rw [vw_cons]
  by_cases e : i = (onz 0 (fun _ => 1 + 1) (2 + 1) (vlr b 1) Γ0).length
  · rw [if_pos e, nz_all, nz_top]
    cases b <;> decide
  · rw [if_neg e]
    rw [onz_len] at e
    rw [List.length_cons] at hi
    have u := onz_chars (t0 := 0) (n1 := fun _ => 1 + 1) (s2 := 2 + 1) (h := vlr b 1) T.1 T.2.1 T.2.2.1 T.2.2.2.1 T.2.2.2.2.1 Γ0 hc.2 (by omega) i (by omega)
    exact Nat.le_trans u (Nat.le_trans (fxc_le T.2.1 (d := 8) k0 (by decide)) (by decide))
theorem z_baseq (hc : okc (tAll B tTop :: Γ0)) (k0 : cch Γ0 ≤ 8) : ∀ j, j < (tAll B tTop :: Γ0).length → vw (onz 1 ngc 1 (fun y => y) (tAll B tTop :: Γ0)) j ≤ 4 := by
  intro i hi
  have T := tbsq
  show vw ((nz 1 ngc 1 (fun y => y) (onz 1 ngc 1 (fun y => y) Γ0) (tAll B tTop)) :: onz 1 ngc 1 (fun y => y) Γ0) i ≤ 4
  rw [vw_cons]
  by_cases e : i = (onz 1 ngc 1 (fun y => y) Γ0).length
  · rw [if_pos e, nz_all, nz_top]
    decide
  · rw [if_neg e]
    rw [onz_len] at e
    rw [List.length_cons] at hi
    have u := onz_chars T.1 T.2.1 T.2.2.1 T.2.2.2.1 T.2.2.2.2.1 Γ0 hc.2 (by omega) i (by omega)
    exact Nat.le_trans u (Nat.le_trans (fxc_le T.2.1 (d := 8) k0 (by decide)) (by decide))
theorem z_rows1 (b : Bool) (hc : okc (cxs [W] Γ0 (tAll B tTop))) (k0 : cch Γ0 ≤ 8) (kW : tch W ≤ 4) : ∀ j, j < (cxs [W] Γ0 (tAll B tTop)).length → vw (onz 0 (fun _ => 1 + 1) (2 + 1) (vlr b 1) (cxs [W] Γ0 (tAll B tTop))) j ≤ 8 := by
  intro j hj
  have T := tbs1 b
  have bs := z_base b hc.2 k0
  have l1 := onz_len 0 (fun _ => 1 + 1) (2 + 1) (vlr b 1) (tAll B tTop :: Γ0)
  show vw (vlr b 1 (nz 0 (fun _ => 1 + 1) (2 + 1) (vlr b 1) (onz 0 (fun _ => 1 + 1) (2 + 1) (vlr b 1) (tAll B tTop :: Γ0)) W) :: onz 0 (fun _ => 1 + 1) (2 + 1) (vlr b 1) (tAll B tTop :: Γ0)) j ≤ 8
  rw [vw_cons]
  by_cases e : j = (onz 0 (fun _ => 1 + 1) (2 + 1) (vlr b 1) (tAll B tTop :: Γ0)).length
  · rw [if_pos e]
    have oW : ok (onz 0 (fun _ => 1 + 1) (2 + 1) (vlr b 1) (tAll B tTop :: Γ0)).length W = true := by rw [l1]; exact hc.1
    obtain ⟨p, hp, f⟩ := fr_form (t0 := 0) (n1 := fun _ => 1 + 1) (s2 := 2 + 1) (h := vlr b 1) T.1 T.2.2.1 T.2.2.2.1 T.2.2.2.2.1 _ W _ (Nat.le_refl _) oW (by omega)
    have q := f 4 _ (by decide) (fun i hi => bs i (by rw [l1] at hi; exact hi)) oW
    have r := Nat.le_of_ble_eq_true (List.all_eq_true.mp (rng_all fr1_four (i := tch W) (by omega)) p hp)
    have v := vlr_H b 1 (nz 0 (fun _ => 1 + 1) (2 + 1) (vlr b 1) (onz 0 (fun _ => 1 + 1) (2 + 1) (vlr b 1) (tAll B tTop :: Γ0)) W) 1 (Nat.le_refl 1)
    omega
  · rw [if_neg e]
    have hj : j < (W :: tAll B tTop :: Γ0).length := hj
    rw [l1] at e
    rw [List.length_cons] at hj
    exact Nat.le_trans (bs j (by omega)) (by decide)
theorem z_goals1 (hc : okc (cxs [W] Γ0 (tAll B tTop))) (k0 : cch Γ0 ≤ 8) (kW : tch W ≤ 4) : ∀ j, j < (cxs [W] Γ0 (tAll B tTop)).length → vw (onz 1 ngc 1 (fun y => y) (cxs [W] Γ0 (tAll B tTop))) j ≤ 7 := by
  intro j hj
  have T := tbsq
  have bs := z_baseq hc.2 k0
  have l1 := onz_len 1 ngc 1 (fun y => y) (tAll B tTop :: Γ0)
  show vw ((nz 1 ngc 1 (fun y => y) (onz 1 ngc 1 (fun y => y) (tAll B tTop :: Γ0)) W) :: onz 1 ngc 1 (fun y => y) (tAll B tTop :: Γ0)) j ≤ 7
  rw [vw_cons]
  by_cases e : j = (onz 1 ngc 1 (fun y => y) (tAll B tTop :: Γ0)).length
  · rw [if_pos e]
    have oW : ok (onz 1 ngc 1 (fun y => y) (tAll B tTop :: Γ0)).length W = true := by rw [l1]; exact hc.1
    obtain ⟨p, hp, f⟩ := fr_form T.1 T.2.2.1 T.2.2.2.1 T.2.2.2.2.1 _ W _ (Nat.le_refl _) oW (by omega)
    have q := f 4 _ (by decide) (fun i hi => bs i (by rw [l1] at hi; exact hi)) oW
    have r := Nat.le_of_ble_eq_true (List.all_eq_true.mp (rng_all frq_four (i := tch W) (by omega)) p hp)
    omega
  · rw [if_neg e]
    have hj : j < (W :: tAll B tTop :: Γ0).length := hj
    rw [l1] at e
    rw [List.length_cons] at hj
    exact Nat.le_trans (bs j (by omega)) (by decide)
theorem LJ_z1 (z : ZH h B C Γ0) (tb : TB 1 (cxs [W] Γ0 (tAll B C), S, T)) (hx : cch (cxs [W] Γ0 (tAll B C)) ≤ 56) (lS : (flat S).length ≤ 16) (lT : (flat T).length ≤ 16) (k0 : cch Γ0 ≤ 8) (kW : tch W ≤ 4) : LJ (cxs [W] Γ0 (tAll B C)) S T := by
  have hc := cxz_okc [W] tb.1.1
  exact LJ_nodes z tb hx lS lT (fun b => z_rows1 b hc k0 kW) (z_goals1 hc k0 kW)
theorem LB_z1 (z : ZH h B C Γ0) (tb : TB 1 (cxs [W] Γ0 (tAll B C), S, T)) (hx : cch (cxs [W] Γ0 (tAll B C)) ≤ 56) (lS : (flat S).length ≤ 16) (lT : (flat T).length ≤ 16) (k0 : cch Γ0 ≤ 8) (kW : tch W ≤ 4) : LB (cxs [W] Γ0 (tAll B C)) S T := by
  have hc := cxz_okc [W] tb.1.1
  exact LB_nodes z tb hx lS lT (z_rows1 true hc k0 kW)
end PmPk
