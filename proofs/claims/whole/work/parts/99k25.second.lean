/-! SECOND USE, one binder: the join of a type that is worth no more than the scheme's body. -/
section PmKp
variable {C S T : Ty}
theorem one_CG (oC : ok 1 C = true) : CGc knt C [] [] := by
  refine ⟨⟨ok_all.mpr ⟨ok_top 0, oC⟩, trivial⟩, ⟨ok_all.mpr ⟨ok_top 0, ct_ok knt _ C 1 (Nat.le_refl _) oC⟩, trivial⟩, ?_⟩
  intro j hj jk
  have hj : j < 1 := hj
  have jk : j ≠ 0 := jk
  omega
theorem one_rows (oC : ok 1 C = true) : ∀ j, j < (onz 0 (fun _ => 1 + 1) (2 + 1) (vlr true 1) (cB knt C [] [])).length → vw (onz 0 (fun _ => 1 + 1) (2 + 1) (vlr true 1) (cB knt C [] [])) j ≤ 4 + cnv 1 C := by
  intro j hj
  have hj : j < 1 := hj
  have e : j = 0 := by omega
  subst e
  show vw (vlr true 1 (nz 0 (fun _ => 1 + 1) (2 + 1) (vlr true 1) [] (tAll tTop (ct knt C))) :: []) 0 ≤ _
  rw [vw_cons, if_pos (show (0 : Nat) = ([] : List Nat).length from rfl), nz_all, nz_top]
  have q : vlr true 1 0 = 1 := rfl
  rw [q]
  have := nz_ct (w := 1) (Nat.le_refl _) _ C [1] (Nat.le_refl _) oC (fun i hi => by
    have hi : i < 1 := hi
    rw [show i = 0 by omega]
    exact Nat.le_refl _)
  have v : ∀ y, vlr true 1 y = max 1 (1 + y) := fun _ => rfl
  rw [v]
  omega
theorem one_goals (oC : ok 1 C = true) : ∀ j, j < (onz 1 ngc 1 (fun x => x) (cB knt C [] [])).length → vw (onz 1 ngc 1 (fun x => x) (cB knt C [] [])) j ≤ 1 + cng 1 C := by
  intro j hj
  have hj : j < 1 := hj
  have e : j = 0 := by omega
  subst e
  show vw (nz 1 ngc 1 (fun x => x) [] (tAll tTop (ct knt C)) :: []) 0 ≤ _
  rw [vw_cons, if_pos (show (0 : Nat) = ([] : List Nat).length from rfl), nz_all, nz_top]
  have := nz_ctg (w := 1) (Nat.le_refl _) _ C [1] (Nat.le_refl _) oC (fun i hi => by
    have hi : i < 1 := hi
    rw [show i = 0 by omega]
    exact Nat.le_refl _)
  omega
theorem sec_join (oC : ok 1 C = true) (hk : tch C ≤ 38) (pC : PNs knt 0 1 C = true) (oS : ok 1 S = true) (oT : ok 1 T = true) (pS : PNs knt 0 1 S = true) (pT : PNs knt 0 1 T = true) (tb : TB 1 (cB knt C [] [], S, T)) (fS : FM 0 (fun _ => 1 + 1) (2 + 1) (vlr true 1) 1 S (flv C) (fav 0 (fun _ => 1 + 1) (2 + 1) 1 C)) (fG : FM 1 ngc 1 (fun x => x) 1 S (flv C) (fav 1 ngc 1 0 C)) : gm (0, [tAll tTop C], S, T) ≤ 742 ∧ gn (0, [tAll tTop C], S, T) ≤ 591 := by
  have cg := one_CG oC
  have h0 : CH0 knt C [] := ⟨knt_lft, knt_top, pC⟩
  obtain ⟨e1, e2⟩ := gm_cut h0 cg (w := 0) (S := S) (T := T) oS oT pS pT
  have e1 : gm (0, [tAll tTop C], S, T) = gm (0, cB knt C [] [], S, T) := e1
  have e2 : gn (0, [tAll tTop C], S, T) = gn (0, cB knt C [] [], S, T) := e2
  rw [e1, e2]
  constructor
  · have a1 := gm_rowsS (e := 1) (Nat.le_refl _) (z := (0, cB knt C [] [], S, T)) tb (Nat.zero_le 1)
    have a2 := urm_nz (b := true) (e := 1) (w := 0) (Γ := cB knt C [] []) (t := S) cg.2.1 oS
    have a3 := fS (4 + cnv 1 C) (onz 0 (fun _ => 1 + 1) (2 + 1) (vlr true 1) (cB knt C [] [])) (by omega) (one_rows oC) oS
    have a4 := cut_val oC hk
    exact Nat.le_trans a1 (Nat.le_trans a2 (Nat.le_trans a3 a4))
  · have a1 := gn_S (z := (0, cB knt C [] [], S, T)) tb.1 (Nat.zero_le 1)
    have a2 := ugS_nz (w := 0) (Γ := cB knt C [] []) (S := S) (T := T) cg.2.1 oS
    have a3 := fG (1 + cng 1 C) (onz 1 ngc 1 (fun x => x) (cB knt C [] [])) (by omega) (one_goals oC) oS
    have a4 := cut_goal oC hk
    exact Nat.le_trans a1 (Nat.le_trans a2 (Nat.le_trans a3 a4))
end PmKp
