/-! THE OTHER VARIABLES ARE LIGHT: by characters. -/
section PmPh
variable {N t0 fn s2 hv r0 r1 r2 r3 x0 c0 : Nat} {n1 h : Nat → Nat} {P Q : List (List Nat)} {F G : FrT} {X : List Nat} {Γ0 : List Ty} {β : Ty}
theorem onz_cx (T : TBs N t0 fn s2 hv r0 r1 r2 r3 x0 n1 h P Q F G X) (h0 : ∀ j, j < (β :: Γ0).length → vw (onz t0 n1 s2 h (β :: Γ0)) j ≤ X.getD c0 0) : ∀ (Δ : List Ty), okc (cxs Δ Γ0 β) → c0 + cch Δ ≤ 56 → ∀ j, j < (cxs Δ Γ0 β).length → vw (onz t0 n1 s2 h (cxs Δ Γ0 β)) j ≤ X.getD (c0 + cch Δ) 0
  | [], _, _, j, hj => h0 j hj
  | a :: Δ, hc, hk, j, hj => by
    have hk : c0 + ((tch a + 4) + cch Δ) ≤ 56 := hk
    have ih := onz_cx T h0 Δ hc.2 (by omega)
    have l1 := onz_len t0 n1 s2 h (cxs Δ Γ0 β)
    have oa : ok (onz t0 n1 s2 h (cxs Δ Γ0 β)).length a = true := by rw [l1]; exact hc.1
    have u := (val_up (z := 0) (cv := c0 + cch Δ) (c := c0 + ((tch a + 4) + cch Δ)) T (A := a) oa (by omega) hk (fun i hi => ih i (by rw [l1] at hi; exact hi)) (Nat.zero_le _)).2
    rw [hzx_0] at u
    show vw (h (nz t0 n1 s2 h (onz t0 n1 s2 h (cxs Δ Γ0 β)) a) :: onz t0 n1 s2 h (cxs Δ Γ0 β)) j ≤ X.getD (c0 + ((tch a + 4) + cch Δ)) 0
    rw [vw_cons]
    by_cases e : j = (onz t0 n1 s2 h (cxs Δ Γ0 β)).length
    · rw [if_pos e]; exact u
    · rw [if_neg e]
      have hj : j < (a :: cxs Δ Γ0 β).length := hj
      rw [List.length_cons] at hj
      have q := ih j (by rw [l1] at e; omega)
      exact Nat.le_trans q (fxc_le T.2.1 (by omega) hk)
end PmPh
section PmPi
variable {h c0 : Nat} {Γ0 Δ : List Ty} {B C S T : Ty}
theorem z_rows (b : Bool) (hc : okc (cxs Δ Γ0 (tAll B tTop))) (c8 : 8 ≤ c0) (k0 : cch Γ0 ≤ c0) (k1 : c0 + cch Δ ≤ 13) : ∀ j, j < (cxs Δ Γ0 (tAll B tTop)).length → vw (onz 0 (fun _ => 1 + 1) (2 + 1) (vlr b 1) (cxs Δ Γ0 (tAll B tTop))) j ≤ 8 := by
  intro j hj
  have hT : okc Γ0 := by
    have : ∀ Δ : List Ty, okc (cxs Δ Γ0 (tAll B tTop)) → okc Γ0 := by
      intro Δ
      induction Δ with
      | nil => exact fun q => q.2
      | cons a Δ ih => exact fun q => ih q.2
    exact this Δ hc
  have T := tbs1 b
  have q := onz_cx (c0 := c0) T (β := tAll B tTop) (Γ0 := Γ0) (fun i hi => by
    show vw (vlr b 1 (nz 0 (fun _ => 1 + 1) (2 + 1) (vlr b 1) (onz 0 (fun _ => 1 + 1) (2 + 1) (vlr b 1) Γ0) (tAll B tTop)) :: onz 0 (fun _ => 1 + 1) (2 + 1) (vlr b 1) Γ0) i ≤ fx1.getD c0 0
    rw [vw_cons]
    by_cases e : i = (onz 0 (fun _ => 1 + 1) (2 + 1) (vlr b 1) Γ0).length
    · rw [if_pos e, nz_all, nz_top]
      refine Nat.le_trans ?_ (fxc_le T.2.1 (c := 8) (d := c0) c8 (by omega))
      cases b <;> decide
    · rw [if_neg e]
      rw [onz_len] at e
      rw [List.length_cons] at hi
      have u := onz_chars (t0 := 0) (n1 := fun _ => 1 + 1) (s2 := 2 + 1) (h := vlr b 1) T.1 T.2.1 T.2.2.1 T.2.2.2.1 T.2.2.2.2.1 Γ0 hT (by omega) i (by omega)
      exact Nat.le_trans u (fxc_le T.2.1 (d := c0) k0 (by omega))) Δ hc (by omega) j hj
  exact Nat.le_trans q (fxc_le T.2.1 (d := 13) (by omega) (by decide))
theorem z_goals (hc : okc (cxs Δ Γ0 (tAll B tTop))) (c8 : 8 ≤ c0) (k0 : cch Γ0 ≤ c0) (k1 : c0 + cch Δ ≤ 13) : ∀ j, j < (cxs Δ Γ0 (tAll B tTop)).length → vw (onz 1 ngc 1 (fun y => y) (cxs Δ Γ0 (tAll B tTop))) j ≤ 7 := by
  intro j hj
  have hT : okc Γ0 := by
    have : ∀ Δ : List Ty, okc (cxs Δ Γ0 (tAll B tTop)) → okc Γ0 := by
      intro Δ
      induction Δ with
      | nil => exact fun q => q.2
      | cons a Δ ih => exact fun q => ih q.2
    exact this Δ hc
  have T := tbsq
  have q := onz_cx (c0 := c0) T (β := tAll B tTop) (Γ0 := Γ0) (fun i hi => by
    show vw ((nz 1 ngc 1 (fun y => y) (onz 1 ngc 1 (fun y => y) Γ0) (tAll B tTop)) :: onz 1 ngc 1 (fun y => y) Γ0) i ≤ fxq.getD c0 0
    rw [vw_cons]
    by_cases e : i = (onz 1 ngc 1 (fun y => y) Γ0).length
    · rw [if_pos e, nz_all, nz_top]
      refine Nat.le_trans ?_ (fxc_le T.2.1 (c := 8) (d := c0) c8 (by omega))
      decide
    · rw [if_neg e]
      rw [onz_len] at e
      rw [List.length_cons] at hi
      have u := onz_chars T.1 T.2.1 T.2.2.1 T.2.2.2.1 T.2.2.2.2.1 Γ0 hT (by omega) i (by omega)
      exact Nat.le_trans u (fxc_le T.2.1 (d := c0) k0 (by omega))) Δ hc (by omega) j hj
  exact Nat.le_trans q (fxc_le T.2.1 (d := 13) (by omega) (by decide))
/-- ANY TWO TYPES, where the scheme's body has no scheme with its bound's head, and the other binders are short -/
theorem LJ_z (z : ZH h B C Γ0) (tb : TB 1 (cxs Δ Γ0 (tAll B C), S, T)) (hx : cch (cxs Δ Γ0 (tAll B C)) ≤ 56) (lS : (flat S).length ≤ 16) (lT : (flat T).length ≤ 16) (c8 : 8 ≤ c0) (k0 : cch Γ0 ≤ c0) (k1 : c0 + cch Δ ≤ 13) : LJ (cxs Δ Γ0 (tAll B C)) S T := by
  have hc := cxz_okc Δ tb.1.1
  exact LJ_nodes z tb hx lS lT (fun b => z_rows b hc c8 k0 k1) (z_goals hc c8 k0 k1)
theorem LB_z (z : ZH h B C Γ0) (tb : TB 1 (cxs Δ Γ0 (tAll B C), S, T)) (hx : cch (cxs Δ Γ0 (tAll B C)) ≤ 56) (lS : (flat S).length ≤ 16) (lT : (flat T).length ≤ 16) (c8 : 8 ≤ c0) (k0 : cch Γ0 ≤ c0) (k1 : c0 + cch Δ ≤ 13) : LB (cxs Δ Γ0 (tAll B C)) S T := by
  have hc := cxz_okc Δ tb.1.1
  exact LB_nodes z tb hx lS lT (z_rows true hc c8 k0 k1)
end PmPi
