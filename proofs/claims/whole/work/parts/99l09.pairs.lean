/-! TWO TERMS: a join, a comparison, by the shorter one. -/
theorem len_cch : ∀ (Γ : List Ty), Γ.length ≤ cch Γ
  | [] => Nat.le_refl _
  | b :: Γ => by
    have := len_cch Γ
    show Γ.length + 1 ≤ (tch b + 4) + cch Γ
    omega
section PmL9
variable {Γ : List Ty} {S T : Ty} {e : Nat}
/-- by the left side -/
theorem LJ_S (e1 : 1 ≤ e) (tb : TB e (Γ, S, T)) (hx : cch Γ ≤ 56) (lS : (flat S).length ≤ 16) (lT : (flat T).length ≤ 16) (q1 : nz 0 (fun _ => 1 + e) (2 + e) (vlr true e) (onz 0 (fun _ => 1 + e) (2 + e) (vlr true e) Γ) S ≤ 830) (q2 : nz 1 ngc 1 (fun x => x) (onz 1 ngc 1 (fun x => x) Γ) S ≤ 597) : LJ Γ S T := by
  have a1 := hgt_ctx tb.1.1 tb.1.2.1 lS hx
  have a2 := hgt_ctx tb.1.1 tb.1.2.2 lT hx
  have a3 := Nat.le_trans (gm_rowsS e1 (z := (0, Γ, S, T)) tb (Nat.zero_le 1)) (Nat.le_trans (urm_nz (b := true) (e := e) (w := 0) tb.1.1 tb.1.2.1) q1)
  have a4 := Nat.le_trans (gn_S (z := (0, Γ, S, T)) tb.1 (Nat.zero_le 1)) (Nat.le_trans (ugS_nz tb.1.1 tb.1.2.1) q2)
  exact ⟨Nat.le_trans (Nat.add_le_add a1 a2) (by decide), a3, Nat.add_le_add_right a4 3⟩
/-- by the right side -/
theorem LJ_T (e1 : 1 ≤ e) (tb : TB e (Γ, S, T)) (hx : cch Γ ≤ 56) (lS : (flat S).length ≤ 16) (lT : (flat T).length ≤ 16) (q1 : nz 0 (fun _ => 1 + e) (2 + e) (vlr false e) (onz 0 (fun _ => 1 + e) (2 + e) (vlr false e) Γ) T ≤ 830) (q2 : nz 1 ngc 1 (fun x => x) (onz 1 ngc 1 (fun x => x) Γ) T ≤ 597) : LJ Γ S T := by
  have a1 := hgt_ctx tb.1.1 tb.1.2.1 lS hx
  have a2 := hgt_ctx tb.1.1 tb.1.2.2 lT hx
  have a3 := Nat.le_trans (gm_rowsT e1 (z := (0, Γ, S, T)) tb (Nat.zero_le 1)) (Nat.le_trans (urm_nz (b := false) (e := e) (w := 0) tb.1.1 tb.1.2.2) q1)
  have a4 := Nat.le_trans (gn_T (z := (0, Γ, S, T)) tb.1 (Nat.zero_le 1)) (Nat.le_trans (ugT_nz tb.1.1 tb.1.2.2) q2)
  exact ⟨Nat.le_trans (Nat.add_le_add a1 a2) (by decide), a3, Nat.add_le_add_right a4 3⟩
/-- a comparison, by either side -/
theorem LB_ST (tb : TB e (Γ, S, T)) (hx : cch Γ ≤ 56) (lS : (flat S).length ≤ 16) (lT : (flat T).length ≤ 16) (q : (∃ b, nz 0 (fun _ => 1 + e) (2 + e) (vlr b e) (onz 0 (fun _ => 1 + e) (2 + e) (vlr b e) Γ) S ≤ 830) ∨ (∃ b, nz 0 (fun _ => 1 + e) (2 + e) (vlr b e) (onz 0 (fun _ => 1 + e) (2 + e) (vlr b e) Γ) T ≤ 830)) : LB Γ S T := by
  have a1 := hgt_ctx tb.1.1 tb.1.2.1 lS hx
  have a2 := hgt_ctx tb.1.1 tb.1.2.2 lT hx
  have a3 : trx (Γ, S, T) ≤ 830 := by
    rcases q with ⟨b, q⟩ | ⟨b, q⟩
    · exact Nat.le_trans (trx_nzS b tb) q
    · exact Nat.le_trans (trx_nzT b tb) q
  have a4 := len_cch Γ
  refine ⟨Nat.le_trans (Nat.add_le_add a1 a2) (by decide), ?_, a3⟩
  omega
end PmL9
section PmLa
variable {f : Nat} {x y : Ty} {Γ : List Ty} {Δ : List (Nat × Ty × Nat)} {S T : Ty} {e : Nat}
theorem short_c {f D : Nat} {sc : List Nat} {t : Ty} (w : TWf f D sc t) : 1 ≤ mch t := by
  cases f with
  | zero => exact w.elim
  | succ f => exact mch_pos w
/-- a choice -/
theorem LJ_first (he : 570 + e * 250 ≤ 830) (tb : TB (1 + e) (Γ, S, T)) (wx : TWf f Γ.length (Δ.map (fun a => a.1)) x) (wy : TWf f Γ.length (Δ.map (fun a => a.1)) y) (te : TE Γ Δ) (hS : tyF f x Γ Δ = .inr S) (hT : tyF f y Γ Δ = .inr T) (hb : cch Γ + dch Δ + (mch x + mch y) ≤ 58) (ex : mch x ≤ mch y → EX0 f x Γ Δ) (ey : ¬ mch x ≤ mch y → EX0 f y Γ Δ) : LJ Γ S T := by
  have lS := (tyF_ok f x Γ Δ S wx te hS).2
  have lT := (tyF_ok f y Γ Δ T wy te hT).2
  have mx := short_c wx
  have my := short_c wy
  by_cases c : mch x ≤ mch y
  · exact LJ_S (by omega) tb (by omega) lS lT (Nat.le_trans (first_chain true e wx te (ex c) hS (by omega)) he) (Nat.le_trans (first_goals wx te (ex c) hS (by omega)) (by decide))
  · exact LJ_T (by omega) tb (by omega) lS lT (Nat.le_trans (first_chain false e wy te (ey c) hT (by omega)) he) (Nat.le_trans (first_goals wy te (ey c) hT (by omega)) (by decide))
/-- an application: what is given against what is wanted -/
theorem LB_first (he : 570 + e * 250 ≤ 830) (hf : hd (expo Γ Γ.length S) = 1) (tb : TB (1 + e) (Γ, T, k1 (expo Γ Γ.length S))) (wx : TWf f Γ.length (Δ.map (fun a => a.1)) x) (wy : TWf f Γ.length (Δ.map (fun a => a.1)) y) (te : TE Γ Δ) (hS : tyF f x Γ Δ = .inr S) (hT : tyF f y Γ Δ = .inr T) (hb : cch Γ + dch Δ + (mch x + mch y) ≤ 58) (ex : mch x ≤ mch y → EX0 f x Γ Δ) (ey : ¬ mch x ≤ mch y → EX0 f y Γ Δ) : LB Γ T (k1 (expo Γ Γ.length S)) := by
  obtain ⟨oS, lS⟩ := tyF_ok f x Γ Δ S wx te hS
  obtain ⟨oT, lT⟩ := tyF_ok f y Γ Δ T wy te hT
  obtain ⟨oF, lF⟩ := expo_ok te.1 te.2.1 Γ.length S oS lS
  have mx := short_c wx
  have my := short_c wy
  obtain ⟨a, b, e2, oa, ob⟩ := hd_is_fun oF hf
  have l1 : (flat (k1 (expo Γ Γ.length S))).length ≤ 16 := by
    rw [e2, flat_fun, List.length_cons, List.length_append] at lF
    rw [e2]
    show (flat a).length ≤ 16
    omega
  by_cases c : mch x ≤ mch y
  · refine LB_ST tb (by omega) lT l1 (Or.inr ⟨true, ?_⟩)
    have q := Nat.le_trans (first_chain true e wx te (ex c) hS (by omega)) he
    have q2 := expo_nz te.1 (onz_cv (NC_rows true (1 + e)) te.1) Γ.length S oS
    rw [e2, nz_fun] at q2
    rw [e2]
    show nz 0 (fun _ => 1 + (1 + e)) (2 + (1 + e)) (vlr true (1 + e)) _ a ≤ 830
    omega
  · exact LB_ST tb (by omega) lT l1 (Or.inl ⟨true, Nat.le_trans (first_chain true e wy te (ey c) hT (by omega)) he⟩)
end PmLa
