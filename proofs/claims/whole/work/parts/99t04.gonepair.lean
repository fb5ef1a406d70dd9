/-! A SCHEME THAT IS NEVER ENTERED: rows and goals of a term, its body being gone; pairs. -/
/-- rows: the bound has k characters, r1 before, r2 behind, g around arguments, other schemes of at most ob leaves -/
def goneR (k r1 r2 g ob cd m : Nat) : Bool := (frg fr1 k).all (fun v =>
  Nat.ble (lstX fx1 (max (max 2 (fx1.getD r1 0)) 4) + r2 + g) 56 && (Nat.ble (lstX fx1 (max (max 2 (fx1.getD r1 0)) 4) + r2 + cd + 2 * m) 58 &&
  natB pp1 (Zr (fx1.getD (lstX fx1 (max (max 2 (fx1.getD r1 0)) 4) + r2 + g) 0)) (lstX fx1 (max (max 2 (fx1.getD r1 0)) 4) + r2 + cd) m
    (max (fx1.getD (lstX fx1 (max (max 2 (fx1.getD r1 0)) 4) + r2) 0) (max (Zr (fx1.getD (lstX fx1 (max (max 2 (fx1.getD r1 0)) 4) + r2 + g) 0) m) (v.2 + v.1 * max 2 (fx1.getD r1 0))))
    (max (lmx fr1 k) (max (lmx fr1 m) ob)) 887))
def goneG (k r1 r2 g ob cd m : Nat) : Bool := (frg frq k).all (fun v =>
  Nat.ble (lstX fxq (max (max 1 (fxq.getD r1 0)) 2) + r2 + g) 56 && (Nat.ble (lstX fxq (max (max 1 (fxq.getD r1 0)) 2) + r2 + cd + 2 * m) 58 &&
  natB ppq (Zg (fxq.getD (lstX fxq (max (max 1 (fxq.getD r1 0)) 2) + r2 + g) 0)) (lstX fxq (max (max 1 (fxq.getD r1 0)) 2) + r2 + cd) m
    (max (fxq.getD (lstX fxq (max (max 1 (fxq.getD r1 0)) 2) + r2) 0) (max (Zg (fxq.getD (lstX fxq (max (max 1 (fxq.getD r1 0)) 2) + r2 + g) 0) m) (v.2 + v.1 * max 1 (fxq.getD r1 0))))
    (max (lmx fr1 k) (max (lmx fr1 m) ob)) 597))
/-- what is asked of the term -/
def GoneT (B C : Ty) (Γ0 Δ1 : List Ty) (Δ : List (Nat × Ty × Nat)) (f : Nat) (t : Ty) : Prop := COk f t 0 ∧ tch (tAll B C) ≤ 56 ∧ mch t ≤ 21 ∧ ∃ g ob cd, (hasq f t = true → gqk f t ≤ g) ∧ (∀ b ∈ Γ0, nsch b = true ∨ flv b ≤ ob) ∧ (∀ b ∈ Δ1, nsch b = true ∨ flv b ≤ ob) ∧ cch Γ0 ≤ 56 ∧ dch Δ ≤ cd ∧ 2 ≤ cd ∧ goneR (tch (tAll B C)) (cch Γ0) (cch Δ1) g ob cd (mch t) = true ∧ goneG (tch (tAll B C)) (cch Γ0) (cch Δ1) g ob cd (mch t) = true
section PmT5
variable {hb f : Nat} {t S B C : Ty} {Γ0 Δ1 : List Ty} {Δ : List (Nat × Ty × Nat)}
theorem gone_rows (b : Bool) (nC : noh hb C = true) (w : TWf f (cxs Δ1 Γ0 (tAll B C)).length (Δ.map (fun a => a.1)) t) (he : TE (cxs Δ1 Γ0 (tAll B C)) Δ) (cu : GoneT B C Γ0 Δ1 Δ f t) (nh : NHt hb f t) (na : NAt f t) (hc : noac (cxs Δ1 Γ0 (tAll B C))) (s : SGc hb B C tTop Γ0 Δ1) (hd' : ∀ a ∈ Δ, noh hb a.2.1 = true ∧ noal a.2.1 = true) (hS : tyF f t (cxs Δ1 Γ0 (tAll B C)) Δ = .inr S) : nz 0 (fun _ => 1 + 1) (2 + 1) (vlr b 1) (onz 0 (fun _ => 1 + 1) (2 + 1) (vlr b 1) (cxs Δ1 Γ0 (tAll B tTop))) S ≤ 887 := by
  obtain ⟨co, hk, hm21, g, ob, cd, hg, hb0, hb1, hr, hdc, hcd, hR, -⟩ := cu
  obtain ⟨oc0, oA⟩ := okc_low Δ1 s.o1
  have l0 := onz_len 0 (fun _ => 1 + 1) (2 + 1) (vlr b 1) Γ0
  have hω : ∀ j, j < (onz 0 (fun _ => 1 + 1) (2 + 1) (vlr b 1) Γ0).length → vw (onz 0 (fun _ => 1 + 1) (2 + 1) (vlr b 1) Γ0) j ≤ max 2 (fx1.getD (cch Γ0) 0) := fun j hj => Nat.le_trans (onz_chars (n1 := fun _ => 1 + 1) (tbs1 b).1 (tbs1 b).2.1 (tbs1 b).2.2.1 (tbs1 b).2.2.2.1 (tbs1 b).2.2.2.2.1 Γ0 oc0 hr j (by rw [l0] at hj; exact hj)) (Nat.le_max_right _ _)
  obtain ⟨v, hv, c2⟩ := val_any (tbs1 b) (A := tAll B C) (ω := onz 0 (fun _ => 1 + 1) (2 + 1) (vlr b 1) Γ0) (y := max 2 (fx1.getD (cch Γ0) 0)) (by rw [l0]; exact oA) hk (Nat.le_trans (by decide) (Nat.le_max_left 2 _)) hω
  unfold goneR at hR
  have R1 := List.all_eq_true.mp hR v hv
  clear hR hv
  generalize max 2 (fx1.getD (cch Γ0) 0) = x at *
  have lk := lstX_ok (X := fx1) (y := max x 4)
  generalize lstX fx1 (max x 4) = c0 at *
  rw [Bool.and_eq_true, Bool.and_eq_true] at R1
  obtain ⟨n1', n2', n3'⟩ := R1
  have n1' := Nat.le_of_ble_eq_true n1'
  have n2' := Nat.le_of_ble_eq_true n2'
  have lk := lk (by omega)
  have h0' : ∀ j, j < (tAll B tTop :: Γ0).length → vw (onz 0 (fun _ => 1 + 1) (2 + 1) (vlr b 1) (tAll B tTop :: Γ0)) j ≤ fx1.getD c0 0 := by
    intro j hj
    show vw ((vlr b 1) (nz 0 (fun _ => 1 + 1) (2 + 1) (vlr b 1) (onz 0 (fun _ => 1 + 1) (2 + 1) (vlr b 1) Γ0) (tAll B tTop)) :: onz 0 (fun _ => 1 + 1) (2 + 1) (vlr b 1) Γ0) j ≤ _
    have vb : vlr b 1 (2 + 1 + 0) = 4 := by cases b <;> rfl
    rw [vw_cons, l0, nz_all, nz_top, vb]
    by_cases e : j = Γ0.length
    · rw [if_pos e]
      exact Nat.le_trans (Nat.le_max_right _ _) lk
    · rw [if_neg e]
      rw [List.length_cons] at hj
      exact Nat.le_trans (hω j (by rw [l0]; omega)) (Nat.le_trans (Nat.le_max_left _ _) lk)
  have hw := onz_cx (tbs1 b) h0' Δ1 s.o2 (by omega)
  refine natB_le n3' (gone_BF (NC_rows b 1) (vlr_mono b 1) (vlr_lip b 1) (tbs1 b) px1_ok (Nat.le_refl _) (Nat.le_refl _) (Zr_ok _) nC w he co nh na hc s hd' hS hdc hcd n2' n1' (fun c => by have := hg c; omega) (fun q q1 q2 => zr_le q1 (by omega)) (Nat.le_trans (Nat.le_max_left _ _) (Nat.le_max_right _ _)) hw (fun A d o ht => Nat.le_trans (flv_lmx o ht (by omega)) (Nat.le_trans (Nat.le_max_left _ _) (Nat.le_max_right _ _))) ?_)
  refine BEk_gone (NC_rows b 1) ⟨?_, ?_⟩ (fun b hb => ?_) Δ1 (fun j hj => Nat.le_trans (hw j hj) (Nat.le_max_left _ _)) (fun b hb => ?_)
  · exact Nat.le_trans c2 (Nat.le_trans (Nat.le_max_right _ _) (Nat.le_max_right _ _))
  · exact Nat.le_trans (flv_lmx oA (Nat.le_refl _) hk) (Nat.le_max_left _ _)
  · exact (hb0 b hb).imp id (fun c => Nat.le_trans c (Nat.le_trans (Nat.le_max_right _ _) (Nat.le_max_right _ _)))
  · exact (hb1 b hb).imp id (fun c => Nat.le_trans c (Nat.le_trans (Nat.le_max_right _ _) (Nat.le_max_right _ _)))
theorem gone_goals (nC : noh hb C = true) (w : TWf f (cxs Δ1 Γ0 (tAll B C)).length (Δ.map (fun a => a.1)) t) (he : TE (cxs Δ1 Γ0 (tAll B C)) Δ) (cu : GoneT B C Γ0 Δ1 Δ f t) (nh : NHt hb f t) (na : NAt f t) (hc : noac (cxs Δ1 Γ0 (tAll B C))) (s : SGc hb B C tTop Γ0 Δ1) (hd' : ∀ a ∈ Δ, noh hb a.2.1 = true ∧ noal a.2.1 = true) (hS : tyF f t (cxs Δ1 Γ0 (tAll B C)) Δ = .inr S) : nz 1 ngc 1 (fun x => x) (onz 1 ngc 1 (fun x => x) (cxs Δ1 Γ0 (tAll B tTop))) S ≤ 597 := by
  obtain ⟨co, hk, hm21, g, ob, cd, hg, hb0, hb1, hr, hdc, hcd, -, hR⟩ := cu
  obtain ⟨oc0, oA⟩ := okc_low Δ1 s.o1
  have l0 := onz_len 1 ngc 1 (fun x => x) Γ0
  have hω : ∀ j, j < (onz 1 ngc 1 (fun x => x) Γ0).length → vw (onz 1 ngc 1 (fun x => x) Γ0) j ≤ max 1 (fxq.getD (cch Γ0) 0) := fun j hj => Nat.le_trans (onz_chars (n1 := ngc) tbsq.1 tbsq.2.1 tbsq.2.2.1 tbsq.2.2.2.1 tbsq.2.2.2.2.1 Γ0 oc0 hr j (by rw [l0] at hj; exact hj)) (Nat.le_max_right _ _)
  obtain ⟨v, hv, c2⟩ := val_any tbsq (A := tAll B C) (ω := onz 1 ngc 1 (fun x => x) Γ0) (y := max 1 (fxq.getD (cch Γ0) 0)) (by rw [l0]; exact oA) hk (Nat.le_max_left 1 _) hω
  unfold goneG at hR
  have R1 := List.all_eq_true.mp hR v hv
  clear hR hv
  generalize max 1 (fxq.getD (cch Γ0) 0) = x at *
  have lk := lstX_ok (X := fxq) (y := max x 2)
  generalize lstX fxq (max x 2) = c0 at *
  rw [Bool.and_eq_true, Bool.and_eq_true] at R1
  obtain ⟨n1', n2', n3'⟩ := R1
  have n1' := Nat.le_of_ble_eq_true n1'
  have n2' := Nat.le_of_ble_eq_true n2'
  have lk := lk (by omega)
  have h0' : ∀ j, j < (tAll B tTop :: Γ0).length → vw (onz 1 ngc 1 (fun x => x) (tAll B tTop :: Γ0)) j ≤ fxq.getD c0 0 := by
    intro j hj
    show vw ((fun x => x) (nz 1 ngc 1 (fun x => x) (onz 1 ngc 1 (fun x => x) Γ0) (tAll B tTop)) :: onz 1 ngc 1 (fun x => x) Γ0) j ≤ _
    rw [vw_cons, l0, nz_all, nz_top]
    by_cases e : j = Γ0.length
    · rw [if_pos e]
      exact Nat.le_trans (Nat.le_max_right _ _) lk
    · rw [if_neg e]
      rw [List.length_cons] at hj
      exact Nat.le_trans (hω j (by rw [l0]; omega)) (Nat.le_trans (Nat.le_max_left _ _) lk)
  have hw := onz_cx tbsq h0' Δ1 s.o2 (by omega)
  refine natB_le n3' (gone_BF NC_goals (fun y y' hy => hy) (fun y δ => Nat.le_refl _) tbsq pxq_ok (by decide) (by decide) (Zg_ok _) nC w he co nh na hc s hd' hS hdc hcd n2' n1' (fun c => by have := hg c; omega) (fun q q1 q2 => zg_le q1 (by omega)) (Nat.le_trans (Nat.le_max_left _ _) (Nat.le_max_right _ _)) hw (fun A d o ht => Nat.le_trans (flv_lmx o ht (by omega)) (Nat.le_trans (Nat.le_max_left _ _) (Nat.le_max_right _ _))) ?_)
  refine BEk_gone NC_goals ⟨?_, ?_⟩ (fun b hb => ?_) Δ1 (fun j hj => Nat.le_trans (hw j hj) (Nat.le_max_left _ _)) (fun b hb => ?_)
  · exact Nat.le_trans c2 (Nat.le_trans (Nat.le_max_right _ _) (Nat.le_max_right _ _))
  · exact Nat.le_trans (flv_lmx oA (Nat.le_refl _) hk) (Nat.le_max_left _ _)
  · exact (hb0 b hb).imp id (fun c => Nat.le_trans c (Nat.le_trans (Nat.le_max_right _ _) (Nat.le_max_right _ _)))
  · exact (hb1 b hb).imp id (fun c => Nat.le_trans c (Nat.le_trans (Nat.le_max_right _ _) (Nat.le_max_right _ _)))
end PmT5
section PmT6
variable {hb e : Nat} {S T B C : Ty} {Γ0 Δ1 : List Ty}
theorem LJ_goneS (s : SGc hb B C tTop Γ0 Δ1) (e1 : 1 ≤ e) (tb : TB e (cxs Δ1 Γ0 (tAll B C), S, T)) (nS : noh hb S = true) (nT : noh hb T = true) (hx : cch (cxs Δ1 Γ0 (tAll B C)) ≤ 56) (lS : (flat S).length ≤ 16) (lT : (flat T).length ≤ 16) (q1 : nz 0 (fun _ => 1 + e) (2 + e) (vlr true e) (onz 0 (fun _ => 1 + e) (2 + e) (vlr true e) (cxs Δ1 Γ0 (tAll B tTop))) S ≤ 887) (q2 : nz 1 ngc 1 (fun x => x) (onz 1 ngc 1 (fun x => x) (cxs Δ1 Γ0 (tAll B tTop))) S ≤ 597) : LJ (cxs Δ1 Γ0 (tAll B C)) S T := by
  have tk : tok (cxs Δ1 Γ0 (tAll B C), S, T) := tb.1
  have a1 := hgt_ctx tk.1 tk.2.1 lS hx
  have a2 := hgt_ctx tk.1 tk.2.2 lT hx
  obtain ⟨g1, g2⟩ := gm_sg (w := 0) s tk nS nT
  have tb := cxz_TB tb
  have a3 := Nat.le_trans (gm_rowsS e1 (z := (0, cxs Δ1 Γ0 (tAll B tTop), S, T)) tb (Nat.zero_le 1)) (Nat.le_trans (urm_nz (b := true) (e := e) (w := 0) tb.1.1 tb.1.2.1) q1)
  have a4 := Nat.le_trans (gn_S (z := (0, cxs Δ1 Γ0 (tAll B tTop), S, T)) tb.1 (Nat.zero_le 1)) (Nat.le_trans (ugS_nz tb.1.1 tb.1.2.1) q2)
  refine ⟨Nat.le_trans (Nat.add_le_add a1 a2) (by decide), ?_, ?_⟩
  · rw [g1]; exact a3
  · rw [g2]; exact Nat.add_le_add_right a4 3
theorem LJ_goneT (s : SGc hb B C tTop Γ0 Δ1) (e1 : 1 ≤ e) (tb : TB e (cxs Δ1 Γ0 (tAll B C), S, T)) (nS : noh hb S = true) (nT : noh hb T = true) (hx : cch (cxs Δ1 Γ0 (tAll B C)) ≤ 56) (lS : (flat S).length ≤ 16) (lT : (flat T).length ≤ 16) (q1 : nz 0 (fun _ => 1 + e) (2 + e) (vlr false e) (onz 0 (fun _ => 1 + e) (2 + e) (vlr false e) (cxs Δ1 Γ0 (tAll B tTop))) T ≤ 887) (q2 : nz 1 ngc 1 (fun x => x) (onz 1 ngc 1 (fun x => x) (cxs Δ1 Γ0 (tAll B tTop))) T ≤ 597) : LJ (cxs Δ1 Γ0 (tAll B C)) S T := by
  have tk : tok (cxs Δ1 Γ0 (tAll B C), S, T) := tb.1
  have a1 := hgt_ctx tk.1 tk.2.1 lS hx
  have a2 := hgt_ctx tk.1 tk.2.2 lT hx
  obtain ⟨g1, g2⟩ := gm_sg (w := 0) s tk nS nT
  have tb := cxz_TB tb
  have a3 := Nat.le_trans (gm_rowsT e1 (z := (0, cxs Δ1 Γ0 (tAll B tTop), S, T)) tb (Nat.zero_le 1)) (Nat.le_trans (urm_nz (b := false) (e := e) (w := 0) tb.1.1 tb.1.2.2) q1)
  have a4 := Nat.le_trans (gn_T (z := (0, cxs Δ1 Γ0 (tAll B tTop), S, T)) tb.1 (Nat.zero_le 1)) (Nat.le_trans (ugT_nz tb.1.1 tb.1.2.2) q2)
  refine ⟨Nat.le_trans (Nat.add_le_add a1 a2) (by decide), ?_, ?_⟩
  · rw [g1]; exact a3
  · rw [g2]; exact Nat.add_le_add_right a4 3
theorem LB_gone (s : SGc hb B C tTop Γ0 Δ1) (tb : TB e (cxs Δ1 Γ0 (tAll B C), S, T)) (nS : noh hb S = true) (nT : noh hb T = true) (hx : cch (cxs Δ1 Γ0 (tAll B C)) ≤ 56) (lS : (flat S).length ≤ 16) (lT : (flat T).length ≤ 16) (q : (∃ b, nz 0 (fun _ => 1 + e) (2 + e) (vlr b e) (onz 0 (fun _ => 1 + e) (2 + e) (vlr b e) (cxs Δ1 Γ0 (tAll B tTop))) S ≤ 887) ∨ (∃ b, nz 0 (fun _ => 1 + e) (2 + e) (vlr b e) (onz 0 (fun _ => 1 + e) (2 + e) (vlr b e) (cxs Δ1 Γ0 (tAll B tTop))) T ≤ 887)) : LB (cxs Δ1 Γ0 (tAll B C)) S T := by
  have tk : tok (cxs Δ1 Γ0 (tAll B C), S, T) := tb.1
  have a1 := hgt_ctx tk.1 tk.2.1 lS hx
  have a2 := hgt_ctx tk.1 tk.2.2 lT hx
  have tz := cxz_TB tb
  have a3 : trx (cxs Δ1 Γ0 (tAll B C), S, T) ≤ 887 := by
    rw [trx_sg s tk nS nT]
    rcases q with ⟨b, q⟩ | ⟨b, q⟩
    · exact Nat.le_trans (trx_nzS b tz) q
    · exact Nat.le_trans (trx_nzT b tz) q
  have a4 := len_cch (cxs Δ1 Γ0 (tAll B C))
  refine ⟨Nat.le_trans (Nat.add_le_add a1 a2) (by decide), ?_, a3⟩
  omega
variable {t0 s2 : Nat} {n1 h : Nat → Nat}
/-- exposed, a function is worth no more -/
theorem expo_gonez {ω : List Nat} (s : SGc hb B C tTop Γ0 Δ1) (hv : CV t0 n1 s2 h ω (cxs Δ1 Γ0 (tAll B tTop))) : ∀ (f : Nat) (S : Ty), ok (cxs Δ1 Γ0 (tAll B C)).length S = true → hd (expo (cxs Δ1 Γ0 (tAll B C)) f S) = 1 → nz t0 n1 s2 h ω (expo (cxs Δ1 Γ0 (tAll B C)) f S) ≤ nz t0 n1 s2 h ω S
  | 0, S, _, _ => Nat.le_refl _
  | f + 1, S, o, e1 => by
    have e1 : hd (if 16 ≤ hd S then expo (cxs Δ1 Γ0 (tAll B C)) f (exps (cxs Δ1 Γ0 (tAll B C)) S) else S) = 1 := e1
    show nz t0 n1 s2 h ω (if 16 ≤ hd S then expo (cxs Δ1 Γ0 (tAll B C)) f (exps (cxs Δ1 Γ0 (tAll B C)) S) else S) ≤ _
    by_cases c : 16 ≤ hd S
    · rw [if_pos c] at e1 ⊢
      obtain ⟨k, hk, rfl⟩ := hd_is_var o c
      rw [exps_var] at e1 ⊢
      by_cases ek : k = Γ0.length
      · subst ek
        rw [cxs_up, expo_lo (by rw [upb_all, hd_all]; omega), upb_all, hd_all] at e1
        exact absurd e1 (by decide)
      · have q := expo_gonez s hv f _ (ok_expose s.o1 hk) e1
        have q2 := s.vexp hv hk ek
        rw [nz_var]
        omega
    · rw [if_neg c]; exact Nat.le_refl _
end PmT6
