/-! A TERM WITHOUT AN INSTANCE, where the values of the context are known. -/
def fvz (XR W : FrT) (X : List Nat) (hv s2 wB k q1 q2 cv : Nat) : Bool := (frg XR k).all (fun v => (List.range (v.1 + 1)).all (fun p => (frg W q2).all (fun e => Nat.ble (e.2 + e.1 * max (max 1 (X.getD q1 0)) (hv + (s2 + (v.2 + (v.1 - p) * max 1 (X.getD q1 0) + p * wB)))) (X.getD cv 0))))
theorem fvz_get {XR W : FrT} {X : List Nat} {hv s2 wB k q1 q2 cv p : Nat} {v e : Nat × Nat} (h : fvz XR W X hv s2 wB k q1 q2 cv = true) (hv' : v ∈ frg XR k) (hp : p ≤ v.1) (he : e ∈ frg W q2) : e.2 + e.1 * max (max 1 (X.getD q1 0)) (hv + (s2 + (v.2 + (v.1 - p) * max 1 (X.getD q1 0) + p * wB))) ≤ X.getD cv 0 := by
  unfold fvz at h
  exact Nat.le_of_ble_eq_true (List.all_eq_true.mp (rng_all (List.all_eq_true.mp h v hv') (i := p) (by omega)) e he)
def fvp (c1 cq cd m : Nat) : Bool := Nat.ble (c1 + cd + 2 * m) 58 && (Nat.ble (cq + cd + 2 * m) 58 && (Nat.ble (pg pp1 (c1 + cd) m) 830 && Nat.ble (pg ppq (cq + cd) m) 597))
def nqc (XR W : FrT) (X : List Nat) (hv s2 wB k q1 q2 : Nat) : Nat := ((List.range 59).find? (fun cv => fvz XR W X hv s2 wB k q1 q2 cv)).getD 59
/-- a term of n characters beside one of m -/
def nqt (W1 Wq : FrT) (k q1 q2 m n : Nat) : Bool := fvz xr1 W1 fx1 1 3 2 k q1 q2 (nqc xr1 W1 fx1 1 3 2 k q1 q2) && (fvz xrq Wq fxq 0 1 1 k q1 q2 (nqc xrq Wq fxq 0 1 1 k q1 q2) && fvp (nqc xr1 W1 fx1 1 3 2 k q1 q2) (nqc xrq Wq fxq 0 1 1 k q1 q2) (58 - (9 + k + q1 + q2) - (m + n)) n)
/-- the growth behind the scheme -/
def GrW (t0 : Nat) (n1 : Nat → Nat) (s2 : Nat) (h : Nat → Nat) (W : FrT) (C : Ty) (Γ0 Δ1 : List Ty) : Prop := ∀ y, 1 ≤ y → (∀ j, j < (tAll tTop C :: Γ0).length → vw (onz t0 n1 s2 h (tAll tTop C :: Γ0)) j ≤ y) → ∃ e ∈ frg W (cch Δ1), 1 ≤ e.1 ∧ ∀ j, j < (cxs Δ1 Γ0 (tAll tTop C)).length → vw (onz t0 n1 s2 h (cxs Δ1 Γ0 (tAll tTop C))) j ≤ e.2 + e.1 * y
section PmWw
variable {f : Nat} {t x y C : Ty} {Γ0 Δ1 : List Ty} {Δ : List (Nat × Ty × Nat)} {W1 Wq : FrT}
theorem ntv_nq {m : Nat} (G1 : ∀ b, GrW 0 (fun _ => 1 + 1) (2 + 1) (vlr b 1) W1 C Γ0 Δ1) (Gq : GrW 1 ngc 1 (fun x => x) Wq C Γ0 Δ1) (w : TWf f (cxs Δ1 Γ0 (tAll tTop C)).length (Δ.map (fun a => a.1)) t) (he : TE (cxs Δ1 Γ0 (tAll tTop C)) Δ) (nq : hasq f t = false) (hz : nqt W1 Wq (tch C) (cch Γ0) (cch Δ1) m (mch t) = true) (hb : cch (cxs Δ1 Γ0 (tAll tTop C)) + dch Δ + (2 + (m + mch t)) ≤ 60) (h47 : cch (cxs Δ1 Γ0 (tAll tTop C)) ≤ 47) : NtV (cxs Δ1 Γ0 (tAll tTop C)) Δ f t 830 597 := by
  obtain ⟨oc0, oA⟩ := okc_low Δ1 he.1
  have oC := (ok_all.mp oA).2
  have ec : cch (cxs Δ1 Γ0 (tAll tTop C)) = 9 + tch C + cch Γ0 + cch Δ1 := by
    rw [cch_cx, tch_all, tch_top]
    omega
  unfold nqt fvp at hz
  generalize nqc xr1 W1 fx1 1 3 2 (tch C) (cch Γ0) (cch Δ1) = c1 at hz
  generalize nqc xrq Wq fxq 0 1 1 (tch C) (cch Γ0) (cch Δ1) = cq at hz
  rw [Bool.and_eq_true, Bool.and_eq_true, Bool.and_eq_true, Bool.and_eq_true, Bool.and_eq_true] at hz
  obtain ⟨z1, zq, b1, bq, p1, pq⟩ := hz
  have b1 := Nat.le_of_ble_eq_true b1
  have bq := Nat.le_of_ble_eq_true bq
  have p1 := Nat.le_of_ble_eq_true p1
  have pq := Nat.le_of_ble_eq_true pq
  refine fun S hS => ⟨fun b => ?_, ?_⟩
  · obtain ⟨v, hv, x1, x2⟩ := xr_form (t0 := 0) (n1 := fun _ => 1 + 1) (s2 := 3) (hv := 1) xr1_ok (tbs1 b).2.2.2.1 (tbs1 b).2.2.2.2.1 _ C (Γ0.length + 1) (Nat.le_refl _) oC (by omega)
    obtain ⟨p, hp, e, he', -, g2, -⟩ := nat_ctxg (wB := 2) (v := v) (q2 := cch Δ1) (W := W1) (tbs1 b) (vlr_one b) (by decide) he.1 x1 x2 (by rw [nz_top]; exact vlr_one b 0) (Nat.le_refl _) (by omega) (G1 b)
    have q0 := fvz_get z1 hv hp he'
    have q1 := tyF_nz0 (NC_rows b 1) (vlr_mono b 1) f t _ Δ S _ w he (EX0_hasq f t _ Δ _ _ w nq) (onz_cv (NC_rows b 1) he.1) hS
    have q2 := GV0_le (tbs1 b) f t (onz 0 (fun _ => 1 + 1) (2 + 1) (vlr b 1) (cxs Δ1 Γ0 (tAll tTop C))) _ Δ c1 (58 - (9 + tch C + cch Γ0 + cch Δ1) - (m + mch t)) w he (onz_len ..) (fun j hj => Nat.le_trans (g2 j (by rw [onz_len] at hj; exact hj)) q0) (by omega) b1
    exact Nat.le_trans q1 (Nat.le_trans q2 p1)
  · obtain ⟨v, hv, x1, x2⟩ := xr_form (t0 := 1) (n1 := ngc) (s2 := 1) (hv := 0) xrq_ok tbsq.2.2.2.1 tbsq.2.2.2.2.1 _ C (Γ0.length + 1) (Nat.le_refl _) oC (by omega)
    obtain ⟨p, hp, e, he', -, g2, -⟩ := nat_ctxg (wB := 1) (v := v) (q2 := cch Δ1) (W := Wq) tbsq (fun y => by show y ≤ 0 + max 1 y; omega) (by decide) he.1 x1 x2 (by rw [nz_top]; exact Nat.le_refl _) (Nat.le_refl _) (by omega) Gq
    have q0 := fvz_get zq hv hp he'
    have q1 := tyF_nz0 NC_goals (fun y y' hy => hy) f t _ Δ S _ w he (EX0_hasq f t _ Δ _ _ w nq) (onz_cv NC_goals he.1) hS
    have q2 := GV0_le tbsq f t (onz 1 ngc 1 (fun x => x) (cxs Δ1 Γ0 (tAll tTop C))) _ Δ cq (58 - (9 + tch C + cch Γ0 + cch Δ1) - (m + mch t)) w he (onz_len ..) (fun j hj => Nat.le_trans (g2 j (by rw [onz_len] at hj; exact hj)) q0) (by omega) bq
    exact Nat.le_trans q1 (Nat.le_trans q2 pq)
/-- pairs, one term without an instance -/
theorem pair_nq (G1 : ∀ b, GrW 0 (fun _ => 1 + 1) (2 + 1) (vlr b 1) W1 C Γ0 Δ1) (Gq : GrW 1 ngc 1 (fun x => x) Wq C Γ0 Δ1) (x1 : TWf f (cxs Δ1 Γ0 (tAll tTop C)).length (Δ.map (fun a => a.1)) x) (x2 : TWf f (cxs Δ1 Γ0 (tAll tTop C)).length (Δ.map (fun a => a.1)) y) (he : TE (cxs Δ1 Γ0 (tAll tTop C)) Δ) (y1 : NAt f x) (y2 : NAt f y) (hv : noac (cxs Δ1 Γ0 (tAll tTop C))) (hd' : ∀ a ∈ Δ, noal a.2.1 = true) (hz : (hasq f y = false ∧ nqt W1 Wq (tch C) (cch Γ0) (cch Δ1) (mch x) (mch y) = true) ∨ (hasq f x = false ∧ nqt W1 Wq (tch C) (cch Γ0) (cch Δ1) (mch y) (mch x) = true)) (hb : cch (cxs Δ1 Γ0 (tAll tTop C)) + dch Δ + (2 + (mch x + mch y)) ≤ 60) (h47 : cch (cxs Δ1 Γ0 (tAll tTop C)) ≤ 47) : PRn f x y (cxs Δ1 Γ0 (tAll tTop C)) Δ := by
  refine pair_ntv x1 x2 he y1 y2 hv hd' (by omega) ?_
  rcases hz with ⟨nq, hz⟩ | ⟨nq, hz⟩
  · exact Or.inr (ntv_nq G1 Gq x2 he nq hz hb h47)
  · exact Or.inl (ntv_nq G1 Gq x1 he nq hz (by omega) h47)
theorem GrW_1 (he : TE (cxs Δ1 Γ0 (tAll tTop C)) Δ) (h38 : cch Δ1 ≤ 38) (b : Bool) : GrW 0 (fun _ => 1 + 1) (2 + 1) (vlr b 1) fg1 C Γ0 Δ1 := fun y hy h0 => onz_gr (tbs1 b) fg1_ok (by decide) hy h0 Δ1 he.1 h38
theorem GrW_q (he : TE (cxs Δ1 Γ0 (tAll tTop C)) Δ) (h38 : cch Δ1 ≤ 38) : GrW 1 ngc 1 (fun x => x) fgq C Γ0 Δ1 := fun y hy h0 => onz_gr tbsq fgq_ok (by decide) hy h0 Δ1 he.1 h38
theorem GrW_f1 (he : TE (cxs Δ1 Γ0 (tAll tTop C)) Δ) (h38 : cch Δ1 ≤ 38) (hfl : ∃ b ∈ Δ1, noh 0 b = false) (b : Bool) : GrW 0 (fun _ => 1 + 1) (2 + 1) (vlr b 1) fh1 C Γ0 Δ1 := fun y hy h0 => onz_grf (tbs1 b) fg1_ok (by decide) fh1_ok fh1_st (vlr_one b) (fun d c o hk hp => fk_any1 o hk hp) hy h0 Δ1 he.1 h38 (hfl.imp (fun a h => ⟨h.1, nph a h.2⟩))
theorem GrW_fq (he : TE (cxs Δ1 Γ0 (tAll tTop C)) Δ) (h38 : cch Δ1 ≤ 38) (hfl : ∃ b ∈ Δ1, noh 0 b = false) : GrW 1 ngc 1 (fun x => x) fhq C Γ0 Δ1 := fun y hy h0 => onz_grf tbsq fgq_ok (by decide) fhq_ok fhq_st (fun y => by show y ≤ 0 + max 1 y; omega) (fun d c o hk hp => fk_anyq o hk hp) hy h0 Δ1 he.1 h38 (hfl.imp (fun a h => ⟨h.1, nph a h.2⟩))
end PmWw
/-- a term of three characters has no choice -/
theorem CF_three : ∀ (f : Nat) (t : Ty) (D : Nat) (sc : List Nat), TWf f D sc t → mch t ≤ 3 → CFt f t
  | 0, _, _, _, _, _ => trivial
  | f + 1, t, D, sc, w, h => by
    obtain ⟨w0, w5, w6, w7, w8, w9, w10, w11, w12⟩ := w
    have em := mch_is w0.2.1
    have mpos : ∀ D sc (u : Ty), TWf f D sc u → 1 ≤ mch u := by
      intro D sc u wu
      cases f with
      | zero => exact wu.elim
      | succ f => exact mch_pos wu
    refine ⟨fun c => ?_, fun c => ?_, fun c g hg hb => ?_, fun c => ?_⟩
    · rw [if_neg (by omega), if_pos c] at em
      omega
    · rcases c with c | c | c
      · rw [if_neg (by omega), if_neg (by omega), if_neg (by omega), if_neg (by omega)] at em
        exact CF_three f _ _ _ (w7 (Or.inl c)).1 (by omega)
      · rw [if_neg (by omega), if_neg (by omega), if_pos c] at em
        exact CF_three f _ _ _ (w9 c).1 (by omega)
      · rw [if_neg (by omega), if_neg (by omega), if_neg (by omega), if_neg (by omega)] at em
        exact CF_three f _ _ _ (w11 c).2 (by omega)
    · rw [if_neg (by omega), if_neg (by omega), if_neg (by omega), if_pos c] at em
      refine CF_three f _ _ _ ((w10 c).2 g hg hb) ?_
      rcases (show g = 0 ∨ g = 1 ∨ g = 2 by omega) with rfl | rfl | rfl
      · show mch (nX t) ≤ 3
        omega
      · show mch (nY t) ≤ 3
        omega
      · show mch (nZ t) ≤ 3
        omega
    · rw [if_neg (by omega), if_neg (by omega), if_neg (by omega), if_neg (by omega)] at em
      have a1 := mpos _ _ _ (w7 (Or.inr c)).1
      have a2 := mpos _ _ _ (w7 (Or.inr c)).2
      omega
/-- a term of five characters with an instance has no choice -/
theorem CF_five {f D : Nat} {sc : List Nat} {t : Ty} (w : TWf f D sc t) (hq : hasq f t = true) (h : mch t ≤ 5) : CFt f t := by
  cases f with
  | zero => exact w.elim
  | succ f =>
    obtain ⟨w0, w5, w6, w7, w8, w9, w10, w11, w12⟩ := w
    have em := mch_is w0.2.1
    have mpos : ∀ D sc (u : Ty), TWf f D sc u → 1 ≤ mch u := by
      intro D sc u wu
      cases f with
      | zero => exact wu.elim
      | succ f => exact mch_pos wu
    have two : ∀ D sc (u : Ty), TWf f D sc u → hasq f u = true → 3 ≤ mch u := by
      intro D sc u wu hu
      by_cases c : mch u ≤ 2
      · rw [hasq_two wu c] at hu; cases hu
      · omega
    refine ⟨fun c => ?_, fun c => ?_, fun c g hg hb => ?_, fun c => ?_⟩
    · rw [if_neg (by omega), if_pos c] at em
      have : mch (nY t) ≤ 1 := by omega
      rcases c with c | c
      · exact CF_three f _ _ _ (w6 c).2.2.2 (by omega)
      · exact CF_three f _ _ _ (w8 c).2.2 (by omega)
    · rcases c with c | c | c
      · rw [if_neg (by omega), if_neg (by omega), if_neg (by omega), if_neg (by omega)] at em
        exact CF_three f _ _ _ (w7 (Or.inl c)).1 (by omega)
      · rw [if_neg (by omega), if_neg (by omega), if_pos c] at em
        have := tch_pos (w9 c).2.1
        exact CF_three f _ _ _ (w9 c).1 (by omega)
      · rw [if_neg (by omega), if_neg (by omega), if_neg (by omega), if_neg (by omega)] at em
        exact CF_three f _ _ _ (w11 c).2 (by omega)
    · rw [if_neg (by omega), if_neg (by omega), if_neg (by omega), if_pos c] at em
      refine CF_three f _ _ _ ((w10 c).2 g hg hb) ?_
      have : 2 ≤ (if nMk t = 0 then 2 else 1 + 3 * nlb (nMk t)) := by
        by_cases c0 : nMk t = 0
        · rw [if_pos c0]; omega
        · rw [if_neg c0]
          have key : ∀ m, m < 8 → m ≠ 0 → 1 ≤ nlb m := by decide
          have := key (nMk t) (w10 c).1 c0
          omega
      rcases (show g = 0 ∨ g = 1 ∨ g = 2 by omega) with rfl | rfl | rfl
      · show mch (nX t) ≤ 3
        omega
      · show mch (nY t) ≤ 3
        omega
      · show mch (nZ t) ≤ 3
        omega
    · rw [if_neg (by omega), if_neg (by omega), if_neg (by omega), if_neg (by omega)] at em
      have a1 := mpos _ _ _ (w7 (Or.inr c)).1
      have a2 := mpos _ _ _ (w7 (Or.inr c)).2
      unfold hasq at hq
      rw [if_neg (by omega), if_neg (by omega), if_neg (by omega), if_neg (by omega), if_neg (by omega), Bool.or_eq_true] at hq
      rcases hq with hq | hq
      · have := two _ _ _ (w7 (Or.inr c)).1 hq
        omega
      · have := two _ _ _ (w7 (Or.inr c)).2 hq
        omega
