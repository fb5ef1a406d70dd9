/-! A TERM WITHOUT AN INSTANCE, with binders of types or not. -/
/-- has the term an instance on the way to its type? -/
def hasi : Nat → Ty → Bool
  | 0, _ => false
  | f + 1, t => if nKd t = 5 then false else if nKd t = 6 ∨ nKd t = 8 then hasi f (nY t) else if nKd t = 7 ∨ nKd t = 11 then hasi f (nX t) else if nKd t = 9 then true else if nKd t = 10 then (hasi f (nX t) || (hasi f (nY t) || hasi f (nZ t))) else (hasi f (nX t) || hasi f (nY t))
theorem EX0_hasi : ∀ (f : Nat) (t : Ty) (Γ : List Ty) (Δ : List (Nat × Ty × Nat)) (D : Nat) (sc : List Nat), TWf f D sc t → hasi f t = false → EX0 f t Γ Δ
  | 0, _, _, _, _, _, w, _ => w.elim
  | f + 1, t, Γ, Δ, D, sc, w, e => by
    obtain ⟨w0, w5, w6, w7, w8, w9, w10, w11, w12⟩ := w
    have ih := fun u Γ' Δ' D sc (wu : TWf f D sc u) => EX0_hasi f u Γ' Δ' D sc wu
    unfold hasi at e
    refine ⟨fun c6 => ?_, fun c7 => ?_, fun c8 => ?_, fun c9 => ?_, fun c10 g hg hb => ?_, fun c12 => ?_⟩
    · obtain ⟨-, x1, x2, x3⟩ := w6 c6
      rw [if_neg (by omega), if_pos (Or.inl c6)] at e
      exact ih _ _ _ _ _ x3 e
    · rw [if_neg (by omega), if_neg (by omega), if_pos c7] at e
      rcases c7 with c | c
      · exact ih _ _ _ _ _ (w7 (Or.inl c)).1 e
      · exact ih _ _ _ _ _ (w11 c).2 e
    · rw [if_neg (by omega), if_pos (Or.inr c8)] at e
      exact ih _ _ _ _ _ (w8 c8).2.2 e
    · rw [if_neg (by omega), if_neg (by omega), if_neg (by omega), if_pos c9] at e
      cases e
    · rw [if_neg (by omega), if_neg (by omega), if_neg (by omega), if_neg (by omega), if_pos c10, Bool.or_eq_false_iff, Bool.or_eq_false_iff] at e
      obtain ⟨m8, x1⟩ := w10 c10
      have eg : hasi f (nP t g) = false := by
        rcases (show g = 0 ∨ g = 1 ∨ g = 2 by omega) with rfl | rfl | rfl
        · exact e.1
        · exact e.2.1
        · exact e.2.2
      exact ih _ _ _ _ _ (x1 g hg hb) eg
    · obtain ⟨x1, x2⟩ := w7 (Or.inr c12)
      rw [if_neg (by omega), if_neg (by omega), if_neg (by omega), if_neg (by omega), if_neg (by omega), Bool.or_eq_false_iff] at e
      exact ⟨ih _ _ _ _ _ x1 e.1, ih _ _ _ _ _ x2 e.2⟩
section PmWK
variable {f : Nat} {t x y C : Ty} {Γ0 Δ1 : List Ty} {Δ : List (Nat × Ty × Nat)} {W1 Wq : FrT}
theorem ntv_ni {m : Nat} (G1 : ∀ b, GrW 0 (fun _ => 1 + 1) (2 + 1) (vlr b 1) W1 C Γ0 Δ1) (Gq : GrW 1 ngc 1 (fun x => x) Wq C Γ0 Δ1) (w : TWf f (cxs Δ1 Γ0 (tAll tTop C)).length (Δ.map (fun a => a.1)) t) (he : TE (cxs Δ1 Γ0 (tAll tTop C)) Δ) (nq : hasi f t = false) (hz : nqt W1 Wq (tch C) (cch Γ0) (cch Δ1) m (mch t) = true) (hb : cch (cxs Δ1 Γ0 (tAll tTop C)) + dch Δ + (2 + (m + mch t)) ≤ 60) (h47 : cch (cxs Δ1 Γ0 (tAll tTop C)) ≤ 47) : NtV (cxs Δ1 Γ0 (tAll tTop C)) Δ f t 830 597 := by
  obtain ⟨oc0, oA⟩ := okc_low Δ1 he.1
  have oC := (ok_all.mp oA).2
  have ec : cch (cxs Δ1 Γ0 (tAll tTop C)) = 9 + tch C + cch Γ0 + cch Δ1 := by
    rw [cch_cx, tch_all, tch_top]
    omega
  unfold nqt fvp at hz
  generalize nqc xr1 W1 fx1 1 3 2 (tch C) (cch Γ0) (cch Δ1) = c1 at hz
  generalize nqc xrq Wq fxq 0 1 1 (tch C) (cch Γ0) (cch Δ1) = cq at hz
  rw [Bool.and_eq_true, Bool.and_eq_true, Bool.and_eq_true, Bool.and_eq_true, Bool.and_eq_true] at hz
  obtain ⟨z1, zq, b1, bq, p1, pq⟩ := hz
  have b1 := Nat.le_of_ble_eq_true b1
  have bq := Nat.le_of_ble_eq_true bq
  have p1 := Nat.le_of_ble_eq_true p1
  have pq := Nat.le_of_ble_eq_true pq
  refine fun S hS => ⟨fun b => ?_, ?_⟩
  · obtain ⟨v, hv, x1, x2⟩ := xr_form (t0 := 0) (n1 := fun _ => 1 + 1) (s2 := 3) (hv := 1) xr1_ok (tbs1 b).2.2.2.1 (tbs1 b).2.2.2.2.1 _ C (Γ0.length + 1) (Nat.le_refl _) oC (by omega)
    obtain ⟨p, hp, e, he', -, g2, -⟩ := nat_ctxg (wB := 2) (v := v) (q2 := cch Δ1) (W := W1) (tbs1 b) (vlr_one b) (by decide) he.1 x1 x2 (by rw [nz_top]; exact vlr_one b 0) (Nat.le_refl _) (by omega) (G1 b)
    have q0 := fvz_get z1 hv hp he'
    have q1 := tyF_nz0 (NC_rows b 1) (vlr_mono b 1) f t _ Δ S _ w he (EX0_hasi f t _ Δ _ _ w nq) (onz_cv (NC_rows b 1) he.1) hS
    have q2 := GV0_le (tbs1 b) f t (onz 0 (fun _ => 1 + 1) (2 + 1) (vlr b 1) (cxs Δ1 Γ0 (tAll tTop C))) _ Δ c1 (58 - (9 + tch C + cch Γ0 + cch Δ1) - (m + mch t)) w he (onz_len ..) (fun j hj => Nat.le_trans (g2 j (by rw [onz_len] at hj; exact hj)) q0) (by omega) b1
    exact Nat.le_trans q1 (Nat.le_trans q2 p1)
  · obtain ⟨v, hv, x1, x2⟩ := xr_form (t0 := 1) (n1 := ngc) (s2 := 1) (hv := 0) xrq_ok tbsq.2.2.2.1 tbsq.2.2.2.2.1 _ C (Γ0.length + 1) (Nat.le_refl _) oC (by omega)
    obtain ⟨p, hp, e, he', -, g2, -⟩ := nat_ctxg (wB := 1) (v := v) (q2 := cch Δ1) (W := Wq) tbsq (fun y => by show y ≤ 0 + max 1 y; omega) (by decide) he.1 x1 x2 (by rw [nz_top]; exact Nat.le_refl _) (Nat.le_refl _) (by omega) Gq
    have q0 := fvz_get zq hv hp he'
    have q1 := tyF_nz0 NC_goals (fun y y' hy => hy) f t _ Δ S _ w he (EX0_hasi f t _ Δ _ _ w nq) (onz_cv NC_goals he.1) hS
    have q2 := GV0_le tbsq f t (onz 1 ngc 1 (fun x => x) (cxs Δ1 Γ0 (tAll tTop C))) _ Δ cq (58 - (9 + tch C + cch Γ0 + cch Δ1) - (m + mch t)) w he (onz_len ..) (fun j hj => Nat.le_trans (g2 j (by rw [onz_len] at hj; exact hj)) q0) (by omega) bq
    exact Nat.le_trans q1 (Nat.le_trans q2 pq)
/-- pairs, one term without an instance -/
theorem pair_ni (G1 : ∀ b, GrW 0 (fun _ => 1 + 1) (2 + 1) (vlr b 1) W1 C Γ0 Δ1) (Gq : GrW 1 ngc 1 (fun x => x) Wq C Γ0 Δ1) (x1 : TWf f (cxs Δ1 Γ0 (tAll tTop C)).length (Δ.map (fun a => a.1)) x) (x2 : TWf f (cxs Δ1 Γ0 (tAll tTop C)).length (Δ.map (fun a => a.1)) y) (he : TE (cxs Δ1 Γ0 (tAll tTop C)) Δ) (y1 : NAt f x) (y2 : NAt f y) (hv : noac (cxs Δ1 Γ0 (tAll tTop C))) (hd' : ∀ a ∈ Δ, noal a.2.1 = true) (hz : (hasi f y = false ∧ nqt W1 Wq (tch C) (cch Γ0) (cch Δ1) (mch x) (mch y) = true) ∨ (hasi f x = false ∧ nqt W1 Wq (tch C) (cch Γ0) (cch Δ1) (mch y) (mch x) = true)) (hb : cch (cxs Δ1 Γ0 (tAll tTop C)) + dch Δ + (2 + (mch x + mch y)) ≤ 60) (h47 : cch (cxs Δ1 Γ0 (tAll tTop C)) ≤ 47) : PRn f x y (cxs Δ1 Γ0 (tAll tTop C)) Δ := by
  refine pair_ntv x1 x2 he y1 y2 hv hd' (by omega) ?_
  rcases hz with ⟨nq, hz⟩ | ⟨nq, hz⟩
  · exact Or.inr (ntv_ni G1 Gq x2 he nq hz hb h47)
  · exact Or.inl (ntv_ni G1 Gq x1 he nq hz (by omega) h47)
end PmWK
