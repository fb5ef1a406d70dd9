/-! CONTEXTS WITH AN ALIAS IN WHICH OPERATIONS REACH NO SCHEME: terms without choices under arguments. -/
def T0RQ (un e : Bool) (ob cd m y : Nat) : Prop := 1 ≤ y ∧ (e = false → 5 ≤ cd → dpD un fr1 fg1 0 1 2 3 2 2 2 2 0 0 0 ob 0 y cd m ≤ 780) ∧ (e = true → dpD un fr1 fg1 5 1 2 3 2 2 2 2 0 0 0 ob 0 y 0 m ≤ 780)
def T0GQ (un e : Bool) (ob cd m y : Nat) : Prop := 1 ≤ y ∧ (e = false → 5 ≤ cd → dpD un frq fgq 0 0 1 1 1 3 2 1 0 0 0 ob 0 y cd m ≤ 597) ∧ (e = true → dpD un frq fgq 5 0 1 1 1 3 2 1 0 0 0 ob 0 y 0 m ≤ 597)
/-- one row of the check: this many characters in the term, the context from twenty on -/
def q0c (m c : Nat) : Bool := Nat.blt c 20 || (Nat.blt 53 (c + 2 * m) || (Nat.ble 1 (fx1.getD c 0) && (Nat.ble 1 (fxq.getD c 0) && (if Nat.ble 6 m then Nat.ble (dpD true fr1 fg1 5 1 2 3 2 2 2 2 0 0 0 0 0 (fx1.getD c 0) 0 m) 780 && Nat.ble (dpD true frq fgq 5 0 1 1 1 3 2 1 0 0 0 0 0 (fxq.getD c 0) 0 m) 597 else true) && (Nat.blt (53 - 2 * m - c) 5 || Nat.blt 8 m || (Nat.ble (dpD true fr1 fg1 0 1 2 3 2 2 2 2 0 0 0 0 0 (fx1.getD c 0) (53 - 2 * m - c) m) 780 && Nat.ble (dpD true frq fgq 0 0 1 1 1 3 2 1 0 0 0 0 0 (fxq.getD c 0) (53 - 2 * m - c) m) 597)))))
theorem q0c_3 : (List.range 48).all (q0c 3) = true := by decide +kernel
theorem q0c_4 : (List.range 48).all (q0c 4) = true := by decide +kernel
theorem q0c_5 : (List.range 48).all (q0c 5) = true := by decide +kernel
theorem q0c_6 : (List.range 48).all (q0c 6) = true := by decide +kernel
theorem q0c_7 : (List.range 48).all (q0c 7) = true := by decide +kernel
theorem q0c_8 : (List.range 48).all (q0c 8) = true := by decide +kernel
theorem q0c_9 : (List.range 48).all (q0c 9) = true := by decide +kernel
theorem q0c_10 : (List.range 48).all (q0c 10) = true := by decide +kernel
theorem q0c_11 : (List.range 48).all (q0c 11) = true := by decide +kernel
theorem q0c_12 : (List.range 48).all (q0c 12) = true := by decide +kernel
theorem q0c_13 : (List.range 48).all (q0c 13) = true := by decide +kernel
section PmZu1a
variable {f : Nat} {t : Ty} {Γ : List Ty} {Δ : List (Nat × Ty × Nat)} {un e : Bool} {cd ob : Nat}
theorem zone_0iQ (w : TWf f Γ.length (Δ.map (fun a => a.1)) t) (he : TE Γ Δ) (hΔ : (e = true ∧ Δ = []) ∨ (e = false ∧ Δ ≠ [])) (cu : un = true ∨ COk f t 0) (ch : CHo f t []) (m30 : mch t ≤ 30) (hdd : dch Δ ≤ cd) (hcd : cd ≤ 56) (hb0 : ∀ b ∈ Γ, IS2 (fun _ => False) b) (c56 : ccq Γ ≤ 56) (TR : T0RQ un e ob cd (mch t) (fx1.getD (ccq Γ) 0)) (TG : T0GQ un e ob cd (mch t) (fxq.getD (ccq Γ) 0)) : NtQ Γ Δ f t 780 597 := by
  have d5 : Δ ≠ [] → 5 ≤ cd := fun e => Nat.le_trans (dch_five he e) hdd
  have hch : CHo f t (([] : Stk).map Option.isSome) := ch
  obtain ⟨yR, R0, R5⟩ := TR
  obtain ⟨yG, G0, G5⟩ := TG
  refine fun S hS => ⟨?_, ?_⟩
  · have l1 := onq_len 0 (fun _ => 1 + 1) (2 + 1) (vlr false 1) Γ
    have hw : ∀ j, j < Γ.length → vw (onq 0 (fun _ => 1 + 1) (2 + 1) (vlr false 1) Γ) j ≤ fx1.getD (ccq Γ) 0 := fun j hj => onq_chars (n1 := fun _ => 1 + 1) (tbs1 false).1 (tbs1 false).2.1 (tbs1 false).2.2.1 (tbs1 false).2.2.2.1 (tbs1 false).2.2.2.2.1 Γ he.1 c56 j hj
    have hk : ∀ cd : Nat, HEk 0 (fun _ => 1 + 1) (2 + 1) (vlr false 1) (E2 (X7w fr1 fg1 (fx1.getD (ccq Γ) 0) cd (mch t)) (ebw fr1 fg1 1 (fx1.getD (ccq Γ) 0) cd (mch t) 0 0 0 ob) (e2w fr1 fg1 1 (fx1.getD (ccq Γ) 0) cd (mch t) 0)) Γ (onq 0 (fun _ => 1 + 1) (2 + 1) (vlr false 1) Γ) := fun cd => HE_sfq ebw_mono e2w_mono (vlr_mono false 1) (vlr_lip false 1) (NC_rows false 1) (Nat.le_max_left _ _) he.1 hw (fun Δ' b' Γ' e' o9 _ _ => Or.inr (Or.inr (IS2_okt _ _ b' (Nat.le_refl _) o9 (fun _ _ _ _ p => p.elim) (hb0 b' (by rw [e']; simp)))))
    have go : ∀ E Z, AQh 0 (fun _ => 1 + 1) (2 + 1) (vlr false 1) E Z f t [] (onq 0 (fun _ => 1 + 1) (2 + 1) (vlr false 1) Γ) → HEk 0 (fun _ => 1 + 1) (2 + 1) (vlr false 1) E Γ (onq 0 (fun _ => 1 + 1) (2 + 1) (vlr false 1) Γ) → GOk 0 (fun _ => 1 + 1) (2 + 1) (vlr false 1) E f t [] (onq 0 (fun _ => 1 + 1) (2 + 1) (vlr false 1) Γ) Γ Δ := fun E Z aq hE => GH_natc (E := E) (Z := Z) (NC_rows false 1) (vlr_mono false 1) f t [] _ _ Δ w he hch aq (onq_cv (NC_rows false 1) he.1) hE
    rcases hΔ with ⟨ee, cΔ⟩ | ⟨ee, cΔ⟩
    · exact gen_fin6 (un := un) (a5 := 5) (cd := 0) (wB := 0) (E0 := 0) (p := 0) (ob := ob) (k := 0) (NC_rows false 1) (vlr_mono false 1) (tbs1 false) fr1_m fg1_ok fg1_m fg1s_1 (by decide) (vlr_one false) w he l1 cu m30 (by rw [cΔ]; exact Nat.le_refl _) (Nat.zero_le _) (Nat.le_refl _) (fun e => absurd cΔ e) yR (fun j hj => hw j (by rw [l1] at hj; exact hj)) (hk 0) go (R5 ee) hS
    · exact gen_fin6 (un := un) (a5 := 0) (cd := cd) (wB := 0) (E0 := 0) (p := 0) (ob := ob) (k := 0) (NC_rows false 1) (vlr_mono false 1) (tbs1 false) fr1_m fg1_ok fg1_m fg1s_1 (by decide) (vlr_one false) w he l1 cu m30 hdd hcd (Nat.zero_le _) (fun _ => rfl) yR (fun j hj => hw j (by rw [l1] at hj; exact hj)) (hk cd) go (R0 ee (d5 cΔ)) hS
  · rw [← onq_id]
    have l1 := onq_len 1 ngc 1 (fun x => x) Γ
    have hw : ∀ j, j < Γ.length → vw (onq 1 ngc 1 (fun x => x) Γ) j ≤ fxq.getD (ccq Γ) 0 := fun j hj => onq_chars (n1 := ngc) tbsq.1 tbsq.2.1 tbsq.2.2.1 tbsq.2.2.2.1 tbsq.2.2.2.2.1 Γ he.1 c56 j hj
    have hk : ∀ cd : Nat, HEk 1 ngc 1 (fun x => x) (E2 (X7w frq fgq (fxq.getD (ccq Γ) 0) cd (mch t)) (ebw frq fgq 0 (fxq.getD (ccq Γ) 0) cd (mch t) 0 0 0 ob) (e2w frq fgq 0 (fxq.getD (ccq Γ) 0) cd (mch t) 0)) Γ (onq 1 ngc 1 (fun x => x) Γ) := fun cd => HE_sfq ebw_mono e2w_mono (fun y y' hy => hy) (fun y δ => Nat.le_refl _) NC_goals (Nat.le_max_left _ _) he.1 hw (fun Δ' b' Γ' e' o9 _ _ => Or.inr (Or.inr (IS2_okt _ _ b' (Nat.le_refl _) o9 (fun _ _ _ _ p => p.elim) (hb0 b' (by rw [e']; simp)))))
    have go : ∀ E Z, AQh 1 ngc 1 (fun x => x) E Z f t [] (onq 1 ngc 1 (fun x => x) Γ) → HEk 1 ngc 1 (fun x => x) E Γ (onq 1 ngc 1 (fun x => x) Γ) → GOk 1 ngc 1 (fun x => x) E f t [] (onq 1 ngc 1 (fun x => x) Γ) Γ Δ := fun E Z aq hE => GH_natc (E := E) (Z := Z) NC_goals (fun y y' hy => hy) f t [] _ _ Δ w he hch aq (onq_cv NC_goals he.1) hE
    rcases hΔ with ⟨ee, cΔ⟩ | ⟨ee, cΔ⟩
    · exact gen_fin6 (un := un) (a5 := 5) (cd := 0) (wB := 0) (E0 := 0) (p := 0) (ob := ob) (k := 0) NC_goals (fun y y' hy => hy) tbsq frq_m fgq_ok fgq_m fg1s_q (by decide) (fun y => by show y ≤ 0 + max 1 y; omega) w he l1 cu m30 (by rw [cΔ]; exact Nat.le_refl _) (Nat.zero_le _) (Nat.le_refl _) (fun e => absurd cΔ e) yG (fun j hj => hw j (by rw [l1] at hj; exact hj)) (hk 0) go (G5 ee) hS
    · exact gen_fin6 (un := un) (a5 := 0) (cd := cd) (wB := 0) (E0 := 0) (p := 0) (ob := ob) (k := 0) NC_goals (fun y y' hy => hy) tbsq frq_m fgq_ok fgq_m fg1s_q (by decide) (fun y => by show y ≤ 0 + max 1 y; omega) w he l1 cu m30 hdd hcd (Nat.zero_le _) (fun _ => rfl) yG (fun j hj => hw j (by rw [l1] at hj; exact hj)) (hk cd) go (G0 ee (d5 cΔ)) hS
end PmZu1a
