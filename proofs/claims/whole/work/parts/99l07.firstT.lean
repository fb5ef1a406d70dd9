/-! FIRST USE, FOR TERMS: the type of a short term whose instances expose nothing. -/
section PmL7
variable {t0 s2 : Nat} {n1 h : Nat → Nat}
/-- the values as they are by nature keep what is asked -/
theorem onz_cv (hn : NC t0 n1 s2 h) : ∀ {Γ : List Ty}, okc Γ → CV t0 n1 s2 h (onz t0 n1 s2 h Γ) Γ
  | [], _ => trivial
  | b :: Γ, hc => by
    have ih := onz_cv hn hc.2
    exact ih.ext hn hc.2 hc.1
end PmL7
theorem NC_rows (b : Bool) (e : Nat) : NC 0 (fun _ => 1 + e) (2 + e) (vlr b e) := by
  refine ⟨fun _ => Nat.zero_le _, Nat.zero_le _, fun y => ?_, fun w m m' _ _ => ?_⟩
  · unfold vlr; split <;> omega
  · show 1 + e ≤ 1 + e + (1 + e); omega
theorem vlr_mono (b : Bool) (e : Nat) : ∀ y y', y ≤ y' → vlr b e y ≤ vlr b e y' := by
  intro y y' hy
  unfold vlr
  split <;> omega
theorem ngc_l0 : ∀ m, m < 8 → ∀ m', m' < 8 → ngc (8 + lset 0 m m') ≤ ngc (8 + m) + ngc (8 + m') := by decide
theorem ngc_l1 : ∀ m, m < 8 → ∀ m', m' < 8 → ngc (8 + lset 1 m m') ≤ ngc (8 + m) + ngc (8 + m') := by decide
theorem NC_goals : NC 1 ngc 1 (fun x => x) := by
  refine ⟨fun c => ?_, Nat.le_refl _, fun y => Nat.le_refl _, fun w m m' hm hm' => ?_⟩
  · unfold ngc; split <;> omega
  · by_cases e : w = 0
    · subst e; exact ngc_l0 m hm m' hm'
    · have e2 : lset w m m' = lset 1 m m' := by unfold lset; rw [if_neg e, if_neg (by decide)]
      rw [e2]; exact ngc_l1 m hm m' hm'
theorem tbs1 (b : Bool) : TBs 58 0 2 3 1 2 2 2 2 1 (fun _ => 1 + 1) (vlr b 1) pp1 pq1 fr1 fs1 fx1 := ⟨fr1_ok, fx1_ok, vlr_H b 1, Nat.le_refl _, fun m _ => by by_cases h0 : nlb m = 0 <;> by_cases h1 : nlb m = 1 <;> by_cases h2 : nlb m = 2 <;> simp [h0, h1, h2], pp1_ok, Nat.le_refl _, by decide⟩
theorem tbsq : TBs 58 1 1 1 0 1 3 2 1 1 ngc (fun x => x) ppq pqq frq fsq fxq := ⟨frq_ok, fxq_ok, fun y x _ => by show y ≤ 0 + max y x; omega, Nat.le_refl _, ngc_r, ppq_ok, Nat.le_refl _, Nat.le_refl _⟩
theorem NC_nodes : NC 0 (fun _ => 1) 1 (fun y => max 1 y) := by
  refine ⟨fun _ => Nat.zero_le _, Nat.zero_le _, fun y => Nat.le_max_right _ _, fun w m m' _ _ => ?_⟩
  show 1 ≤ 1 + 1; omega
theorem tbsG : TBs 58 0 1 1 0 1 1 1 1 1 (fun _ => 1) (fun y => max 1 y) ppG pqG frG fsG fxG := ⟨frG_ok, fxG_ok, fun y x _ => by show max 1 y ≤ 0 + max y x; omega, Nat.le_refl _, fun m _ => by by_cases h0 : nlb m = 0 <;> by_cases h1 : nlb m = 1 <;> by_cases h2 : nlb m = 2 <;> simp [h0, h1, h2], ppG_ok, Nat.le_refl _, by decide⟩
section PmL8
variable {f : Nat} {t : Ty} {Γ : List Ty} {Δ : List (Nat × Ty × Nat)} {S : Ty}
theorem first_rows (b : Bool) (w : TWf f Γ.length (Δ.map (fun a => a.1)) t) (he : TE Γ Δ) (hx : EX0 f t Γ Δ) (hS : tyF f t Γ Δ = .inr S) (hc : cch Γ + dch Δ + 2 * mch t ≤ 58) : nz 0 (fun _ => 1 + 1) (2 + 1) (vlr b 1) (onz 0 (fun _ => 1 + 1) (2 + 1) (vlr b 1) Γ) S ≤ 570 := by
  have mp : 1 ≤ mch t := by
    cases f with
    | zero => exact w.elim
    | succ f => exact mch_pos w
  have l1 := onz_len 0 (fun _ => 1 + 1) (2 + 1) (vlr b 1) Γ
  have q1 := tyF_nz0 (NC_rows b 1) (vlr_mono b 1) f t Γ Δ S _ w he hx (onz_cv (NC_rows b 1) he.1) hS
  have q2 := GV0_le (tbs1 b) f t (onz 0 (fun _ => 1 + 1) (2 + 1) (vlr b 1) Γ) Γ Δ (cch Γ) (dch Δ) w he l1 (fun j hj => onz_chars fr1_ok fx1_ok (vlr_H b 1) (Nat.le_refl _) (tbs1 b).2.2.2.2.1 Γ he.1 (by omega) j (by rw [l1] at hj; exact hj)) (Nat.le_refl _) hc
  have q3 := rng_all (rng_all pp1_le (i := cch Γ + dch Δ) (by omega)) (i := mch t - 1) (by omega)
  rw [decide_eq_true_iff, show mch t - 1 + 1 = mch t by omega] at q3
  exact Nat.le_trans q1 (Nat.le_trans q2 q3)
theorem first_goals (w : TWf f Γ.length (Δ.map (fun a => a.1)) t) (he : TE Γ Δ) (hx : EX0 f t Γ Δ) (hS : tyF f t Γ Δ = .inr S) (hc : cch Γ + dch Δ + 2 * mch t ≤ 58) : nz 1 ngc 1 (fun x => x) (onz 1 ngc 1 (fun x => x) Γ) S ≤ 430 := by
  have mp : 1 ≤ mch t := by
    cases f with
    | zero => exact w.elim
    | succ f => exact mch_pos w
  have l1 := onz_len 1 ngc 1 (fun x => x) Γ
  have q1 := tyF_nz0 NC_goals (fun y y' hy => hy) f t Γ Δ S _ w he hx (onz_cv NC_goals he.1) hS
  have q2 := GV0_le tbsq f t (onz 1 ngc 1 (fun x => x) Γ) Γ Δ (cch Γ) (dch Δ) w he l1 (fun j hj => onz_chars frq_ok fxq_ok tbsq.2.2.1 (Nat.le_refl _) ngc_r Γ he.1 (by omega) j (by rw [l1] at hj; exact hj)) (Nat.le_refl _) hc
  have q3 := rng_all (rng_all ppq_le (i := cch Γ + dch Δ) (by omega)) (i := mch t - 1) (by omega)
  rw [decide_eq_true_iff, show mch t - 1 + 1 = mch t by omega] at q3
  exact Nat.le_trans q1 (Nat.le_trans q2 q3)
theorem first_nodes (w : TWf f Γ.length (Δ.map (fun a => a.1)) t) (he : TE Γ Δ) (hx : EX0 f t Γ Δ) (hS : tyF f t Γ Δ = .inr S) (hc : cch Γ + dch Δ + 2 * mch t ≤ 58) : nz 0 (fun _ => 1) 1 (fun y => max 1 y) (onz 0 (fun _ => 1) 1 (fun y => max 1 y) Γ) S ≤ 250 := by
  have mp : 1 ≤ mch t := by
    cases f with
    | zero => exact w.elim
    | succ f => exact mch_pos w
  have l1 := onz_len 0 (fun _ => 1) 1 (fun y => max 1 y) Γ
  have q1 := tyF_nz0 NC_nodes (fun y y' hy => by show max 1 y ≤ max 1 y'; omega) f t Γ Δ S _ w he hx (onz_cv NC_nodes he.1) hS
  have q2 := GV0_le tbsG f t (onz 0 (fun _ => 1) 1 (fun y => max 1 y) Γ) Γ Δ (cch Γ) (dch Δ) w he l1 (fun j hj => onz_chars frG_ok fxG_ok tbsG.2.2.1 (Nat.le_refl _) tbsG.2.2.2.2.1 Γ he.1 (by omega) j (by rw [l1] at hj; exact hj)) (Nat.le_refl _) hc
  have q3 := rng_all (rng_all ppG_le (i := cch Γ + dch Δ) (by omega)) (i := mch t - 1) (by omega)
  rw [decide_eq_true_iff, show mch t - 1 + 1 = mch t by omega] at q3
  exact Nat.le_trans q1 (Nat.le_trans q2 q3)
end PmL8
