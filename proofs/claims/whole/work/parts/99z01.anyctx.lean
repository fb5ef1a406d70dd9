/-! ANY CONTEXT: the table, where what the bounds are worth under operations is given. -/
section PmZ1
variable {t0 fn s2 hv r0 r1 r2 r3 x0 : Nat} {n1 h : Nat → Nat} {P Q : List (List Nat)} {F G W : FrT} {X : List Nat}
theorem gen_fin6 (hn : NC t0 n1 s2 h) (hm : ∀ y y', y ≤ y' → h y ≤ h y') (T : TBs 58 t0 fn s2 hv r0 r1 r2 r3 x0 n1 h P Q F G X) (hFm : frm F = true) (hgr : fgc F W hv = true) (hWm : fgm W = true) (hW1 : fg1s W = true) (hW : (1, 0) ∈ frg W 0) (H1 : ∀ y, h y ≤ hv + max 1 y) {f : Nat} {t S : Ty} {Γ : List Ty} {ω : List Nat} {Δ : List (Nat × Ty × Nat)} {un : Bool} {a5 ob cd wB Bd y E0 p k : Nat} (w : TWf f Γ.length (Δ.map (fun a => a.1)) t) (he : TE Γ Δ) (l1 : ω.length = Γ.length) (cu : un = true ∨ COk f t 0) (hm30 : mch t ≤ 30) (hdc : dch Δ ≤ cd) (hcd : cd ≤ 56) (a55 : a5 ≤ 5) (ha5 : Δ ≠ [] → a5 = 0) (y01 : x0 ≤ y) (hω2 : ∀ j, j < ω.length → vw ω j ≤ y) (hk1 : HEk t0 n1 s2 h (E2 (X7w F W y cd (mch t)) (ebw F W hv y cd (mch t) E0 p wB ob) (e2w F W hv y cd (mch t) k)) Γ ω) (go : ∀ E Z, AQh t0 n1 s2 h E Z f t [] ω → HEk t0 n1 s2 h E Γ ω → GOk t0 n1 s2 h E f t [] ω Γ Δ) (R1 : dpD un F W a5 hv fn s2 r0 r1 r2 r3 E0 p wB ob k y cd (mch t) ≤ Bd) (hS : tyF f t Γ Δ = .inr S) : nz t0 n1 s2 h ω S ≤ Bd := by
  have dh := dh_ok (un := un) (a5 := a5) (ob := ob) (cd := cd) (wB := wB) (y := y) (E0 := E0) (p := p) (k := k) (mt := mch t) hn hm T hFm hgr hWm hW1 hW H1 hm30 a55 y01
  have gy0 : y ≤ gyw W y 0 := by
    have a0 := Zx_mem (x := y) (frg W 0) (1, 0) hW
    simp only at a0
    show y ≤ (frg W 0).foldr (fun u a => max (u.2 + u.1 * y) a) 0
    omega
  have aq := DQa dh f t [] ω Γ _ 0 0 w l1 (fun j hj => Nat.le_trans (hω2 j hj) gy0) (by omega) (fun e => absurd rfl e)
  have dv : DVn t0 n1 s2 h (E2 (X7w F W y cd (mch t)) (ebw F W hv y cd (mch t) E0 p wB ob) (e2w F W hv y cd (mch t) k)) (Vbw F W y cd 0) ω Δ := by
    intro a ha
    obtain ⟨a1, a2, a3⟩ := he.2.2 a ha
    have ad := dch_mem ha
    have al : a.2.2 ≤ ω.length := by rw [l1]; exact a1
    have ll : (ω.drop (ω.length - a.2.2)).length = a.2.2 := by rw [List.length_drop]; omega
    have vv : ∀ j, j < (ω.drop (ω.length - a.2.2)).length → vw (ω.drop (ω.length - a.2.2)) j ≤ y := by
      intro j hj
      have q := vw_app_lo (ω.take (ω.length - a.2.2)) _ j hj
      rw [List.take_append_drop] at q
      rw [← q]
      exact hω2 j (by rw [ll] at hj; omega)
    refine ⟨ω.take (ω.length - a.2.2), ω.drop (ω.length - a.2.2), (List.take_append_drop _ _).symm, ll, by rw [ll]; exact a2, ?_, ?_⟩
    · have q1 := Zx_le T (x := y) (A := a.2.1) (by rw [ll]; exact a2) (by omega) y01 vv
      have q2 := Zx_ms hFm (x := y) (s := tch a.2.1 + 2) (s' := cd - 2) (by omega) (by omega)
      exact Nat.le_trans q1 (Nat.le_trans q2 (Nat.le_max_left _ _))
    · have c1 : Zx F y (cd - 2 - 3) ≤ X7w F W y cd (mch t) := by
        unfold X7w
        exact le_mx (Or.inr (Nat.le_max_left _ _))
      have c2 : ∀ z, cpw F hv y (cd - 2) z ≤ cpo F W hv y cd (mch t) z := fun z => Nat.le_max_left _ _
      exact txt_cp hm T hFm H1 ebw_mono e2w_mono y01 (show cd - 2 ≤ 56 by omega) c1 (fun z => ⟨by unfold ebw; exact le_mx (Or.inr (c2 z)), by unfold e2w; exact le_mx (Or.inr (c2 z))⟩) (by rw [ll]; exact a2) (by omega) vv
  have q1 := tyF_vz hm f t Γ Δ S [] ω w he hk1 (go _ _ aq hk1) hS
  rw [vz_no (tyF_ok f t _ Δ S w he hS).1] at q1
  have q2 := (DQ_all dh f t [] ω Γ Δ 0 0 w l1 dv (fun j hj => Nat.le_trans (hω2 j hj) gy0) (by omega) (fun e => by have := ha5 e; omega) (fun e => absurd rfl e) cu).1 rfl
  exact Nat.le_trans q1 (Nat.le_trans q2 R1)
end PmZ1
/-- bounds without schemes, or with few leaves -/
def T0R (un e : Bool) (ob cd m y : Nat) : Prop := 1 ≤ y ∧ (e = false → 5 ≤ cd → dpD un fr1 fg1 0 1 2 3 2 2 2 2 0 0 0 ob 0 y cd m ≤ 887) ∧ (e = true → dpD un fr1 fg1 5 1 2 3 2 2 2 2 0 0 0 ob 0 y 0 m ≤ 887)
def T0G (un e : Bool) (ob cd m y : Nat) : Prop := 1 ≤ y ∧ (e = false → 5 ≤ cd → dpD un frq fgq 0 0 1 1 1 3 2 1 0 0 0 ob 0 y cd m ≤ 597) ∧ (e = true → dpD un frq fgq 5 0 1 1 1 3 2 1 0 0 0 ob 0 y 0 m ≤ 597)
section PmZ2
variable {f : Nat} {t : Ty} {Γ : List Ty} {Δ : List (Nat × Ty × Nat)} {un e : Bool} {cd ob : Nat}
theorem zone_0 (w : TWf f Γ.length (Δ.map (fun a => a.1)) t) (he : TE Γ Δ) (hΔ : (e = true ∧ Δ = []) ∨ (e = false ∧ Δ ≠ [])) (cu : un = true ∨ COk f t 0) (ch : CHo f t []) (m30 : mch t ≤ 30) (hdd : dch Δ ≤ cd) (hcd : cd ≤ 56) (hb0 : ∀ b ∈ Γ, nsch b = true ∨ flv b ≤ ob) (c56 : cch Γ ≤ 56) (TR : T0R un e ob cd (mch t) (fx1.getD (cch Γ) 0)) (TG : T0G un e ob cd (mch t) (fxq.getD (cch Γ) 0)) : NtV Γ Δ f t 887 597 := by
  have d5 : Δ ≠ [] → 5 ≤ cd := fun e => Nat.le_trans (dch_five he e) hdd
  have hch : CHo f t (([] : Stk).map Option.isSome) := ch
  obtain ⟨yR, R0, R5⟩ := TR
  obtain ⟨yG, G0, G5⟩ := TG
  refine fun S hS => ⟨fun b => ?_, ?_⟩
  · have l1 := onz_len 0 (fun _ => 1 + 1) (2 + 1) (vlr b 1) Γ
    have hw : ∀ j, j < Γ.length → vw (onz 0 (fun _ => 1 + 1) (2 + 1) (vlr b 1) Γ) j ≤ fx1.getD (cch Γ) 0 := fun j hj => onz_chars (n1 := fun _ => 1 + 1) (tbs1 b).1 (tbs1 b).2.1 (tbs1 b).2.2.1 (tbs1 b).2.2.2.1 (tbs1 b).2.2.2.2.1 Γ he.1 c56 j hj
    have hk : ∀ cd : Nat, HEk 0 (fun _ => 1 + 1) (2 + 1) (vlr b 1) (E2 (X7w fr1 fg1 (fx1.getD (cch Γ) 0) cd (mch t)) (ebw fr1 fg1 1 (fx1.getD (cch Γ) 0) cd (mch t) 0 0 0 ob) (e2w fr1 fg1 1 (fx1.getD (cch Γ) 0) cd (mch t) 0)) Γ (onz 0 (fun _ => 1 + 1) (2 + 1) (vlr b 1) Γ) := fun cd => BE2.he ebw_mono e2w_mono (vlr_mono b 1) (vlr_lip b 1) he.1 l1 (BE2_onz (y := fx1.getD (cch Γ) 0) (NC_rows b 1) (Nat.le_max_left _ _) hw (fun b hb => (hb0 b hb).imp id (fun c z => by have := Nat.mul_le_mul_right z c; unfold ebw; omega)))
    have go : ∀ E Z, AQh 0 (fun _ => 1 + 1) (2 + 1) (vlr b 1) E Z f t [] (onz 0 (fun _ => 1 + 1) (2 + 1) (vlr b 1) Γ) → HEk 0 (fun _ => 1 + 1) (2 + 1) (vlr b 1) E Γ (onz 0 (fun _ => 1 + 1) (2 + 1) (vlr b 1) Γ) → GOk 0 (fun _ => 1 + 1) (2 + 1) (vlr b 1) E f t [] (onz 0 (fun _ => 1 + 1) (2 + 1) (vlr b 1) Γ) Γ Δ := fun E Z aq hE => GH_natc (E := E) (Z := Z) (NC_rows b 1) (vlr_mono b 1) f t [] _ _ Δ w he hch aq (onz_cv (NC_rows b 1) he.1) hE
    rcases hΔ with ⟨ee, cΔ⟩ | ⟨ee, cΔ⟩
    · exact gen_fin6 (un := un) (a5 := 5) (cd := 0) (wB := 0) (E0 := 0) (p := 0) (ob := ob) (k := 0) (NC_rows b 1) (vlr_mono b 1) (tbs1 b) fr1_m fg1_ok fg1_m fg1s_1 (by decide) (vlr_one b) w he l1 cu m30 (by rw [cΔ]; exact Nat.le_refl _) (Nat.zero_le _) (Nat.le_refl _) (fun e => absurd cΔ e) yR (fun j hj => hw j (by rw [l1] at hj; exact hj)) (hk 0) go (R5 ee) hS
    · exact gen_fin6 (un := un) (a5 := 0) (cd := cd) (wB := 0) (E0 := 0) (p := 0) (ob := ob) (k := 0) (NC_rows b 1) (vlr_mono b 1) (tbs1 b) fr1_m fg1_ok fg1_m fg1s_1 (by decide) (vlr_one b) w he l1 cu m30 hdd hcd (Nat.zero_le _) (fun _ => rfl) yR (fun j hj => hw j (by rw [l1] at hj; exact hj)) (hk cd) go (R0 ee (d5 cΔ)) hS
  · have l1 := onz_len 1 ngc 1 (fun x => x) Γ
    have hw : ∀ j, j < Γ.length → vw (onz 1 ngc 1 (fun x => x) Γ) j ≤ fxq.getD (cch Γ) 0 := fun j hj => onz_chars (n1 := ngc) tbsq.1 tbsq.2.1 tbsq.2.2.1 tbsq.2.2.2.1 tbsq.2.2.2.2.1 Γ he.1 c56 j hj
    have hk : ∀ cd : Nat, HEk 1 ngc 1 (fun x => x) (E2 (X7w frq fgq (fxq.getD (cch Γ) 0) cd (mch t)) (ebw frq fgq 0 (fxq.getD (cch Γ) 0) cd (mch t) 0 0 0 ob) (e2w frq fgq 0 (fxq.getD (cch Γ) 0) cd (mch t) 0)) Γ (onz 1 ngc 1 (fun x => x) Γ) := fun cd => BE2.he ebw_mono e2w_mono (fun y y' hy => hy) (fun y δ => Nat.le_refl _) he.1 l1 (BE2_onz (y := fxq.getD (cch Γ) 0) NC_goals (Nat.le_max_left _ _) hw (fun b hb => (hb0 b hb).imp id (fun c z => by have := Nat.mul_le_mul_right z c; unfold ebw; omega)))
    have go : ∀ E Z, AQh 1 ngc 1 (fun x => x) E Z f t [] (onz 1 ngc 1 (fun x => x) Γ) → HEk 1 ngc 1 (fun x => x) E Γ (onz 1 ngc 1 (fun x => x) Γ) → GOk 1 ngc 1 (fun x => x) E f t [] (onz 1 ngc 1 (fun x => x) Γ) Γ Δ := fun E Z aq hE => GH_natc (E := E) (Z := Z) NC_goals (fun y y' hy => hy) f t [] _ _ Δ w he hch aq (onz_cv NC_goals he.1) hE
    rcases hΔ with ⟨ee, cΔ⟩ | ⟨ee, cΔ⟩
    · exact gen_fin6 (un := un) (a5 := 5) (cd := 0) (wB := 0) (E0 := 0) (p := 0) (ob := ob) (k := 0) NC_goals (fun y y' hy => hy) tbsq frq_m fgq_ok fgq_m fg1s_q (by decide) (fun y => by show y ≤ 0 + max 1 y; omega) w he l1 cu m30 (by rw [cΔ]; exact Nat.le_refl _) (Nat.zero_le _) (Nat.le_refl _) (fun e => absurd cΔ e) yG (fun j hj => hw j (by rw [l1] at hj; exact hj)) (hk 0) go (G5 ee) hS
    · exact gen_fin6 (un := un) (a5 := 0) (cd := cd) (wB := 0) (E0 := 0) (p := 0) (ob := ob) (k := 0) NC_goals (fun y y' hy => hy) tbsq frq_m fgq_ok fgq_m fg1s_q (by decide) (fun y => by show y ≤ 0 + max 1 y; omega) w he l1 cu m30 hdd hcd (Nat.zero_le _) (fun _ => rfl) yG (fun j hj => hw j (by rw [l1] at hj; exact hj)) (hk cd) go (G0 ee (d5 cΔ)) hS
end PmZ2
