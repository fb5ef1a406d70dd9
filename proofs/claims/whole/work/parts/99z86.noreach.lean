/-! CONTEXTS IN WHICH OPERATIONS REACH NO SCHEME. -/
section PmIt
variable {f : Nat} {t : Ty} {Γ : List Ty} {Δ : List (Nat × Ty × Nat)} {un e : Bool} {cd ob : Nat}
theorem zone_0i (w : TWf f Γ.length (Δ.map (fun a => a.1)) t) (he : TE Γ Δ) (hΔ : (e = true ∧ Δ = []) ∨ (e = false ∧ Δ ≠ [])) (cu : un = true ∨ COk f t 0) (ch : CHo f t []) (m30 : mch t ≤ 30) (hdd : dch Δ ≤ cd) (hcd : cd ≤ 56) (hb0 : ∀ b ∈ Γ, IS2 (fun _ => False) b) (c56 : cch Γ ≤ 56) (TR : T0R un e ob cd (mch t) (fx1.getD (cch Γ) 0)) (TG : T0G un e ob cd (mch t) (fxq.getD (cch Γ) 0)) : NtV Γ Δ f t 887 597 := by
  have d5 : Δ ≠ [] → 5 ≤ cd := fun e => Nat.le_trans (dch_five he e) hdd
  have hch : CHo f t (([] : Stk).map Option.isSome) := ch
  obtain ⟨yR, R0, R5⟩ := TR
  obtain ⟨yG, G0, G5⟩ := TG
  refine fun S hS => ⟨fun b => ?_, ?_⟩
  · have l1 := onz_len 0 (fun _ => 1 + 1) (2 + 1) (vlr b 1) Γ
    have hw : ∀ j, j < Γ.length → vw (onz 0 (fun _ => 1 + 1) (2 + 1) (vlr b 1) Γ) j ≤ fx1.getD (cch Γ) 0 := fun j hj => onz_chars (n1 := fun _ => 1 + 1) (tbs1 b).1 (tbs1 b).2.1 (tbs1 b).2.2.1 (tbs1 b).2.2.2.1 (tbs1 b).2.2.2.2.1 Γ he.1 c56 j hj
    have hk : ∀ cd : Nat, HEk 0 (fun _ => 1 + 1) (2 + 1) (vlr b 1) (E2 (X7w fr1 fg1 (fx1.getD (cch Γ) 0) cd (mch t)) (ebw fr1 fg1 1 (fx1.getD (cch Γ) 0) cd (mch t) 0 0 0 ob) (e2w fr1 fg1 1 (fx1.getD (cch Γ) 0) cd (mch t) 0)) Γ (onz 0 (fun _ => 1 + 1) (2 + 1) (vlr b 1) Γ) := fun cd => HE_sfy ebw_mono e2w_mono (vlr_mono b 1) (vlr_lip b 1) (NC_rows b 1) (Nat.le_max_left _ _) he.1 hw (fun Δ' b' Γ' e' o9 _ _ => Or.inr (Or.inr (IS2_okt _ _ b' (Nat.le_refl _) o9 (fun _ _ _ _ p => p.elim) (hb0 b' (by rw [e']; simp)))))
    have go : ∀ E Z, AQh 0 (fun _ => 1 + 1) (2 + 1) (vlr b 1) E Z f t [] (onz 0 (fun _ => 1 + 1) (2 + 1) (vlr b 1) Γ) → HEk 0 (fun _ => 1 + 1) (2 + 1) (vlr b 1) E Γ (onz 0 (fun _ => 1 + 1) (2 + 1) (vlr b 1) Γ) → GOk 0 (fun _ => 1 + 1) (2 + 1) (vlr b 1) E f t [] (onz 0 (fun _ => 1 + 1) (2 + 1) (vlr b 1) Γ) Γ Δ := fun E Z aq hE => GH_natc (E := E) (Z := Z) (NC_rows b 1) (vlr_mono b 1) f t [] _ _ Δ w he hch aq (onz_cv (NC_rows b 1) he.1) hE
    rcases hΔ with ⟨ee, cΔ⟩ | ⟨ee, cΔ⟩
    · exact gen_fin6 (un := un) (a5 := 5) (cd := 0) (wB := 0) (E0 := 0) (p := 0) (ob := ob) (k := 0) (NC_rows b 1) (vlr_mono b 1) (tbs1 b) fr1_m fg1_ok fg1_m fg1s_1 (by decide) (vlr_one b) w he l1 cu m30 (by rw [cΔ]; exact Nat.le_refl _) (Nat.zero_le _) (Nat.le_refl _) (fun e => absurd cΔ e) yR (fun j hj => hw j (by rw [l1] at hj; exact hj)) (hk 0) go (R5 ee) hS
    · exact gen_fin6 (un := un) (a5 := 0) (cd := cd) (wB := 0) (E0 := 0) (p := 0) (ob := ob) (k := 0) (NC_rows b 1) (vlr_mono b 1) (tbs1 b) fr1_m fg1_ok fg1_m fg1s_1 (by decide) (vlr_one b) w he l1 cu m30 hdd hcd (Nat.zero_le _) (fun _ => rfl) yR (fun j hj => hw j (by rw [l1] at hj; exact hj)) (hk cd) go (R0 ee (d5 cΔ)) hS
  · have l1 := onz_len 1 ngc 1 (fun x => x) Γ
    have hw : ∀ j, j < Γ.length → vw (onz 1 ngc 1 (fun x => x) Γ) j ≤ fxq.getD (cch Γ) 0 := fun j hj => onz_chars (n1 := ngc) tbsq.1 tbsq.2.1 tbsq.2.2.1 tbsq.2.2.2.1 tbsq.2.2.2.2.1 Γ he.1 c56 j hj
    have hk : ∀ cd : Nat, HEk 1 ngc 1 (fun x => x) (E2 (X7w frq fgq (fxq.getD (cch Γ) 0) cd (mch t)) (ebw frq fgq 0 (fxq.getD (cch Γ) 0) cd (mch t) 0 0 0 ob) (e2w frq fgq 0 (fxq.getD (cch Γ) 0) cd (mch t) 0)) Γ (onz 1 ngc 1 (fun x => x) Γ) := fun cd => HE_sfy ebw_mono e2w_mono (fun y y' hy => hy) (fun y δ => Nat.le_refl _) NC_goals (Nat.le_max_left _ _) he.1 hw (fun Δ' b' Γ' e' o9 _ _ => Or.inr (Or.inr (IS2_okt _ _ b' (Nat.le_refl _) o9 (fun _ _ _ _ p => p.elim) (hb0 b' (by rw [e']; simp)))))
    have go : ∀ E Z, AQh 1 ngc 1 (fun x => x) E Z f t [] (onz 1 ngc 1 (fun x => x) Γ) → HEk 1 ngc 1 (fun x => x) E Γ (onz 1 ngc 1 (fun x => x) Γ) → GOk 1 ngc 1 (fun x => x) E f t [] (onz 1 ngc 1 (fun x => x) Γ) Γ Δ := fun E Z aq hE => GH_natc (E := E) (Z := Z) NC_goals (fun y y' hy => hy) f t [] _ _ Δ w he hch aq (onz_cv NC_goals he.1) hE
    rcases hΔ with ⟨ee, cΔ⟩ | ⟨ee, cΔ⟩
    · exact gen_fin6 (un := un) (a5 := 5) (cd := 0) (wB := 0) (E0 := 0) (p := 0) (ob := ob) (k := 0) NC_goals (fun y y' hy => hy) tbsq frq_m fgq_ok fgq_m fg1s_q (by decide) (fun y => by show y ≤ 0 + max 1 y; omega) w he l1 cu m30 (by rw [cΔ]; exact Nat.le_refl _) (Nat.zero_le _) (Nat.le_refl _) (fun e => absurd cΔ e) yG (fun j hj => hw j (by rw [l1] at hj; exact hj)) (hk 0) go (G5 ee) hS
    · exact gen_fin6 (un := un) (a5 := 0) (cd := cd) (wB := 0) (E0 := 0) (p := 0) (ob := ob) (k := 0) NC_goals (fun y y' hy => hy) tbsq frq_m fgq_ok fgq_m fg1s_q (by decide) (fun y => by show y ≤ 0 + max 1 y; omega) w he l1 cu m30 hdd hcd (Nat.zero_le _) (fun _ => rfl) yG (fun j hj => hw j (by rw [l1] at hj; exact hj)) (hk cd) go (G0 ee (d5 cΔ)) hS
theorem nosch_i (w : TWf f Γ.length (Δ.map (fun a => a.1)) t) (he : TE Γ Δ) (ch : CHo f t []) (m3 : 3 ≤ mch t) (hb0 : ∀ b ∈ Γ, IS2 (fun _ => False) b) (hb : cch Γ + dch Δ + 2 * mch t ≤ 58) (h20 : 20 ≤ cch Γ) (h47 : cch Γ ≤ 47) : NtV Γ Δ f t 887 597 := by
  have c2 : cch Γ + 2 * mch t ≤ 58 := by omega
  by_cases c : Δ = []
  · exact zone_0i (un := true) (e := true) (ob := 0) (cd := 58 - 2 * mch t - cch Γ) w he (Or.inl ⟨rfl, c⟩) (Or.inl rfl) ch (by omega) (by omega) (by omega) hb0 (by omega) (z0R1_all h20 h47 m3 c2) (z0G1_all h20 h47 m3 c2)
  · exact zone_0i (un := true) (e := false) (ob := 0) (cd := 58 - 2 * mch t - cch Γ) w he (Or.inr ⟨rfl, c⟩) (Or.inl rfl) ch (by omega) (by omega) (by omega) hb0 (by omega) (z0R0_all h20 h47 m3 c2) (z0G0_all h20 h47 m3 c2)
end PmIt
def AzP (f : Nat) (t : Ty) (Γ : List Ty) (Δ : List (Nat × Ty × Nat)) : Prop := (∀ a ∈ Γ, IS2 (fun _ => False) a) ∧ CHo (pee f t).1 (pee f t).2 [] ∧ 3 ≤ mch (pee f t).2 ∧ cch Γ + dch Δ + 2 * mch (pee f t).2 ≤ 58
theorem AzP.v {f : Nat} {t : Ty} {Γ : List Ty} {Δ : List (Nat × Ty × Nat)} (w : TWf f Γ.length (Δ.map (fun a => a.1)) t) (he : TE Γ Δ) (h20 : 20 ≤ cch Γ) (h47 : cch Γ ≤ 47) (h : AzP f t Γ Δ) : NtV Γ Δ f t 887 597 := by
  obtain ⟨hb0, ch, m3, hb⟩ := h
  exact NtV_pee f t w he (nosch_i (pee_ok f _ _ t w).1.1 he ch m3 hb0 hb h20 h47)
def RESTx9 : Prop := ∀ (f : Nat) (x y : Ty) (Γ : List Ty) (Δ : List (Nat × Ty × Nat)), TWf f Γ.length (Δ.map (fun a => a.1)) x → TWf f Γ.length (Δ.map (fun a => a.1)) y → TE Γ Δ → NAt f x → NAt f y → noac Γ → (∀ a ∈ Δ, noal a.2.1 = true) → TNo f x → TNo f y → 3 ≤ mch x → 3 ≤ mch y → (mch x ≤ mch y → ¬ NOp f x) → (¬ mch x ≤ mch y → ¬ NOp f y) → 20 ≤ cch Γ → cch Γ ≤ 47 → cch Γ + dch Δ + (2 + (mch x + mch y)) ≤ 60 → NoO f x y Γ Δ → ¬ AzT f x Γ Δ → ¬ AzT f y Γ Δ → ¬ AzB f x Γ Δ → ¬ AzB f y Γ Δ → ¬ AzC f x Γ Δ → ¬ AzC f y Γ Δ → ¬ AzI f x Γ Δ → ¬ AzI f y Γ Δ → ¬ AzF f x Γ Δ → ¬ AzF f y Γ Δ → ¬ AzG f x Γ Δ → ¬ AzG f y Γ Δ → ¬ AzH f x Γ Δ → ¬ AzH f y Γ Δ → ¬ PrS f x y Γ Δ → ¬ AzK f x Γ Δ → ¬ AzK f y Γ Δ → ¬ AzL f x Γ Δ → ¬ AzL f y Γ Δ → ¬ AzM f x Γ Δ → ¬ AzM f y Γ Δ → ¬ PrG f x y Γ Δ → ¬ AzN f x Γ Δ → ¬ AzN f y Γ Δ → ¬ One9 Γ → ¬ AzO f x Γ Δ → ¬ AzO f y Γ Δ → ¬ AzP f x Γ Δ → ¬ AzP f y Γ Δ → (¬ ((mch x ≤ mch y → CHo f x []) ∧ (¬ mch x ≤ mch y → CHo f y [])) ∨ LeftJ f x y Γ Δ) → PRn f x y Γ Δ
theorem restw9_of (R : RESTx9) : RESTw9 := by
  intro f x y Γ Δ x1 x2 he y1 y2 hv hd' tx ty m3 n3 no1 no2 h20 h47 hb ng ax ay bx bz cx cy dx dy ex ey gx gy ix iy jx kx ky lx ly mx my px qx qy ox ux uy hL
  by_cases a : AzP f x Γ Δ
  · exact pair_ntv x1 x2 he y1 y2 hv hd' (by omega) (Or.inl (a.v x1 he h20 h47))
  by_cases b : AzP f y Γ Δ
  · exact pair_ntv x1 x2 he y1 y2 hv hd' (by omega) (Or.inr (b.v x2 he h20 h47))
  exact R f x y Γ Δ x1 x2 he y1 y2 hv hd' tx ty m3 n3 no1 no2 h20 h47 hb ng ax ay bx bz cx cy dx dy ex ey gx gy ix iy jx kx ky lx ly mx my px qx qy ox ux uy a b hL
theorem pairn_ox (R : RESTx9) : PAIRn := pairn_ow (restw9_of R)
/-- the scheme stands where operations reach it -/
theorem IS2_sp {P : Ty → Prop} {B C : Ty} : ∀ (d : Nat) (b : Ty), SPd (tAll B C) d b → IS2 P b → P (tAll B C)
  | 0, b, h, i => by
    have h : b = tAll B C := h
    subst h
    exact IS2_all i
  | d + 1, b, h, i => by
    rcases h with ⟨a, c, rfl, h⟩ | ⟨m, x, y, z, hm, rfl, h⟩
    · exact IS2_sp d c h (IS2_fun i)
    · obtain ⟨i0, i1, i2⟩ := IS2_rec i
      rcases h with ⟨-, h⟩ | ⟨-, h⟩ | ⟨-, h⟩
      · exact IS2_sp d x h i0
      · exact IS2_sp d y h i1
      · exact IS2_sp d z h i2
/-- none, or one -/
theorem sp_ex : ∀ (f : Nat) (b : Ty) (D : Nat), (flat b).length ≤ f → ok D b = true → IS2 (fun _ => False) b ∨ ∃ (d : Nat) (B C : Ty), SPd (tAll B C) d b ∧ ok D (tAll B C) = true
  | 0, b, D, hf, o => by have := flat_pos o; omega
  | f + 1, b, D, hf, o => by
    rcases ok_cases o with rfl | ⟨j, hj, rfl⟩ | ⟨x, y, rfl, hx, hy⟩ | ⟨x, y, rfl, hx, hy⟩ | ⟨c, x, y, z, hm, rfl, h0, h1, h2⟩
    · exact Or.inl IS2_top
    · exact Or.inl (IS2_var j)
    · rw [flat_fun, List.length_cons, List.length_append] at hf
      rcases sp_ex f y D (by omega) hy with i | ⟨d, B, C, sp, oσ⟩
      · exact Or.inl (IS2_funI i)
      · exact Or.inr ⟨d + 1, B, C, Or.inl ⟨x, y, rfl, sp⟩, oσ⟩
    · exact Or.inr ⟨0, x, y, rfl, o⟩
    · rw [flat_rec, List.length_cons, List.length_append, List.length_append] at hf
      have key : ∀ (i : Nat) (p : Ty), (flat p).length ≤ f → okl D c i p → IS2 (fun _ => False) p ∨ (bit c i = true ∧ ∃ (d : Nat) (B C : Ty), SPd (tAll B C) d p ∧ ok D (tAll B C) = true) := by
        intro i p hp ho
        unfold okl at ho
        by_cases hb : bit c i = true
        · rw [if_pos hb] at ho
          exact (sp_ex f p D hp ho).imp id (fun q => ⟨hb, q⟩)
        · rw [if_neg hb] at ho
          rw [ho]; exact Or.inl IS2_nil
      rcases key 0 x (by omega) h0 with i0 | ⟨b0, d, B, C, sp, oσ⟩
      · rcases key 1 y (by omega) h1 with i1 | ⟨b1, d, B, C, sp, oσ⟩
        · rcases key 2 z (by omega) h2 with i2 | ⟨b2, d, B, C, sp, oσ⟩
          · exact Or.inl (IS2_recI ⟨i0, i1, i2⟩)
          · exact Or.inr ⟨d + 1, B, C, Or.inr ⟨c, x, y, z, hm, rfl, Or.inr (Or.inr ⟨b2, sp⟩)⟩, oσ⟩
        · exact Or.inr ⟨d + 1, B, C, Or.inr ⟨c, x, y, z, hm, rfl, Or.inr (Or.inl ⟨b1, sp⟩)⟩, oσ⟩
      · exact Or.inr ⟨d + 1, B, C, Or.inr ⟨c, x, y, z, hm, rfl, Or.inl ⟨b0, sp⟩⟩, oσ⟩
/-- one binder, few characters around the scheme, no other scheme with that bound -/
theorem one_of {b b' B C : Ty} (ob : ok 0 b = true) (lb : LBd [] [] b b' B C) (nf : ¬ IS2 (fun _ => False) b) (h7 : tch b ≤ tch (tAll B C) + 7) (nC : sN B 0 1 C = false) : One9 [b] := by
  rcases sp_ex _ b 0 (Nat.le_refl _) ob with i | ⟨d, B', C', sp, oσ'⟩
  · exact absurd i nf
  · have q := IS2_sp d b sp lb.1.2.2.2.2
    have e : tAll B' C' = tAll B C := by
      rcases q with e | ⟨o1, -, h5, -⟩
      · exact e
      · exfalso
        have p1 := tch_pos (ok_all.mp o1).1
        have p2 := tch_pos (ok_all.mp o1).2
        rw [tch_all B' C'] at h5
        omega
    rw [e] at sp
    exact ⟨b, rfl, sp_ov lb.1.2.1 nC ob sp h7⟩
