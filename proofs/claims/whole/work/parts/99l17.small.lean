/-! FIRST USE, OR A SMALL CONTEXT: what is shorter of two terms. -/
/-- nothing of the context is instanced; or the context is small -/
def ShT (f : Nat) (t : Ty) (Γ : List Ty) (Δ : List (Nat × Ty × Nat)) : Prop := EX0 f t Γ Δ ∨ (EZ0 f t Γ Δ ∧ ∃ cd, dch Δ ≤ cd ∧ (∀ b ∈ Γ, tch b + 4 ≤ cd) ∧ (4 ≤ cd ∧ tbm f t + 4 ≤ cd) ∧ cch Γ + cd + 2 * mch t ≤ 58)
section PmLh
variable {f : Nat} {t : Ty} {Γ : List Ty} {Δ : List (Nat × Ty × Nat)} {S : Ty}
theorem sh_rows (b : Bool) (w : TWf f Γ.length (Δ.map (fun a => a.1)) t) (he : TE Γ Δ) (hx : ShT f t Γ Δ) (hS : tyF f t Γ Δ = .inr S) (hc : cch Γ + dch Δ + 2 * mch t ≤ 58) : nz 0 (fun _ => 1 + 1) (2 + 1) (vlr b 1) (onz 0 (fun _ => 1 + 1) (2 + 1) (vlr b 1) Γ) S ≤ 570 := by
  rcases hx with hx | ⟨hx, cd, hd, hk, hT, hc⟩
  · exact first_rows b w he hx hS hc
  have mp : 1 ≤ mch t := by
    cases f with
    | zero => exact w.elim
    | succ f => exact mch_pos w
  have l1 := onz_len 0 (fun _ => 1 + 1) (2 + 1) (vlr b 1) Γ
  have q1 := tyF_c0 (NC_rows b 1) (vlr_mono b 1) f t Γ Δ S _ w he hx (onz_cv (NC_rows b 1) he.1) hS
  have q2 := GC0_le (vlr_mono b 1) (tbs1 b) f t (onz 0 (fun _ => 1 + 1) (2 + 1) (vlr b 1) Γ) Γ Δ (cch Γ) cd w he l1 (fun j hj => onz_chars fr1_ok fx1_ok (vlr_H b 1) (Nat.le_refl _) (tbs1 b).2.2.2.2.1 Γ he.1 (by omega) j (by rw [l1] at hj; exact hj)) hd hk hT hc
  have q3 := rng_all (rng_all pp1_le (i := cch Γ + cd) (by omega)) (i := mch t - 1) (by omega)
  rw [decide_eq_true_iff, show mch t - 1 + 1 = mch t by omega] at q3
  exact Nat.le_trans q1 (Nat.le_trans q2 q3)
theorem sh_goals (w : TWf f Γ.length (Δ.map (fun a => a.1)) t) (he : TE Γ Δ) (hx : ShT f t Γ Δ) (hS : tyF f t Γ Δ = .inr S) (hc : cch Γ + dch Δ + 2 * mch t ≤ 58) : nz 1 ngc 1 (fun x => x) (onz 1 ngc 1 (fun x => x) Γ) S ≤ 430 := by
  rcases hx with hx | ⟨hx, cd, hd, hk, hT, hc⟩
  · exact first_goals w he hx hS hc
  have mp : 1 ≤ mch t := by
    cases f with
    | zero => exact w.elim
    | succ f => exact mch_pos w
  have l1 := onz_len 1 ngc 1 (fun x => x) Γ
  have q1 := tyF_c0 NC_goals (fun y y' hy => hy) f t Γ Δ S _ w he hx (onz_cv NC_goals he.1) hS
  have q2 := GC0_le (fun y y' hy => hy) tbsq f t (onz 1 ngc 1 (fun x => x) Γ) Γ Δ (cch Γ) cd w he l1 (fun j hj => onz_chars frq_ok fxq_ok tbsq.2.2.1 (Nat.le_refl _) ngc_r Γ he.1 (by omega) j (by rw [l1] at hj; exact hj)) hd hk hT hc
  have q3 := rng_all (rng_all ppq_le (i := cch Γ + cd) (by omega)) (i := mch t - 1) (by omega)
  rw [decide_eq_true_iff, show mch t - 1 + 1 = mch t by omega] at q3
  exact Nat.le_trans q1 (Nat.le_trans q2 q3)
theorem sh_nodes (w : TWf f Γ.length (Δ.map (fun a => a.1)) t) (he : TE Γ Δ) (hx : ShT f t Γ Δ) (hS : tyF f t Γ Δ = .inr S) (hc : cch Γ + dch Δ + 2 * mch t ≤ 58) : nz 0 (fun _ => 1) 1 (fun y => max 1 y) (onz 0 (fun _ => 1) 1 (fun y => max 1 y) Γ) S ≤ 250 := by
  rcases hx with hx | ⟨hx, cd, hd, hk, hT, hc⟩
  · exact first_nodes w he hx hS hc
  have mp : 1 ≤ mch t := by
    cases f with
    | zero => exact w.elim
    | succ f => exact mch_pos w
  have l1 := onz_len 0 (fun _ => 1) 1 (fun y => max 1 y) Γ
  have q1 := tyF_c0 NC_nodes (fun y y' hy => by show max 1 y ≤ max 1 y'; omega) f t Γ Δ S _ w he hx (onz_cv NC_nodes he.1) hS
  have q2 := GC0_le (fun y y' hy => by show max 1 y ≤ max 1 y'; omega) tbsG f t (onz 0 (fun _ => 1) 1 (fun y => max 1 y) Γ) Γ Δ (cch Γ) cd w he l1 (fun j hj => onz_chars frG_ok fxG_ok tbsG.2.2.1 (Nat.le_refl _) tbsG.2.2.2.2.1 Γ he.1 (by omega) j (by rw [l1] at hj; exact hj)) hd hk hT hc
  have q3 := rng_all (rng_all ppG_le (i := cch Γ + cd) (by omega)) (i := mch t - 1) (by omega)
  rw [decide_eq_true_iff, show mch t - 1 + 1 = mch t by omega] at q3
  exact Nat.le_trans q1 (Nat.le_trans q2 q3)
end PmLh
/-- rows of a short term's type, chains of e + 1 variables -/
theorem sh_chain {f : Nat} {t : Ty} {Γ : List Ty} {Δ : List (Nat × Ty × Nat)} {S : Ty} (b : Bool) (e : Nat) (w : TWf f Γ.length (Δ.map (fun a => a.1)) t) (he : TE Γ Δ) (hx : ShT f t Γ Δ) (hS : tyF f t Γ Δ = .inr S) (hc : cch Γ + dch Δ + 2 * mch t ≤ 58) : nz 0 (fun _ => 1 + (1 + e)) (2 + (1 + e)) (vlr b (1 + e)) (onz 0 (fun _ => 1 + (1 + e)) (2 + (1 + e)) (vlr b (1 + e)) Γ) S ≤ 570 + e * 250 := by
  have q1 := sh_rows b w he hx hS hc
  have q2 := sh_nodes w he hx hS hc
  have l0 := onz_len 0 (fun _ => 1 + (1 + e)) (2 + (1 + e)) (vlr b (1 + e)) Γ
  have l1 := onz_len 0 (fun _ => 1 + 1) (2 + 1) (vlr b 1) Γ
  have lG := onz_len 0 (fun _ => 1) 1 (fun y => max 1 y) Γ
  have oS := (tyF_ok f t Γ Δ S w he hS).1
  have q3 := nz_add b e _ S (onz 0 (fun _ => 1 + (1 + e)) (2 + (1 + e)) (vlr b (1 + e)) Γ) (onz 0 (fun _ => 1 + 1) (2 + 1) (vlr b 1) Γ) (onz 0 (fun _ => 1) 1 (fun y => max 1 y) Γ) (Nat.le_refl _) (by rw [l0, l1]) (by rw [l0, lG]) (by rw [l0]; exact oS) (fun j hj => onz_add b e Γ he.1 j (by rw [l0] at hj; exact hj))
  have q4 := Nat.mul_le_mul_left e q2
  omega
section PmLi
variable {f : Nat} {x y : Ty} {Γ : List Ty} {Δ : List (Nat × Ty × Nat)} {S T : Ty} {e : Nat}
/-- a choice -/
theorem LJ_sh (he : 570 + e * 250 ≤ 887) (tb : TB (1 + e) (Γ, S, T)) (wx : TWf f Γ.length (Δ.map (fun a => a.1)) x) (wy : TWf f Γ.length (Δ.map (fun a => a.1)) y) (te : TE Γ Δ) (hS : tyF f x Γ Δ = .inr S) (hT : tyF f y Γ Δ = .inr T) (hb : cch Γ + dch Δ + (mch x + mch y) ≤ 58) (ex : mch x ≤ mch y → ShT f x Γ Δ) (ey : ¬ mch x ≤ mch y → ShT f y Γ Δ) : LJ Γ S T := by
  have lS := (tyF_ok f x Γ Δ S wx te hS).2
  have lT := (tyF_ok f y Γ Δ T wy te hT).2
  have mx := short_c wx
  have my := short_c wy
  by_cases c : mch x ≤ mch y
  · exact LJ_S (by omega) tb (by omega) lS lT (Nat.le_trans (sh_chain true e wx te (ex c) hS (by omega)) he) (Nat.le_trans (sh_goals wx te (ex c) hS (by omega)) (by decide))
  · exact LJ_T (by omega) tb (by omega) lS lT (Nat.le_trans (sh_chain false e wy te (ey c) hT (by omega)) he) (Nat.le_trans (sh_goals wy te (ey c) hT (by omega)) (by decide))
/-- an application: what is given against what is wanted -/
theorem LB_sh (he : 570 + e * 250 ≤ 887) (hf : hd (expo Γ Γ.length S) = 1) (tb : TB (1 + e) (Γ, T, k1 (expo Γ Γ.length S))) (wx : TWf f Γ.length (Δ.map (fun a => a.1)) x) (wy : TWf f Γ.length (Δ.map (fun a => a.1)) y) (te : TE Γ Δ) (hS : tyF f x Γ Δ = .inr S) (hT : tyF f y Γ Δ = .inr T) (hb : cch Γ + dch Δ + (mch x + mch y) ≤ 58) (ex : mch x ≤ mch y → ShT f x Γ Δ) (ey : ¬ mch x ≤ mch y → ShT f y Γ Δ) : LB Γ T (k1 (expo Γ Γ.length S)) := by
  obtain ⟨oS, lS⟩ := tyF_ok f x Γ Δ S wx te hS
  obtain ⟨oT, lT⟩ := tyF_ok f y Γ Δ T wy te hT
  obtain ⟨oF, lF⟩ := expo_ok te.1 te.2.1 Γ.length S oS lS
  have mx := short_c wx
  have my := short_c wy
  obtain ⟨a, b, e2, oa, ob⟩ := hd_is_fun oF hf
  have l1 : (flat (k1 (expo Γ Γ.length S))).length ≤ 16 := by
    rw [e2, flat_fun, List.length_cons, List.length_append] at lF
    rw [e2]
    show (flat a).length ≤ 16
    omega
  by_cases c : mch x ≤ mch y
  · refine LB_ST tb (by omega) lT l1 (Or.inr ⟨true, ?_⟩)
    have q := Nat.le_trans (sh_chain true e wx te (ex c) hS (by omega)) he
    have q2 := expo_nz te.1 (onz_cv (NC_rows true (1 + e)) te.1) Γ.length S oS
    rw [e2, nz_fun] at q2
    rw [e2]
    show nz 0 (fun _ => 1 + (1 + e)) (2 + (1 + e)) (vlr true (1 + e)) _ a ≤ 887
    omega
  · exact LB_ST tb (by omega) lT l1 (Or.inl ⟨true, Nat.le_trans (sh_chain true e wy te (ey c) hT (by omega)) he⟩)
end PmLi
def SHs : Nat → Ty → List Ty → List (Nat × Ty × Nat) → Prop
  | 0, _, _, _ => True
  | f + 1, t, Γ, Δ => (nKd t = 6 → SHs f (nY t) Γ ((nPl t, nX t, Γ.length) :: Δ)) ∧ (nKd t = 7 ∨ nKd t = 12 → (SHs f (nX t) Γ Δ ∧ SHs f (nY t) Γ Δ) ∧ (mch (nX t) ≤ mch (nY t) → ShT f (nX t) Γ Δ) ∧ (¬ mch (nX t) ≤ mch (nY t) → ShT f (nY t) Γ Δ)) ∧ (nKd t = 8 → SHs f (nY t) (nX t :: Γ) Δ) ∧ (nKd t = 9 → SHs f (nX t) Γ Δ) ∧ (nKd t = 10 → ∀ g, g < 3 → bit (nMk t) g = true → SHs f (nP t g) Γ Δ) ∧ (nKd t = 11 → SHs f (nX t) Γ Δ)
theorem TL_sh : ∀ (f : Nat) (t : Ty) (Γ : List Ty) (Δ : List (Nat × Ty × Nat)), TWf f Γ.length (Δ.map (fun a => a.1)) t → TE Γ Δ → NAt f t → noac Γ → (∀ a ∈ Δ, noal a.2.1 = true) → cch Γ + dch Δ + mch t ≤ 60 → SHs f t Γ Δ → TL f t Γ Δ
  | 0, _, _, _, _, _, _, _, _, _, _ => trivial
  | f + 1, t, Γ, Δ, w, he, na, hv, hd', hb, hx => by
    obtain ⟨w0, w5, w6, w7, w8, w9, w10, w11, w12⟩ := w
    obtain ⟨v6, v7, v8, v9, v10, v11⟩ := na
    obtain ⟨u6, u7, u8, u9, u10, u11⟩ := hx
    have em := mch_is w0.2.1
    have ih := fun t' Γ' Δ' => TL_sh f t' Γ' Δ'
    have two : nKd t = 7 ∨ nKd t = 12 → mch t = 2 + (mch (nX t) + mch (nY t)) := by
      intro c
      rw [em, if_neg (by omega), if_neg (by omega), if_neg (by omega), if_neg (by omega)]
    have both : nKd t = 7 ∨ nKd t = 12 → TL f (nX t) Γ Δ ∧ TL f (nY t) Γ Δ := by
      intro c
      have e2 := two c
      obtain ⟨x1, x2⟩ := w7 c
      obtain ⟨y1, y2⟩ := v7 c
      obtain ⟨⟨z1, z2⟩, -⟩ := u7 c
      exact ⟨ih _ _ _ x1 he y1 hv hd' (by omega) z1, ih _ _ _ x2 he y2 hv hd' (by omega) z2⟩
    refine ⟨fun c6 => ?_, fun c7 => ⟨(both (Or.inl c7)).1, (both (Or.inl c7)).2, fun S T hS hT hf => ?_⟩, fun c8 => ?_, fun c9 => ⟨?_, fun S hS hf => ?_⟩, fun c10 g hg hbg => ?_, fun c11 => ?_, fun c12 => ⟨(both (Or.inr c12)).1, (both (Or.inr c12)).2, fun S T hS hT => ?_⟩⟩
    · obtain ⟨-, x1, x2, x3⟩ := w6 c6
      rw [if_neg (by omega), if_pos (Or.inl c6)] at em
      refine ih _ _ _ x3 (he.lam x1 x2) (v6 c6).2 hv (fun a ha => ?_) ?_ (u6 c6)
      · rcases List.mem_cons.mp ha with e | e
        · rw [e]; exact (v6 c6).1
        · exact hd' a e
      · show cch Γ + ((tch (nX t) + 4) + dch Δ) + mch (nY t) ≤ 60
        omega
    · have e2 := two (Or.inl c7)
      obtain ⟨x1, x2⟩ := w7 (Or.inl c7)
      obtain ⟨y1, y2⟩ := v7 (Or.inl c7)
      obtain ⟨-, z1, z2⟩ := u7 (Or.inl c7)
      obtain ⟨oS, lS⟩ := tyF_ok f _ Γ Δ S x1 he hS
      obtain ⟨oT, lT⟩ := tyF_ok f _ Γ Δ T x2 he hT
      obtain ⟨oF, lF⟩ := expo_ok he.1 he.2.1 Γ.length S oS lS
      have nS := noal_expo he.1 hv Γ.length S oS (tyF_noal f _ Γ Δ S x1 he y1 hv hd' hS)
      have nT := tyF_noal f _ Γ Δ T x2 he y2 hv hd' hT
      obtain ⟨a, b, e3, oa, ob⟩ := hd_is_fun oF hf
      have na' : noal (k1 (expo Γ Γ.length S)) = true := by
        rw [e3, noal_fun, Bool.and_eq_true] at nS
        rw [e3]; exact nS.1
      have oa' : ok Γ.length (k1 (expo Γ Γ.length S)) = true := by rw [e3]; exact oa
      exact LB_sh (e := 0) (by decide) hf (noal_TB ⟨he.1, oT, oa'⟩ hv nT na') x1 x2 he hS hT (by omega) z1 z2
    · obtain ⟨x1, x2, x3⟩ := w8 c8
      rw [if_neg (by omega), if_pos (Or.inr c8)] at em
      obtain ⟨⟨y1, y2⟩, y3⟩ := v8 c8
      refine ih _ _ _ x3 (he.all x1 x2) y3 (noac_cons hv y1 y2) hd' ?_ (u8 c8)
      show ((tch (nX t) + 4) + cch Γ) + dch Δ + mch (nY t) ≤ 60
      omega
    · rw [if_neg (by omega), if_neg (by omega), if_pos c9] at em
      obtain ⟨x1, x2, x3⟩ := w9 c9
      exact ih _ _ _ x1 he (v9 c9).1 hv hd' (by omega) (u9 c9)
    · rw [if_neg (by omega), if_neg (by omega), if_pos c9] at em
      obtain ⟨x1, x2, x3⟩ := w9 c9
      obtain ⟨oS, lS⟩ := tyF_ok f _ Γ Δ S x1 he hS
      obtain ⟨oF, lF⟩ := expo_ok he.1 he.2.1 Γ.length S oS lS
      have nS := noal_expo he.1 hv Γ.length S oS (tyF_noal f _ Γ Δ S x1 he (v9 c9).1 hv hd' hS)
      obtain ⟨a, b, e3, oa, ob⟩ := hd_is_all oF hf
      have na' : noal (k1 (expo Γ Γ.length S)) = true := by
        rw [e3, noal_all, Bool.and_eq_true, Bool.and_eq_true] at nS
        rw [e3]; exact nS.2.1
      have oa' : ok Γ.length (k1 (expo Γ Γ.length S)) = true := by rw [e3]; exact oa
      have l1 : (flat (k1 (expo Γ Γ.length S))).length ≤ 16 := by
        rw [e3, flat_all, List.length_cons, List.length_append] at lF
        rw [e3]
        show (flat a).length ≤ 16
        omega
      have room := inst_room x1 hS hf
      have tp := tch_pos x2
      have mp := short_c x1
      have hk : tch (nY t) + cch Γ ≤ 56 := by omega
      exact LB_ST (noal_TB ⟨he.1, x2, oa'⟩ hv (v9 c9).2 na') (by omega) x3 l1 (Or.inl ⟨true, Nat.le_trans (rows_first he.1 x2 hk) (by decide)⟩)
    · rw [if_neg (by omega), if_neg (by omega), if_neg (by omega), if_pos c10] at em
      obtain ⟨m8, x1⟩ := w10 c10
      have hm : mch (nP t g) ≤ mch t := by
        rw [em]
        rcases (show g = 0 ∨ g = 1 ∨ g = 2 by omega) with rfl | rfl | rfl
        · show mch (nX t) ≤ _; omega
        · show mch (nY t) ≤ _; omega
        · show mch (nZ t) ≤ _; omega
      exact ih _ _ _ (x1 g hg hbg) he (v10 c10 g hg hbg) hv hd' (by omega) (u10 c10 g hg hbg)
    · rw [if_neg (by omega), if_neg (by omega), if_neg (by omega), if_neg (by omega)] at em
      exact ih _ _ _ (w11 c11).2 he (v11 c11) hv hd' (by omega) (u11 c11)
    · have e2 := two (Or.inr c12)
      obtain ⟨x1, x2⟩ := w7 (Or.inr c12)
      obtain ⟨y1, y2⟩ := v7 (Or.inr c12)
      obtain ⟨-, z1, z2⟩ := u7 (Or.inr c12)
      obtain ⟨oS, lS⟩ := tyF_ok f _ Γ Δ S x1 he hS
      obtain ⟨oT, lT⟩ := tyF_ok f _ Γ Δ T x2 he hT
      have nS := tyF_noal f _ Γ Δ S x1 he y1 hv hd' hS
      have nT := tyF_noal f _ Γ Δ T x2 he y2 hv hd' hT
      exact LJ_sh (e := 0) (by decide) (noal_TB ⟨he.1, oS, oT⟩ hv nS nT) x1 x2 he hS hT (by omega) z1 z2
