/-! LIMITS OF TERMS OUT OF LIMITS OF PAIRS (no aliases); pairs that are done. -/
/-- what is wanted of two terms -/
def PRn (f : Nat) (x y : Ty) (Γ : List Ty) (Δ : List (Nat × Ty × Nat)) : Prop := ∀ S T, tyF f x Γ Δ = .inr S → tyF f y Γ Δ = .inr T → LJ Γ S T ∧ (hd (expo Γ Γ.length S) = 1 → LB Γ T (k1 (expo Γ Γ.length S)))
def PAIRn : Prop := ∀ (f : Nat) (x y : Ty) (Γ : List Ty) (Δ : List (Nat × Ty × Nat)), TWf f Γ.length (Δ.map (fun a => a.1)) x → TWf f Γ.length (Δ.map (fun a => a.1)) y → TE Γ Δ → NAt f x → NAt f y → noac Γ → (∀ a ∈ Δ, noal a.2.1 = true) → cch Γ + dch Δ + (2 + (mch x + mch y)) ≤ 60 → PRn f x y Γ Δ
theorem TL_pairs (hp : PAIRn) : ∀ (f : Nat) (t : Ty) (Γ : List Ty) (Δ : List (Nat × Ty × Nat)), TWf f Γ.length (Δ.map (fun a => a.1)) t → TE Γ Δ → NAt f t → noac Γ → (∀ a ∈ Δ, noal a.2.1 = true) → cch Γ + dch Δ + mch t ≤ 60 → TL f t Γ Δ
  | 0, _, _, _, _, _, _, _, _, _ => trivial
  | f + 1, t, Γ, Δ, w, he, na, hv, hd', hb => by
    obtain ⟨w0, w5, w6, w7, w8, w9, w10, w11, w12⟩ := w
    obtain ⟨v6, v7, v8, v9, v10, v11⟩ := na
    have em := mch_is w0.2.1
    have ih := fun t' Γ' Δ' => TL_pairs hp f t' Γ' Δ'
    have two : nKd t = 7 ∨ nKd t = 12 → mch t = 2 + (mch (nX t) + mch (nY t)) := by
      intro c
      rw [em, if_neg (by omega), if_neg (by omega), if_neg (by omega), if_neg (by omega)]
    have both : nKd t = 7 ∨ nKd t = 12 → TL f (nX t) Γ Δ ∧ TL f (nY t) Γ Δ := by
      intro c
      have e2 := two c
      obtain ⟨x1, x2⟩ := w7 c
      obtain ⟨y1, y2⟩ := v7 c
      exact ⟨ih _ _ _ x1 he y1 hv hd' (by omega), ih _ _ _ x2 he y2 hv hd' (by omega)⟩
    refine ⟨fun c6 => ?_, fun c7 => ⟨(both (Or.inl c7)).1, (both (Or.inl c7)).2, fun S T hS hT hf => ?_⟩, fun c8 => ?_, fun c9 => ⟨?_, fun S hS hf => ?_⟩, fun c10 g hg hbg => ?_, fun c11 => ?_, fun c12 => ⟨(both (Or.inr c12)).1, (both (Or.inr c12)).2, fun S T hS hT => ?_⟩⟩
    · obtain ⟨-, x1, x2, x3⟩ := w6 c6
      rw [if_neg (by omega), if_pos (Or.inl c6)] at em
      refine ih _ _ _ x3 (he.lam x1 x2) (v6 c6).2 hv (fun a ha => ?_) ?_
      · rcases List.mem_cons.mp ha with e | e
        · rw [e]; exact (v6 c6).1
        · exact hd' a e
      · show cch Γ + ((tch (nX t) + 4) + dch Δ) + mch (nY t) ≤ 60
        omega
    · have e2 := two (Or.inl c7)
      obtain ⟨x1, x2⟩ := w7 (Or.inl c7)
      obtain ⟨y1, y2⟩ := v7 (Or.inl c7)
      exact (hp f (nX t) (nY t) Γ Δ x1 x2 he y1 y2 hv hd' (by omega) S T hS hT).2 hf
    · obtain ⟨x1, x2, x3⟩ := w8 c8
      rw [if_neg (by omega), if_pos (Or.inr c8)] at em
      obtain ⟨⟨y1, y2⟩, y3⟩ := v8 c8
      refine ih _ _ _ x3 (he.all x1 x2) y3 (noac_cons hv y1 y2) hd' ?_
      show ((tch (nX t) + 4) + cch Γ) + dch Δ + mch (nY t) ≤ 60
      omega
    · rw [if_neg (by omega), if_neg (by omega), if_pos c9] at em
      obtain ⟨x1, x2, x3⟩ := w9 c9
      exact ih _ _ _ x1 he (v9 c9).1 hv hd' (by omega)
    · rw [if_neg (by omega), if_neg (by omega), if_pos c9] at em
      obtain ⟨x1, x2, x3⟩ := w9 c9
      obtain ⟨oS, lS⟩ := tyF_ok f _ Γ Δ S x1 he hS
      obtain ⟨oF, lF⟩ := expo_ok he.1 he.2.1 Γ.length S oS lS
      have nS := noal_expo he.1 hv Γ.length S oS (tyF_noal f _ Γ Δ S x1 he (v9 c9).1 hv hd' hS)
      obtain ⟨a, b, e3, oa, ob⟩ := hd_is_all oF hf
      have na' : noal (k1 (expo Γ Γ.length S)) = true := by
        rw [e3, noal_all, Bool.and_eq_true, Bool.and_eq_true] at nS
        rw [e3]; exact nS.2.1
      have oa' : ok Γ.length (k1 (expo Γ Γ.length S)) = true := by rw [e3]; exact oa
      have l1 : (flat (k1 (expo Γ Γ.length S))).length ≤ 16 := by
        rw [e3, flat_all, List.length_cons, List.length_append] at lF
        rw [e3]
        show (flat a).length ≤ 16
        omega
      have room := inst_room x1 hS hf
      have tp := tch_pos x2
      have mp := short_c x1
      have hk : tch (nY t) + cch Γ ≤ 56 := by omega
      exact LB_ST (noal_TB ⟨he.1, x2, oa'⟩ hv (v9 c9).2 na') (by omega) x3 l1 (Or.inl ⟨true, Nat.le_trans (rows_first he.1 x2 hk) (by decide)⟩)
    · rw [if_neg (by omega), if_neg (by omega), if_neg (by omega), if_pos c10] at em
      obtain ⟨m8, x1⟩ := w10 c10
      have hm : mch (nP t g) ≤ mch t := by
        rw [em]
        rcases (show g = 0 ∨ g = 1 ∨ g = 2 by omega) with rfl | rfl | rfl
        · show mch (nX t) ≤ _; omega
        · show mch (nY t) ≤ _; omega
        · show mch (nZ t) ≤ _; omega
      exact ih _ _ _ (x1 g hg hbg) he (v10 c10 g hg hbg) hv hd' (by omega)
    · rw [if_neg (by omega), if_neg (by omega), if_neg (by omega), if_neg (by omega)] at em
      exact ih _ _ _ (w11 c11).2 he (v11 c11) hv hd' (by omega)
    · have e2 := two (Or.inr c12)
      obtain ⟨x1, x2⟩ := w7 (Or.inr c12)
      obtain ⟨y1, y2⟩ := v7 (Or.inr c12)
      exact (hp f (nX t) (nY t) Γ Δ x1 x2 he y1 y2 hv hd' (by omega) S T hS hT).1
section PmPj
variable {f : Nat} {x y : Ty} {Γ : List Ty} {Δ : List (Nat × Ty × Nat)}
theorem pair_two (x1 : TWf f Γ.length (Δ.map (fun a => a.1)) x) (x2 : TWf f Γ.length (Δ.map (fun a => a.1)) y) (he : TE Γ Δ) (y1 : NAt f x) (y2 : NAt f y) (hv : noac Γ) (hd' : ∀ a ∈ Δ, noal a.2.1 = true) {S T : Ty} (hS : tyF f x Γ Δ = .inr S) (hT : tyF f y Γ Δ = .inr T) : (TB 1 (Γ, S, T) ∧ (flat S).length ≤ 16 ∧ (flat T).length ≤ 16) ∧ (hd (expo Γ Γ.length S) = 1 → TB 1 (Γ, T, k1 (expo Γ Γ.length S)) ∧ (flat (k1 (expo Γ Γ.length S))).length ≤ 16) := by
  obtain ⟨oS, lS⟩ := tyF_ok f _ Γ Δ S x1 he hS
  obtain ⟨oT, lT⟩ := tyF_ok f _ Γ Δ T x2 he hT
  have nS := tyF_noal f _ Γ Δ S x1 he y1 hv hd' hS
  have nT := tyF_noal f _ Γ Δ T x2 he y2 hv hd' hT
  refine ⟨⟨noal_TB ⟨he.1, oS, oT⟩ hv nS nT, lS, lT⟩, fun hf => ?_⟩
  obtain ⟨oF, lF⟩ := expo_ok he.1 he.2.1 Γ.length S oS lS
  have nF := noal_expo he.1 hv Γ.length S oS nS
  obtain ⟨a, b, e3, oa, ob⟩ := hd_is_fun oF hf
  have na' : noal (k1 (expo Γ Γ.length S)) = true := by
    rw [e3, noal_fun, Bool.and_eq_true] at nF
    rw [e3]; exact nF.1
  have oa' : ok Γ.length (k1 (expo Γ Γ.length S)) = true := by rw [e3]; exact oa
  refine ⟨noal_TB ⟨he.1, oT, oa'⟩ hv nT na', ?_⟩
  rw [e3, flat_fun, List.length_cons, List.length_append] at lF
  rw [e3]
  show (flat a).length ≤ 16
  omega
/-- by the shorter one -/
theorem pair_sh (x1 : TWf f Γ.length (Δ.map (fun a => a.1)) x) (x2 : TWf f Γ.length (Δ.map (fun a => a.1)) y) (he : TE Γ Δ) (y1 : NAt f x) (y2 : NAt f y) (hv : noac Γ) (hd' : ∀ a ∈ Δ, noal a.2.1 = true) (hb : cch Γ + dch Δ + (2 + (mch x + mch y)) ≤ 60) (z1 : mch x ≤ mch y → ShT f x Γ Δ) (z2 : ¬ mch x ≤ mch y → ShT f y Γ Δ) : PRn f x y Γ Δ := by
  intro S T hS hT
  obtain ⟨⟨tb, lS, lT⟩, q⟩ := pair_two x1 x2 he y1 y2 hv hd' hS hT
  refine ⟨LJ_sh (e := 0) (by decide) tb x1 x2 he hS hT (by omega) z1 z2, fun hf => ?_⟩
  exact LB_sh (e := 0) (by decide) hf (q hf).1 x1 x2 he hS hT (by omega) z1 z2
/-- a scheme without its body, the others light -/
def ZX (Γ : List Ty) : Prop := ∃ h B C Γ0 Δ' c0, Γ = cxs Δ' Γ0 (tAll B C) ∧ ZH h B C Γ0 ∧ 8 ≤ c0 ∧ cch Γ0 ≤ c0 ∧ c0 + cch Δ' ≤ 13
theorem pair_z (x1 : TWf f Γ.length (Δ.map (fun a => a.1)) x) (x2 : TWf f Γ.length (Δ.map (fun a => a.1)) y) (he : TE Γ Δ) (y1 : NAt f x) (y2 : NAt f y) (hv : noac Γ) (hd' : ∀ a ∈ Δ, noal a.2.1 = true) (hb : cch Γ + dch Δ + (2 + (mch x + mch y)) ≤ 60) (zx : ZX Γ) : PRn f x y Γ Δ := by
  intro S T hS hT
  obtain ⟨⟨tb, lS, lT⟩, q⟩ := pair_two x1 x2 he y1 y2 hv hd' hS hT
  obtain ⟨h, B, C, Γ0, Δ', c0, e, z, c8, k0, k1⟩ := zx
  have m1 := short_c x1
  have m2 := short_c x2
  subst e
  refine ⟨LJ_z z tb (by omega) lS lT c8 k0 k1, fun hf => ?_⟩
  obtain ⟨tb2, l2⟩ := q hf
  exact LB_z z tb2 (by omega) lT l2 c8 k0 k1
end PmPj
