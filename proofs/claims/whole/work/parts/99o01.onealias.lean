/-! THE LIMITS FOR TERMS WITH AT MOST ONE ALIAS, where the shorter one of two terms is small. -/
theorem TL_sh1 {k0 : Nat} : ∀ (f : Nat) (t : Ty) (Γ : List Ty) (Δ : List (Nat × Ty × Nat)), TWf f Γ.length (Δ.map (fun a => a.1)) t → TE Γ Δ → NKt k0 f t Γ.length → cxi k0 (zl Γ.length) Γ → (∀ a ∈ Δ, chd k0 (zl a.2.2) a.2.1) → k0 + acx Γ + abn f t ≤ 1 → cch Γ + dch Δ + mch t ≤ 60 → SHs f t Γ Δ → TL f t Γ Δ
  | 0, _, _, _, _, _, _, _, _, _, _, _ => trivial
  | f + 1, t, Γ, Δ, w, he, na, hv, hd', ha1, hb, hx => by
    obtain ⟨w0, w5, w6, w7, w8, w9, w10, w11, w12⟩ := w
    obtain ⟨v6, v7, v8, v9, v10, v11⟩ := na
    obtain ⟨u6, u7, u8, u9, u10, u11⟩ := hx
    have em := mch_is w0.2.1
    have ih := fun t' Γ' Δ' => TL_sh1 (k0 := k0) f t' Γ' Δ'
    have two : nKd t = 7 ∨ nKd t = 12 → mch t = 2 + (mch (nX t) + mch (nY t)) := by
      intro c
      rw [em, if_neg (by omega), if_neg (by omega), if_neg (by omega), if_neg (by omega)]
    have twoA : nKd t = 7 ∨ nKd t = 12 → abn (f + 1) t = abn f (nX t) + abn f (nY t) := by
      intro c
      rw [abn, if_neg (by omega), if_neg (by omega), if_neg (by omega), if_neg (by omega), if_pos c]
    have tbs : ∀ S T, tok (Γ, S, T) → chd (1 - acx Γ) (zl Γ.length) S → chd (1 - acx Γ) (zl Γ.length) T → TB (1 + 1) (Γ, S, T) := by
      intro S T tk cS cT
      have q := chd_TB (e := 1 - acx Γ) (E := 1 + acx Γ) (by omega) tk (cxi_up (by omega) hv) (acx_cl Γ he.1) cS cT
      rw [show 1 - acx Γ + (1 + acx Γ) = 1 + 1 by omega] at q
      exact q
    have both : nKd t = 7 ∨ nKd t = 12 → TL f (nX t) Γ Δ ∧ TL f (nY t) Γ Δ := by
      intro c
      have e2 := two c
      obtain ⟨x1, x2⟩ := w7 c
      obtain ⟨y1, y2⟩ := v7 c
      obtain ⟨⟨z1, z2⟩, -⟩ := u7 c
      have e3 := twoA c
      exact ⟨ih _ _ _ x1 he y1 hv hd' (by omega) (by omega) z1, ih _ _ _ x2 he y2 hv hd' (by omega) (by omega) z2⟩
    refine ⟨fun c6 => ?_, fun c7 => ⟨(both (Or.inl c7)).1, (both (Or.inl c7)).2, fun S T hS hT hf => ?_⟩, fun c8 => ?_, fun c9 => ⟨?_, fun S hS hf => ?_⟩, fun c10 g hg hbg => ?_, fun c11 => ?_, fun c12 => ⟨(both (Or.inr c12)).1, (both (Or.inr c12)).2, fun S T hS hT => ?_⟩⟩
    · obtain ⟨-, x1, x2, x3⟩ := w6 c6
      rw [if_neg (by omega), if_pos (Or.inl c6)] at em
      have ea : abn (f + 1) t = abn f (nY t) := by rw [abn, if_pos c6]
      refine ih _ _ _ x3 (he.lam x1 x2) (v6 c6).2 hv (fun a ha => ?_) (by omega) ?_ (u6 c6)
      · rcases List.mem_cons.mp ha with e | e
        · rw [e]; exact (v6 c6).1
        · exact hd' a e
      · show cch Γ + ((tch (nX t) + 4) + dch Δ) + mch (nY t) ≤ 60
        omega
    · have e2 := two (Or.inl c7)
      obtain ⟨x1, x2⟩ := w7 (Or.inl c7)
      obtain ⟨y1, y2⟩ := v7 (Or.inl c7)
      obtain ⟨-, z1, z2⟩ := u7 (Or.inl c7)
      obtain ⟨oS, lS⟩ := tyF_ok f _ Γ Δ S x1 he hS
      obtain ⟨oT, lT⟩ := tyF_ok f _ Γ Δ T x2 he hT
      obtain ⟨oF, lF⟩ := expo_ok he.1 he.2.1 Γ.length S oS lS
      have e4 := twoA (Or.inl c7)
      have nS := chd_expo he.1 (cxi_up (e' := 1 - acx Γ) (by omega) hv) Γ.length S oS (chd_up (by omega) _ _ (tyF_chd f _ Γ Δ S x1 he y1 hv hd' hS))
      have nT := chd_up (e' := 1 - acx Γ) (by omega) _ _ (tyF_chd f _ Γ Δ T x2 he y2 hv hd' hT)
      obtain ⟨a, b, e3, oa, ob⟩ := hd_is_fun oF hf
      have na' : chd (1 - acx Γ) (zl Γ.length) (k1 (expo Γ Γ.length S)) := by
        rw [e3, chd_fun] at nS
        rw [e3]; exact nS.1
      have oa' : ok Γ.length (k1 (expo Γ Γ.length S)) = true := by rw [e3]; exact oa
      exact LB_sh (e := 1) (by decide) hf (tbs _ _ ⟨he.1, oT, oa'⟩ nT na') x1 x2 he hS hT (by omega) z1 z2
    · obtain ⟨x1, x2, x3⟩ := w8 c8
      rw [if_neg (by omega), if_pos (Or.inr c8)] at em
      obtain ⟨y1, y3⟩ := v8 c8
      have ea : abn (f + 1) t = (if 16 ≤ hd (nX t) then 1 else 0) + abn f (nY t) := by rw [abn, if_neg (by omega), if_pos c8]
      refine ih _ (nX t :: Γ) _ x3 (he.all x1 x2) y3 (cxi_cons hv y1) hd' ?_ ?_ (u8 c8)
      · show k0 + ((if 16 ≤ hd (nX t) then 1 else 0) + acx Γ) + abn f (nY t) ≤ 1
        omega
      show ((tch (nX t) + 4) + cch Γ) + dch Δ + mch (nY t) ≤ 60
      omega
    · rw [if_neg (by omega), if_neg (by omega), if_pos c9] at em
      obtain ⟨x1, x2, x3⟩ := w9 c9
      have ea : abn (f + 1) t = abn f (nX t) := by rw [abn, if_neg (by omega), if_neg (by omega), if_pos (Or.inl c9)]
      exact ih _ _ _ x1 he (v9 c9).1 hv hd' (by omega) (by omega) (u9 c9)
    · rw [if_neg (by omega), if_neg (by omega), if_pos c9] at em
      obtain ⟨x1, x2, x3⟩ := w9 c9
      obtain ⟨oS, lS⟩ := tyF_ok f _ Γ Δ S x1 he hS
      obtain ⟨oF, lF⟩ := expo_ok he.1 he.2.1 Γ.length S oS lS
      have ea : abn (f + 1) t = abn f (nX t) := by rw [abn, if_neg (by omega), if_neg (by omega), if_pos (Or.inl c9)]
      have nS := chd_expo he.1 (cxi_up (e' := 1 - acx Γ) (by omega) hv) Γ.length S oS (chd_up (by omega) _ _ (tyF_chd f _ Γ Δ S x1 he (v9 c9).1 hv hd' hS))
      obtain ⟨a, b, e3, oa, ob⟩ := hd_is_all oF hf
      have na' : chd (1 - acx Γ) (zl Γ.length) (k1 (expo Γ Γ.length S)) := by
        rw [e3, chd_all] at nS
        rw [e3]; exact nS.1
      have oa' : ok Γ.length (k1 (expo Γ Γ.length S)) = true := by rw [e3]; exact oa
      have l1 : (flat (k1 (expo Γ Γ.length S))).length ≤ 16 := by
        rw [e3, flat_all, List.length_cons, List.length_append] at lF
        rw [e3]
        show (flat a).length ≤ 16
        omega
      have room := inst_room x1 hS hf
      have tp := tch_pos x2
      have mp := short_c x1
      have hk : tch (nY t) + cch Γ ≤ 56 := by omega
      exact LB_ST' (e := 1) (tbs _ _ ⟨he.1, x2, oa'⟩ (chd_up (by omega) _ _ (v9 c9).2) na') (by omega) x3 l1 (Or.inl (Nat.le_trans (rows_first (b := false) he.1 x2 hk) (by decide)))
    · rw [if_neg (by omega), if_neg (by omega), if_neg (by omega), if_pos c10] at em
      obtain ⟨m8, x1⟩ := w10 c10
      have hm : mch (nP t g) ≤ mch t := by
        rw [em]
        rcases (show g = 0 ∨ g = 1 ∨ g = 2 by omega) with rfl | rfl | rfl
        · show mch (nX t) ≤ _; omega
        · show mch (nY t) ≤ _; omega
        · show mch (nZ t) ≤ _; omega
      have ea : abn f (nP t g) ≤ abn (f + 1) t := by
        rw [abn, if_neg (by omega), if_neg (by omega), if_neg (by omega), if_pos c10]
        rcases (show g = 0 ∨ g = 1 ∨ g = 2 by omega) with rfl | rfl | rfl
        · rw [if_pos hbg]; exact Nat.le_add_right _ _
        · rw [if_pos hbg]; show abn f (nY t) ≤ _; omega
        · rw [if_pos hbg]; show abn f (nZ t) ≤ _; omega
      exact ih _ _ _ (x1 g hg hbg) he (v10 c10 g hg hbg) hv hd' (by omega) (by omega) (u10 c10 g hg hbg)
    · rw [if_neg (by omega), if_neg (by omega), if_neg (by omega), if_neg (by omega)] at em
      have ea : abn (f + 1) t = abn f (nX t) := by rw [abn, if_neg (by omega), if_neg (by omega), if_pos (Or.inr c11)]
      exact ih _ _ _ (w11 c11).2 he (v11 c11) hv hd' (by omega) (by omega) (u11 c11)
    · have e2 := two (Or.inr c12)
      obtain ⟨x1, x2⟩ := w7 (Or.inr c12)
      obtain ⟨y1, y2⟩ := v7 (Or.inr c12)
      obtain ⟨-, z1, z2⟩ := u7 (Or.inr c12)
      obtain ⟨oS, lS⟩ := tyF_ok f _ Γ Δ S x1 he hS
      obtain ⟨oT, lT⟩ := tyF_ok f _ Γ Δ T x2 he hT
      have e4 := twoA (Or.inr c12)
      have nS := chd_up (e' := 1 - acx Γ) (by omega) _ _ (tyF_chd f _ Γ Δ S x1 he y1 hv hd' hS)
      have nT := chd_up (e' := 1 - acx Γ) (by omega) _ _ (tyF_chd f _ Γ Δ T x2 he y2 hv hd' hT)
      exact LJ_sh (e := 1) (by decide) (tbs _ _ ⟨he.1, oS, oT⟩ nS nT) x1 x2 he hS hT (by omega) z1 z2
