/-! WHAT IS ABOVE A FUNCTION ONLY: a join that is a function is one of functions. -/
def UFx (F G : Ty) : Prop := hd G = 1 → hd F = 1
theorem UFx_refl {F : Ty} : UFx F F := fun h => h
theorem UFx_top {F : Ty} : UFx F tTop := fun h => absurd h (by decide)
section PmZza1
variable {Γ : List Ty}
theorem bel_ufx (hv : noac Γ) {S T : Ty} (tk : tok (Γ, S, T)) (h : bel Γ S T = true) : UFx (expo Γ Γ.length S) (expo Γ Γ.length T) := by
  have hc : okc Γ := tk.1
  have oS : ok Γ.length S = true := tk.2.1
  have oT : ok Γ.length T = true := tk.2.2
  -- below what is no variable
  have low : ∀ F, ok Γ.length F = true → ¬ 16 ≤ hd F → ¬ 16 ≤ hd T → bel Γ F T = true → UFx F T := by
    intro F oF hF hT hb
    have tk' : tok (Γ, F, T) := ⟨hc, oF, oT⟩
    intro h1
    exact Classical.byContradiction (fun c => by
      rw [bel_no tk' (by omega) hF (fun q => by omega) (by omega)] at hb
      cases hb)
  by_cases vT : 16 ≤ hd T
  · obtain ⟨j, hj, rfl⟩ := hd_is_var oT vT
    by_cases vS : 16 ≤ hd S
    · obtain ⟨k, hk, rfl⟩ := hd_is_var oS vS
      by_cases e : k = j
      · subst e; exact UFx_refl
      · exfalso
        rw [bel_var tk (by rw [hd_var]; omega) (by rw [hd_var]; omega)] at h
        have q := (ex_v hc hv hk).2
        rw [bel_no (show tok (Γ, lft k (Γ.length - k) (bnd Γ k), tVar j) from ⟨hc, ok_expose hc hk, oT⟩) (by rw [hd_var]; omega) (by omega) (fun q => by have := q.2.2; rw [hd_var] at this; omega) (by rw [hd_var]; omega)] at h
        cases h
    · exfalso
      rw [bel_no tk (by rw [hd_var]; omega) vS (fun q => by have := q.2.2; rw [hd_var] at this; omega) (by rw [hd_var]; omega)] at h
      cases h
  · rw [ex_n vT]
    by_cases vS : 16 ≤ hd S
    · obtain ⟨k, hk, rfl⟩ := hd_is_var oS vS
      have q := ex_v hc hv hk
      rw [q.1]
      by_cases h0 : hd T = 0
      · have eT : T = tTop := by
          rcases ok_cases oT with e' | ⟨j, hj, e'⟩ | ⟨p, q, e', -, -⟩ | ⟨p, q, e', -, -⟩ | ⟨m, x, y, z, hm, e', -⟩
          · exact e'
          · rw [e', hd_var] at h0; omega
          · rw [e', hd_fun] at h0; omega
          · rw [e', hd_all] at h0; omega
          · rw [e', hd_rec] at h0; omega
        rw [eT]; exact UFx_top
      rw [bel_var tk h0 (by omega)] at h
      exact low _ (ok_expose hc hk) (by omega) vT h
    · rw [ex_n vS]
      exact low S oS vS vT h
theorem ju_ufx (hv : noac Γ) : ∀ (f : Nat) (S T R : Ty), tok (Γ, S, T) → cu f 0 Γ S T = some R → UFx (expo Γ Γ.length S) (expo Γ Γ.length R) ∧ UFx (expo Γ Γ.length T) (expo Γ Γ.length R)
  | 0, _, _, _, _, e => by cases e
  | f + 1, S, T, R, tk, e0 => by
    have hc : okc Γ := tk.1
    have hs : ok Γ.length S = true := tk.2.1
    have hT : ok Γ.length T = true := tk.2.2
    have top : ∀ R, R = tTop → UFx (expo Γ Γ.length S) (expo Γ Γ.length R) ∧ UFx (expo Γ Γ.length T) (expo Γ Γ.length R) := fun R e => by
      subst e
      rw [ex_n (S := tTop) (by decide)]
      exact ⟨UFx_top, UFx_top⟩
    have e : cmsU (cu f) 0 Γ S T = some R := e0
    unfold cmsU at e
    rw [if_neg (by decide)] at e
    by_cases c2 : bel Γ S T = true
    · rw [if_pos c2, if_pos rfl] at e
      cases e
      exact ⟨bel_ufx hv tk c2, UFx_refl⟩
    rw [if_neg c2] at e
    by_cases c3 : bel Γ T S = true
    · rw [if_pos c3, if_pos rfl] at e
      cases e
      exact ⟨UFx_refl, bel_ufx hv ⟨hc, hT, hs⟩ c3⟩
    rw [if_neg c3] at e
    by_cases c4 : 16 ≤ hd S
    · rw [if_pos c4, if_neg (by decide)] at e
      obtain ⟨k, hk, rfl⟩ := hd_is_var hs c4
      rw [exps_var] at e
      have q := ju_ufx hv f _ T R ⟨hc, ok_expose hc hk, hT⟩ e
      have v := ex_v hc hv hk
      rw [ex_n (by omega)] at q
      rw [v.1]
      exact q
    rw [if_neg c4] at e
    by_cases c6 : 16 ≤ hd T
    · rw [if_pos c6, if_neg (by decide)] at e
      obtain ⟨k, hk, rfl⟩ := hd_is_var hT c6
      rw [exps_var] at e
      have q := ju_ufx hv f S _ R ⟨hc, hs, ok_expose hc hk⟩ e
      have v := ex_v hc hv hk
      rw [ex_n (S := lft k (Γ.length - k) (bnd Γ k)) (by omega)] at q
      rw [v.1]
      exact q
    rw [if_neg c6] at e
    rw [ex_n c4, ex_n c6]
    rw [ex_n c4, ex_n c6] at top
    by_cases c7 : 8 ≤ hd S ∧ 8 ≤ hd T
    · rw [if_pos c7] at e
      obtain ⟨m, x, y, z, hm, rfl⟩ := hd_is_rec hs c7.1 (by omega)
      obtain ⟨m', x', y', z', hm', rfl⟩ := hd_is_rec hT c7.2 (by omega)
      rw [hd_rec, hd_rec, show 8 + m - 8 = m by omega, show 8 + m' - 8 = m' by omega] at e
      rcases uRec_some e with e | ⟨a, b, c, ea, eb, ec, e⟩
      · exact top R e
      · rw [e, ex_n (by rw [hd_rec]; have := (and8 m hm m' hm').2; omega)]
        exact ⟨fun g => by rw [hd_rec] at g; omega, fun g => by rw [hd_rec] at g; omega⟩
    rw [if_neg c7] at e
    by_cases c8 : hd S = 1 ∧ hd T = 1
    · rw [if_pos c8] at e
      rcases uFun_some e with e | ⟨p', q, ep, eq, e⟩
      · exact top R e
      · rw [e, ex_n (by rw [hd_fun]; omega)]
        exact ⟨fun _ => c8.1, fun _ => c8.2⟩
    rw [if_neg c8] at e
    by_cases c9 : hd S = 2 ∧ hd T = 2 ∧ flat (k1 S) = flat (k1 T)
    · rw [if_pos c9] at e
      obtain ⟨a, b, rfl, ha, hb⟩ := hd_is_all hs c9.1
      obtain ⟨a', b', rfl, ha', hb'⟩ := hd_is_all hT c9.2.1
      have ea : a = a' := flat_eq ha ha' c9.2.2
      subst ea
      rcases uAll_some e with e | ⟨q, eq, e⟩
      · exact top R e
      · have e : R = tAll a q := e
        rw [e, ex_n (by rw [hd_all]; omega)]
        exact ⟨fun g => by rw [hd_all] at g; omega, fun g => by rw [hd_all] at g; omega⟩
    rw [if_neg c9] at e
    exact top R (tnu_some e)
end PmZza1
section PmZza2
variable {f : Nat} {v R : Ty} {Γ : List Ty} {a0 : Nat × Ty × Nat}
/-- five characters with a choice on the way: no function -/
theorem ty_five1 (he : TE Γ [a0]) (hv : noac Γ) (w : TWf f Γ.length [a0.1] v) (tn : TNo f v) (nc : ¬ CFt f v) (m5 : mch v ≤ 5) (h : tyF f v Γ [a0] = .inr R) : hd (expo Γ Γ.length R) ≠ 1 := by
  cases f with
  | zero => exact w.elim
  | succ f =>
    have up : UFx tR0 (expo Γ Γ.length R) := by
      rcases sh_ncf w tn nc (by omega) with ⟨k, x1, x2, em, nn⟩ | ⟨k, x1, xn, xc, -⟩
      · obtain ⟨S1, S2, h1, h2, e⟩ := ty_or k h
        have o1 := (tyF_ok _ _ _ _ _ x1.1 he h1).1
        have o2 := (tyF_ok _ _ _ _ _ x2.1 he h2).1
        have q := ju_ufx hv _ S1 S2 R ⟨he.1, o1, o2⟩ e
        have p1 := mch_pos' x1.1
        have p2 := mch_pos' x2.1
        by_cases m2 : mch (nX v) = 2
        · obtain ⟨a, b⟩ := two_nil x1.1 m2
          have e1 := ty_nil a b h1
          rw [e1, ex_r0] at q
          exact q.1
        · by_cases m2' : mch (nY v) = 2
          · obtain ⟨a, b⟩ := two_nil x2.1 m2'
            have e1 := ty_nil a b h2
            rw [e1, ex_r0] at q
            exact q.2
          · exact absurd ⟨one_nm x1.1 (by omega), one_nm x2.1 (by omega)⟩ nn
      · exfalso
        have q := ((chr_one _ _ _ _ x1 xn).1).resolve_left xc
        have em := mch_is w.1.2.1
        rcases k with k | k
        · rw [if_neg (by omega), if_neg (by omega), if_pos k] at em; omega
        · rw [if_neg (by omega), if_neg (by omega), if_neg (by omega), if_neg (by omega)] at em; omega
    exact fun h1 => absurd (up h1) (by decide)
end PmZza2
