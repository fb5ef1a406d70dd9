/-! WHAT IS ABOVE A SCHEME IS A SCHEME WITH THE SAME BOUND: joins that are instanced; a choice with the empty record. -/
def UPx (F G : Ty) : Prop := (∀ a q, G = tAll a q → ∃ b, F = tAll a b) ∧ (∀ m x y z, m < 8 → G = tRec m x y z → m ≠ 0 → hd F ≠ 8)
theorem UPx_refl (F : Ty) : UPx F F := ⟨fun a q e => ⟨q, e⟩, fun m x y z m8 e m0 => by rw [e, hd_rec]; omega⟩
theorem UPx_top (F : Ty) : UPx F tTop := ⟨fun a q e => by have := congrArg hd e; rw [hd_all] at this; exact absurd this (by decide), fun m x y z m8 e _ => by have := congrArg hd e; rw [hd_rec] at this; have h0 : hd tTop = 0 := rfl; omega⟩
theorem UPx_fun (F a b : Ty) : UPx F (tFun a b) := ⟨fun p q e => by have := congrArg hd e; rw [hd_all, hd_fun] at this; omega, fun m x y z m8 e _ => by have := congrArg hd e; rw [hd_rec, hd_fun] at this; omega⟩
section PmZc1
variable {Γ : List Ty}
theorem ex_v (hc : okc Γ) (hv : noac Γ) {j : Nat} (hj : j < Γ.length) : expo Γ Γ.length (tVar j) = lft j (Γ.length - j) (bnd Γ j) ∧ hd (lft j (Γ.length - j) (bnd Γ j)) < 16 := by
  have hb16 := (hv j hj).2
  have q := hd_lft_lo j (Γ.length - j) _ hb16
  refine ⟨?_, q⟩
  obtain ⟨n, hn⟩ : ∃ n, Γ.length = n + 1 := ⟨Γ.length - 1, by omega⟩
  rw [hn] at q ⊢
  show (if 16 ≤ hd (tVar j) then expo Γ n (exps Γ (tVar j)) else _) = _
  rw [if_pos (by rw [hd_var]; omega), exps_var, hn]
  exact expo_id q _
theorem ex_n {S : Ty} (h : ¬ 16 ≤ hd S) : expo Γ Γ.length S = S := expo_id (by omega) _
theorem bel_upx (hv : noac Γ) {S T : Ty} (tk : tok (Γ, S, T)) (h : bel Γ S T = true) : UPx (expo Γ Γ.length S) (expo Γ Γ.length T) := by
  have hc : okc Γ := tk.1
  have oS : ok Γ.length S = true := tk.2.1
  have oT : ok Γ.length T = true := tk.2.2
  -- below what is no variable
  have low : ∀ F, ok Γ.length F = true → ¬ 16 ≤ hd F → ¬ 16 ≤ hd T → bel Γ F T = true → UPx F T := by
    intro F oF hF hT hb
    have tk' : tok (Γ, F, T) := ⟨hc, oF, oT⟩
    refine ⟨fun a q e => ?_, fun m x y z m8 e m0 h8 => ?_⟩
    · subst e
      have h2 : hd F = 2 := Classical.byContradiction (fun c => by
        rw [bel_no tk' (by rw [hd_all]; omega) hF (fun q => by have := q.2.1; rw [hd_all] at this; omega) (by rw [hd_all]; exact c)] at hb
        cases hb)
      obtain ⟨a', b, rfl, oa, -⟩ := hd_is_all oF h2
      by_cases ef : flat a' = flat a
      · exact ⟨b, by rw [flat_eq oa (ok_all.mp oT).1 ef]⟩
      · rw [bel_alln tk' ef] at hb
        cases hb
    · subst e
      obtain ⟨m', x', y', z', hm', rfl⟩ := hd_is_rec oF (by omega) (by omega)
      rw [hd_rec] at h8
      have e0 : m' = 0 := by omega
      subst e0
      rw [bel_eq tk'] at hb
      have n3 : 8 ≤ hd (tRec 0 x' y' z') ∧ 8 ≤ hd (tRec m x y z) ∧ hd (tRec m x y z) < 16 := by rw [hd_rec, hd_rec]; omega
      have en : stp Γ (tRec 0 x' y' z') (tRec m x y z) = none := by
        unfold stp
        rw [if_neg (by rw [hd_rec, hd_rec]; omega), if_neg (by rw [hd_rec]; omega), if_pos n3, hd_rec, hd_rec, show 8 + 0 - 8 = 0 by omega, show 8 + m - 8 = m by omega, if_neg (by rw [Nat.zero_and]; exact fun q => m0 q.symm)]
      rw [en] at hb
      cases hb
  by_cases vT : 16 ≤ hd T
  · obtain ⟨j, hj, rfl⟩ := hd_is_var oT vT
    by_cases vS : 16 ≤ hd S
    · obtain ⟨k, hk, rfl⟩ := hd_is_var oS vS
      by_cases e : k = j
      · subst e; exact UPx_refl _
      · exfalso
        rw [bel_var tk (by rw [hd_var]; omega) (by rw [hd_var]; omega)] at h
        have q := (ex_v hc hv hk).2
        rw [bel_no (show tok (Γ, lft k (Γ.length - k) (bnd Γ k), tVar j) from ⟨hc, ok_expose hc hk, oT⟩) (by rw [hd_var]; omega) (by omega) (fun q => by have := q.2.2; rw [hd_var] at this; omega) (by rw [hd_var]; omega)] at h
        cases h
    · exfalso
      rw [bel_no tk (by rw [hd_var]; omega) vS (fun q => by have := q.2.2; rw [hd_var] at this; omega) (by rw [hd_var]; omega)] at h
      cases h
  · rw [ex_n vT]
    by_cases vS : 16 ≤ hd S
    · obtain ⟨k, hk, rfl⟩ := hd_is_var oS vS
      have q := ex_v hc hv hk
      rw [q.1]
      by_cases h0 : hd T = 0
      · have eT : T = tTop := by
          rcases ok_cases oT with e' | ⟨j, hj, e'⟩ | ⟨p, q, e', -, -⟩ | ⟨p, q, e', -, -⟩ | ⟨m, x, y, z, hm, e', -⟩
          · exact e'
          · rw [e', hd_var] at h0; omega
          · rw [e', hd_fun] at h0; omega
          · rw [e', hd_all] at h0; omega
          · rw [e', hd_rec] at h0; omega
        rw [eT]; exact UPx_top _
      rw [bel_var tk h0 (by omega)] at h
      exact low _ (ok_expose hc hk) (by omega) vT h
    · rw [ex_n vS]
      exact low S oS vS vT h
theorem lset0_l : ∀ m, m < 8 → lset 0 0 m = 0 ∧ lset 0 m 0 = 0 := by decide
theorem ju_upx (hv : noac Γ) : ∀ (f : Nat) (S T R : Ty), tok (Γ, S, T) → cu f 0 Γ S T = some R → UPx (expo Γ Γ.length S) (expo Γ Γ.length R) ∧ UPx (expo Γ Γ.length T) (expo Γ Γ.length R)
  | 0, _, _, _, _, e => by cases e
  | f + 1, S, T, R, tk, e0 => by
    have hc : okc Γ := tk.1
    have hs : ok Γ.length S = true := tk.2.1
    have hT : ok Γ.length T = true := tk.2.2
    have top : ∀ R, R = tTop → UPx (expo Γ Γ.length S) (expo Γ Γ.length R) ∧ UPx (expo Γ Γ.length T) (expo Γ Γ.length R) := fun R e => by
      subst e
      rw [ex_n (S := tTop) (by decide)]
      exact ⟨UPx_top _, UPx_top _⟩
    have e : cmsU (cu f) 0 Γ S T = some R := e0
    unfold cmsU at e
    rw [if_neg (by decide)] at e
    by_cases c2 : bel Γ S T = true
    · rw [if_pos c2, if_pos rfl] at e
      cases e
      exact ⟨bel_upx hv tk c2, UPx_refl _⟩
    rw [if_neg c2] at e
    by_cases c3 : bel Γ T S = true
    · rw [if_pos c3, if_pos rfl] at e
      cases e
      exact ⟨UPx_refl _, bel_upx hv ⟨hc, hT, hs⟩ c3⟩
    rw [if_neg c3] at e
    by_cases c4 : 16 ≤ hd S
    · rw [if_pos c4, if_neg (by decide)] at e
      obtain ⟨k, hk, rfl⟩ := hd_is_var hs c4
      rw [exps_var] at e
      have q := ju_upx hv f _ T R ⟨hc, ok_expose hc hk, hT⟩ e
      have v := ex_v hc hv hk
      rw [ex_n (by omega)] at q
      rw [v.1]
      exact q
    rw [if_neg c4] at e
    by_cases c6 : 16 ≤ hd T
    · rw [if_pos c6, if_neg (by decide)] at e
      obtain ⟨k, hk, rfl⟩ := hd_is_var hT c6
      rw [exps_var] at e
      have q := ju_upx hv f S _ R ⟨hc, hs, ok_expose hc hk⟩ e
      have v := ex_v hc hv hk
      rw [ex_n (S := lft k (Γ.length - k) (bnd Γ k)) (by omega)] at q
      rw [v.1]
      exact q
    rw [if_neg c6] at e
    rw [ex_n c4, ex_n c6]
    rw [ex_n c4, ex_n c6] at top
    by_cases c7 : 8 ≤ hd S ∧ 8 ≤ hd T
    · rw [if_pos c7] at e
      obtain ⟨m, x, y, z, hm, rfl⟩ := hd_is_rec hs c7.1 (by omega)
      obtain ⟨m', x', y', z', hm', rfl⟩ := hd_is_rec hT c7.2 (by omega)
      rw [hd_rec, hd_rec, show 8 + m - 8 = m by omega, show 8 + m' - 8 = m' by omega] at e
      rcases uRec_some e with e | ⟨a, b, c, ea, eb, ec, e⟩
      · exact top R e
      · have l8 : lset 0 m m' < 8 := (and8 m hm m' hm').2
        rw [e, ex_n (by rw [hd_rec]; omega)]
        refine ⟨⟨fun p q g => by have := congrArg hd g; rw [hd_rec, hd_all] at this; omega, fun k u v w k8 g k0 h8 => ?_⟩, ⟨fun p q g => by have := congrArg hd g; rw [hd_rec, hd_all] at this; omega, fun k u v w k8 g k0 h8 => ?_⟩⟩
        · have g := congrArg hd g
          rw [hd_rec, hd_rec] at g
          rw [hd_rec] at h8
          have m0 : m = 0 := by omega
          rw [m0, (lset0_l m' hm').1] at g
          omega
        · have g := congrArg hd g
          rw [hd_rec, hd_rec] at g
          rw [hd_rec] at h8
          have m0 : m' = 0 := by omega
          rw [m0, (lset0_l m hm).2] at g
          omega
    rw [if_neg c7] at e
    by_cases c8 : hd S = 1 ∧ hd T = 1
    · rw [if_pos c8] at e
      rcases uFun_some e with e | ⟨p', q, ep, eq, e⟩
      · exact top R e
      · rw [e, ex_n (by rw [hd_fun]; omega)]
        exact ⟨UPx_fun _ _ _, UPx_fun _ _ _⟩
    rw [if_neg c8] at e
    by_cases c9 : hd S = 2 ∧ hd T = 2 ∧ flat (k1 S) = flat (k1 T)
    · rw [if_pos c9] at e
      obtain ⟨a, b, rfl, ha, hb⟩ := hd_is_all hs c9.1
      obtain ⟨a', b', rfl, ha', hb'⟩ := hd_is_all hT c9.2.1
      have ea : a = a' := flat_eq ha ha' c9.2.2
      subst ea
      rcases uAll_some e with e | ⟨q, eq, e⟩
      · exact top R e
      · have e : R = tAll a q := e
        rw [e, ex_n (by rw [hd_all]; omega)]
        have key : ∀ w, UPx (tAll a w) (tAll a q) := fun w => ⟨fun p r g => by
          obtain ⟨g1, -⟩ := all_inj g
          exact ⟨w, by rw [g1]⟩, fun m x y z m8 g _ => by have := congrArg hd g; rw [hd_rec, hd_all] at this; omega⟩
        exact ⟨key _, key _⟩
    rw [if_neg c9] at e
    exact top R (tnu_some e)
end PmZc1
/-- no scheme with a bound of that head, from seven characters on -/
theorem noh8_seven : ∀ (f : Nat) (t : Ty) (d : Nat), (flat t).length ≤ f → ok d t = true → noh 8 t = false → 7 ≤ tch t
  | 0, t, d, hf, o, _ => by have := flat_pos o; omega
  | f + 1, t, d, hf, o, h => by
    rcases ok_cases o with rfl | ⟨j, hj, rfl⟩ | ⟨a, c, rfl, ha, hb⟩ | ⟨a, c, rfl, ha, hb⟩ | ⟨m, x, y, z, hm, rfl, h0, h1, h2⟩
    · cases h
    · cases h
    · rw [flat_fun, List.length_cons, List.length_append] at hf
      rw [tch_fun]
      by_cases na : noh 8 a = true
      · have nb : noh 8 c = false := Bool.eq_false_iff.mpr (fun nb => by rw [noh_fun.mpr ⟨na, nb⟩] at h; cases h)
        have := noh8_seven f c d (by omega) hb nb
        omega
      · have := noh8_seven f a d (by omega) ha (Bool.eq_false_iff.mpr na)
        omega
    · rw [flat_all, List.length_cons, List.length_append] at hf
      have pc := tch_pos hb
      rw [tch_all]
      by_cases na : noh 8 a = true
      · by_cases nb : noh 8 c = true
        · have h8 : hd a = 8 := Classical.byContradiction (fun c8 => by rw [noh_all.mpr ⟨c8, na, nb⟩] at h; cases h)
          have : 2 ≤ tch a := Classical.byContradiction (fun c1 => by
            rcases one_txt ha (by have := tch_pos ha; omega) with e | ⟨j, -, e⟩
            · rw [e] at h8; exact absurd h8 (by decide)
            · rw [e, hd_var] at h8; omega)
          omega
        · have := noh8_seven f c (d + 1) (by omega) hb (Bool.eq_false_iff.mpr nb)
          omega
      · have := noh8_seven f a d (by omega) ha (Bool.eq_false_iff.mpr na)
        omega
    · rw [flat_rec, List.length_cons, List.length_append, List.length_append] at hf
      rw [tch_rec]
      have key : ∀ (i : Nat) (p : Ty), (flat p).length ≤ f → okl d m i p → noh 8 p = false → 7 ≤ tch p := by
        intro i p hp ho hn
        unfold okl at ho
        by_cases hb : bit m i = true
        · rw [if_pos hb] at ho
          exact noh8_seven f p d hp ho hn
        · rw [if_neg hb] at ho
          rw [ho] at hn
          cases hn
      by_cases nx : noh 8 x = true
      · by_cases ny : noh 8 y = true
        · have nz : noh 8 z = false := Bool.eq_false_iff.mpr (fun nz => by rw [noh_rec.mpr ⟨nx, ny, nz⟩] at h; cases h)
          have := key 2 z (by omega) h2 nz
          omega
        · have := key 1 y (by omega) h1 (Bool.eq_false_iff.mpr ny)
          omega
      · have := key 0 x (by omega) h0 (Bool.eq_false_iff.mpr nx)
        omega
theorem noh8_small {d : Nat} {t : Ty} (o : ok d t = true) (h : tch t ≤ 6) : noh 8 t = true := Classical.byContradiction (fun c => by
  have := noh8_seven _ t d (Nat.le_refl _) o (Bool.eq_false_iff.mpr c)
  omega)
theorem hd8_r0 {d : Nat} {a : Ty} (o : ok d a = true) (h : hd a = 8) : a = tR0 := by
  obtain ⟨m, x, y, z, hm, rfl⟩ := hd_is_rec o (by omega) (by omega)
  rw [hd_rec] at h
  have em : m = 0 := by omega
  subst em
  obtain ⟨o0, o1, o2⟩ := (ok_rec (by decide)).mp o
  unfold okl at o0 o1 o2
  rw [if_neg (by decide)] at o0 o1 o2
  rw [o0, o1, o2]
  rfl
/-- what does not hold the bound [] has no scheme with that head -/
theorem noh8_sN : ∀ (f : Nat) (t : Ty) (d : Nat), (flat t).length ≤ f → ok d t = true → sN tR0 0 d t = false → noh 8 t = true
  | 0, t, d, hf, o, _ => by have := flat_pos o; omega
  | f + 1, t, d, hf, o, h => by
    rcases ok_cases o with rfl | ⟨j, hj, rfl⟩ | ⟨a, c, rfl, ha, hb⟩ | ⟨a, c, rfl, ha, hb⟩ | ⟨m, x, y, z, hm, rfl, h0, h1, h2⟩
    · rfl
    · rfl
    · rw [flat_fun, List.length_cons, List.length_append] at hf
      rw [sN_fun, Bool.or_eq_false_iff] at h
      exact noh_fun.mpr ⟨noh8_sN f a d (by omega) ha h.1, noh8_sN f c d (by omega) hb h.2⟩
    · rw [flat_all, List.length_cons, List.length_append] at hf
      rw [sN_all, Bool.or_eq_false_iff, Bool.or_eq_false_iff] at h
      refine noh_all.mpr ⟨fun h8 => ?_, noh8_sN f a d (by omega) ha h.2.1, noh8_sN f c (d + 1) (by omega) hb h.2.2⟩
      rw [hd8_r0 ha h8] at h
      have q : tqN tR0 0 d tR0 = true := by
        unfold tqN
        rw [decide_eq_true_iff]
        show [nfx d 8] = [nfx 0 8]
        rw [nfx_lo (by omega), nfx_lo (by omega)]
      rw [q] at h
      cases h.1
    · rw [flat_rec, List.length_cons, List.length_append, List.length_append] at hf
      rw [sN_rec, Bool.or_eq_false_iff, Bool.or_eq_false_iff] at h
      have key : ∀ (i : Nat) (p : Ty), (flat p).length ≤ f → okl d m i p → sN tR0 0 d p = false → noh 8 p = true := by
        intro i p hp ho hn
        unfold okl at ho
        by_cases hb : bit m i = true
        · rw [if_pos hb] at ho
          exact noh8_sN f p d hp ho hn
        · rw [if_neg hb] at ho
          rw [ho]; rfl
      exact noh_rec.mpr ⟨key 0 x (by omega) h0 h.1, key 1 y (by omega) h1 h.2.1, key 2 z (by omega) h2 h.2.2⟩
