/-! ANY CONTEXT WITH A BOUND THAT HOLDS SCHEMES: all leaves of that bound counted alike, its form by characters, the others by leaves. -/
section PmHe
variable {t0 fn s2 hv r0 r1 r2 r3 x0 : Nat} {n1 h : Nat → Nat} {P Q : List (List Nat)} {F G W : FrT} {X : List Nat}
theorem FM_fa (H : ∀ y x, x0 ≤ x → h y ≤ hv + max y x) : ∀ (f : Nat) (t : Ty) (d : Nat), (flat t).length ≤ f → ok d t = true → FM t0 n1 s2 h x0 t (flv t) (fav t0 n1 s2 hv t)
  | 0, t, d, hf, o => by have := flat_pos o; omega
  | f + 1, t, d, hf, o => by
    rcases ok_cases o with rfl | ⟨j, hj, rfl⟩ | ⟨a, c, rfl, ha, hb⟩ | ⟨a, c, rfl, ha, hb⟩ | ⟨m, x, y, z, hm, rfl, h0, h1, h2⟩
    · rw [flv_top, fav_top]
      exact FM_top
    · rw [flv_var, fav_var]
      exact FM_var j
    · rw [flat_fun, List.length_cons, List.length_append] at hf
      rw [flv_fun, fav_fun]
      exact (FM_fun (FM_fa H f a d (by omega) ha) (FM_fa H f c d (by omega) hb)).mono (Nat.le_refl _) (by omega)
    · rw [flat_all, List.length_cons, List.length_append] at hf
      rw [flv_all, fav_all]
      exact FM_all H (FM_fa H f a d (by omega) ha) (FM_fa H f c (d + 1) (by omega) hb)
    · rw [flat_rec, List.length_cons, List.length_append, List.length_append] at hf
      rw [flv_rec, fav_rec]
      exact FM_rec hm (fun q => FM_fa H f x d (by omega) (okl_on h0 (bit_iff.mp q))) (fun q => FM_fa H f y d (by omega) (okl_on h1 (bit_iff.mp q))) (fun q => FM_fa H f z d (by omega) (okl_on h2 (bit_iff.mp q)))
theorem app_cut {α : Type} : ∀ (Δ1 Δ' : List α) {b b' : α} {Γ0 Γ' : List α}, Δ1 ++ b :: Γ0 = Δ' ++ b' :: Γ' → b' ∈ Δ1 ∨ (b' = b ∧ Γ' = Γ0) ∨ b' ∈ Γ0
  | [], [], b, b', Γ0, Γ', e => by
    injection e with e1 e2
    exact Or.inr (Or.inl ⟨e1.symm, e2.symm⟩)
  | [], c :: Δ', b, b', Γ0, Γ', e => by
    injection e with e1 e2
    rw [e2]
    exact Or.inr (Or.inr (List.mem_append_right _ List.mem_cons_self))
  | a :: Δ1, [], b, b', Γ0, Γ', e => by
    injection e with e1 e2
    rw [e1]
    exact Or.inl List.mem_cons_self
  | a :: Δ1, c :: Δ', b, b', Γ0, Γ', e => by
    injection e with e1 e2
    rcases app_cut Δ1 Δ' e2 with q | q
    · exact Or.inl (List.mem_cons_of_mem _ q)
    · exact Or.inr q
theorem BE2_sfx {X7 y : Nat} {eb e2 : Nat → Nat} (hn : NC t0 n1 s2 h) (h7 : y ≤ X7) : ∀ {Γ : List Ty}, (∀ j, j < Γ.length → vw (onz t0 n1 s2 h Γ) j ≤ y) → (∀ (Δ' : List Ty) (b' : Ty) (Γ' : List Ty), Γ = Δ' ++ b' :: Γ' → nz t0 n1 s2 h (onz t0 n1 s2 h Γ') b' ≤ y → nsch b' = true ∨ ∀ z, nz t0 n1 s2 h (onz t0 n1 s2 h Γ') b' + flv b' * z ≤ eb z) → BE2 t0 n1 s2 h X7 eb e2 Γ (onz t0 n1 s2 h Γ)
  | [], _, _ => trivial
  | b :: Γ, hv, hp => by
    have l1 := onz_len t0 n1 s2 h Γ
    have q := hv Γ.length (by rw [List.length_cons]; omega)
    have e : vw (onz t0 n1 s2 h (b :: Γ)) Γ.length = h (nz t0 n1 s2 h (onz t0 n1 s2 h Γ) b) := by
      show vw (h (nz t0 n1 s2 h (onz t0 n1 s2 h Γ) b) :: onz t0 n1 s2 h Γ) Γ.length = _
      rw [vw_cons, l1, if_pos rfl]
    rw [e] at q
    have q := Nat.le_trans (hn.2.2.1 _) q
    refine ⟨Or.inl ⟨Nat.le_trans q h7, hp [] b Γ rfl q⟩, BE2_sfx hn h7 (fun j hj => ?_) (fun Δ' b' Γ' e' => hp (b :: Δ') b' Γ' (by rw [e']; rfl))⟩
    have q2 := hv j (by rw [List.length_cons]; omega)
    have e2' : vw (onz t0 n1 s2 h (b :: Γ)) j = vw (onz t0 n1 s2 h Γ) j := by
      show vw (h (nz t0 n1 s2 h (onz t0 n1 s2 h Γ) b) :: onz t0 n1 s2 h Γ) j = _
      rw [vw_cons, l1, if_neg (by omega)]
    rw [← e2']
    exact q2
/-- what such a context needs is below an entry -/
def T1D (hv y1 ob : Nat) (v u : Nat × Nat) (s : T6) : Prop := u.2 + u.1 * max y1 (hv + max 1 (v.2 + v.1 * y1)) ≤ s.1 ∧ v.2 + v.1 * y1 ≤ s.2.2.1 ∧ v.1 ≤ s.2.2.2.1 ∧ ob ≤ s.2.2.2.2.1
theorem gen_z1 (hn : NC t0 n1 s2 h) (hm : ∀ y y', y ≤ y' → h y ≤ h y') (hh : ∀ y δ, h (y + δ) ≤ h y + δ) (T : TBs 58 t0 fn s2 hv r0 r1 r2 r3 x0 n1 h P Q F G X) (hFm : frm F = true) (hgr : fgc F W hv = true) (hWm : fgm W = true) (hW1 : fg1s W = true) (hW : (1, 0) ∈ frg W 0) (H1 : ∀ y, h y ≤ hv + max 1 y) {f : Nat} {t S b : Ty} {Γ0 Δ1 : List Ty} {Δ : List (Nat × Ty × Nat)} {un : Bool} {a5 ob cd Bd y1 : Nat} (w : TWf f (cxs Δ1 Γ0 b).length (Δ.map (fun a => a.1)) t) (he : TE (cxs Δ1 Γ0 b) Δ) (cu : un = true ∨ COk f t 0) (hm30 : mch t ≤ 30) (hdc : dch Δ ≤ cd) (hcd : cd ≤ 56) (a55 : a5 ≤ 5) (ha5 : Δ ≠ [] → a5 = 0) (hb0 : ∀ a ∈ Γ0, nsch a = true ∨ flv a ≤ ob) (hb1 : ∀ a ∈ Δ1, nsch a = true ∨ flv a ≤ ob) (q38 : cch Δ1 ≤ 38) (k56 : tch b ≤ 56) (q56 : cch Γ0 ≤ 56) (e1 : max x0 (X.getD (cch Γ0) 0) ≤ y1) (go : ∀ E Z, AQh t0 n1 s2 h E Z f t [] (onz t0 n1 s2 h (cxs Δ1 Γ0 b)) → HEk t0 n1 s2 h E (cxs Δ1 Γ0 b) (onz t0 n1 s2 h (cxs Δ1 Γ0 b)) → GOk t0 n1 s2 h E f t [] (onz t0 n1 s2 h (cxs Δ1 Γ0 b)) (cxs Δ1 Γ0 b) Δ) (hT : ∀ v ∈ frg F (tch b), ∀ u ∈ frg W (cch Δ1), ∃ s : T6, T1D hv y1 ob v u s ∧ dpD un F W a5 hv fn s2 r0 r1 r2 r3 s.2.2.1 s.2.2.2.1 0 s.2.2.2.2.1 0 s.1 cd (mch t) ≤ Bd) (hS : tyF f t (cxs Δ1 Γ0 b) Δ = .inr S) : nz t0 n1 s2 h (onz t0 n1 s2 h (cxs Δ1 Γ0 b)) S ≤ Bd := by
  obtain ⟨oc0, oB⟩ := okc_low Δ1 he.1
  have l0 := onz_len t0 n1 s2 h Γ0
  have l1 := onz_len t0 n1 s2 h (cxs Δ1 Γ0 b)
  have x01 : x0 ≤ y1 := Nat.le_trans (Nat.le_max_left _ _) e1
  have hω : ∀ j, j < (onz t0 n1 s2 h Γ0).length → vw (onz t0 n1 s2 h Γ0) j ≤ y1 := fun j hj => Nat.le_trans (onz_chars T.1 T.2.1 T.2.2.1 T.2.2.2.1 T.2.2.2.2.1 Γ0 oc0 q56 j (by rw [l0] at hj; exact hj)) (Nat.le_trans (Nat.le_max_right _ _) e1)
  obtain ⟨v, hv', lf⟩ := fr_lfa (n1 := n1) T.1 T.2.2.2.1 T.2.2.2.2.1 _ b Γ0.length (Nat.le_refl _) oB k56
  have vb : nz t0 n1 s2 h (onz t0 n1 s2 h Γ0) b ≤ v.2 + v.1 * y1 := ((FM_fa T.2.2.1 _ b Γ0.length (Nat.le_refl _) oB).mono lf.1 lf.2) y1 (onz t0 n1 s2 h Γ0) x01 hω (by rw [l0]; exact oB)
  have h0' : ∀ j, j < (b :: Γ0).length → vw (onz t0 n1 s2 h (b :: Γ0)) j ≤ max y1 (hv + max 1 (v.2 + v.1 * y1)) := by
    intro j hj
    show vw (h (nz t0 n1 s2 h (onz t0 n1 s2 h Γ0) b) :: onz t0 n1 s2 h Γ0) j ≤ _
    rw [vw_cons, l0]
    by_cases e : j = Γ0.length
    · rw [if_pos e]
      have := H1 (nz t0 n1 s2 h (onz t0 n1 s2 h Γ0) b)
      omega
    · rw [if_neg e]
      rw [List.length_cons] at hj
      exact Nat.le_trans (hω j (by rw [l0]; omega)) (Nat.le_max_left _ _)
  obtain ⟨u, hu, u1, hw⟩ := onz_gr T hgr hW (Nat.le_trans x01 (Nat.le_max_left _ _)) h0' Δ1 he.1 q38
  obtain ⟨s, ⟨k1, k2, k3, k4⟩, R⟩ := hT v hv' u hu
  have hw' : ∀ j, j < (cxs Δ1 Γ0 b).length → vw (onz t0 n1 s2 h (cxs Δ1 Γ0 b)) j ≤ s.1 := fun j hj => Nat.le_trans (hw j hj) k1
  have y01 : x0 ≤ s.1 := by
    have a1 := Nat.mul_le_mul_right (max y1 (hv + max 1 (v.2 + v.1 * y1))) u1
    have a2 := Nat.le_max_left y1 (hv + max 1 (v.2 + v.1 * y1))
    omega
  refine gen_fin6 (un := un) (a5 := a5) (cd := cd) (wB := 0) (E0 := s.2.2.1) (p := s.2.2.2.1) (ob := s.2.2.2.2.1) (k := 0) (y := s.1) hn hm T hFm hgr hWm hW1 hW H1 w he l1 cu hm30 hdc hcd a55 ha5 y01 (fun j hj => hw' j (by rw [l1] at hj; exact hj)) (BE2.he ebw_mono e2w_mono hm hh he.1 l1 (BE2_sfx (y := s.1) hn (Nat.le_max_left _ _) hw' (fun Δ' b' Γ' e' q => ?_))) go R hS
  have oth : (nsch b' = true ∨ flv b' ≤ ob) → nsch b' = true ∨ ∀ z, nz t0 n1 s2 h (onz t0 n1 s2 h Γ') b' + flv b' * z ≤ ebw F W hv s.1 cd (mch t) s.2.2.1 s.2.2.2.1 0 s.2.2.2.2.1 z := fun c => c.imp id (fun c z => by
    have := Nat.mul_le_mul_right z (Nat.le_trans c k4)
    unfold ebw
    omega)
  rcases app_cut Δ1 Δ' e' with m | ⟨m1, m2⟩ | m
  · exact oth (hb1 b' m)
  · subst m1
    subst m2
    refine Or.inr (fun z => ?_)
    have a1 := Nat.mul_le_mul_right z (Nat.le_trans lf.1 k3)
    have a2 := Nat.mul_le_mul_left s.2.2.2.1 (Nat.le_max_left z 0)
    unfold ebw
    omega
  · exact oth (hb0 b' m)
end PmHe
section PmHf
variable {f : Nat} {t b : Ty} {Γ0 Δ1 : List Ty} {Δ : List (Nat × Ty × Nat)} {un e : Bool} {cd ob yR yG : Nat}
theorem zone_1 (w : TWf f (cxs Δ1 Γ0 b).length (Δ.map (fun a => a.1)) t) (he : TE (cxs Δ1 Γ0 b) Δ) (hΔ : (e = true ∧ Δ = []) ∨ (e = false ∧ Δ ≠ [])) (cu : un = true ∨ COk f t 0) (ch : CHo f t []) (m30 : mch t ≤ 30) (hdd : dch Δ ≤ cd) (hcd : cd ≤ 56) (hb0 : ∀ a ∈ Γ0, nsch a = true ∨ flv a ≤ ob) (hb1 : ∀ a ∈ Δ1, nsch a = true ∨ flv a ≤ ob) (q38 : cch Δ1 ≤ 38) (k56 : tch b ≤ 56) (q56 : cch Γ0 ≤ 56) (eR : max 1 (fx1.getD (cch Γ0) 0) ≤ yR) (eG : max 1 (fxq.getD (cch Γ0) 0) ≤ yG) (hTR : ∀ v ∈ frg fr1 (tch b), ∀ u ∈ frg fg1 (cch Δ1), ∃ s : T6, T1D 1 yR ob v u s ∧ TpR un e 0 cd (mch t) (s.1, s.2.1, s.2.2.1, s.2.2.2.1, s.2.2.2.2.1, 0)) (hTG : ∀ v ∈ frg frq (tch b), ∀ u ∈ frg fgq (cch Δ1), ∃ s : T6, T1D 0 yG ob v u s ∧ TpG un e 0 cd (mch t) (s.1, s.2.1, s.2.2.1, s.2.2.2.1, s.2.2.2.2.1, 0)) : NtV (cxs Δ1 Γ0 b) Δ f t 887 597 := by
  have d5 : Δ ≠ [] → 5 ≤ cd := fun e => Nat.le_trans (dch_five he e) hdd
  have hch : CHo f t (([] : Stk).map Option.isSome) := ch
  refine fun S hS => ⟨fun d => ?_, ?_⟩
  · rcases hΔ with ⟨ee, cΔ⟩ | ⟨ee, cΔ⟩
    · exact gen_z1 (un := un) (a5 := 5) (cd := 0) (NC_rows d 1) (vlr_mono d 1) (vlr_lip d 1) (tbs1 d) fr1_m fg1_ok fg1_m fg1s_1 (by decide) (vlr_one d) w he cu m30 (by rw [cΔ]; exact Nat.le_refl _) (Nat.zero_le _) (Nat.le_refl _) (fun e => absurd cΔ e) hb0 hb1 q38 k56 q56 eR (fun E Z aq hE => GH_natc (E := E) (Z := Z) (NC_rows d 1) (vlr_mono d 1) f t [] _ _ Δ w he hch aq (onz_cv (NC_rows d 1) he.1) hE) (fun v hv u hu => (hTR v hv u hu).imp (fun s q => ⟨q.1, q.2.2.2 ee⟩)) hS
    · exact gen_z1 (un := un) (a5 := 0) (cd := cd) (NC_rows d 1) (vlr_mono d 1) (vlr_lip d 1) (tbs1 d) fr1_m fg1_ok fg1_m fg1s_1 (by decide) (vlr_one d) w he cu m30 hdd hcd (Nat.zero_le _) (fun _ => rfl) hb0 hb1 q38 k56 q56 eR (fun E Z aq hE => GH_natc (E := E) (Z := Z) (NC_rows d 1) (vlr_mono d 1) f t [] _ _ Δ w he hch aq (onz_cv (NC_rows d 1) he.1) hE) (fun v hv u hu => (hTR v hv u hu).imp (fun s q => ⟨q.1, q.2.2.1 ee (d5 cΔ)⟩)) hS
  · rcases hΔ with ⟨ee, cΔ⟩ | ⟨ee, cΔ⟩
    · exact gen_z1 (un := un) (a5 := 5) (cd := 0) NC_goals (fun y y' hy => hy) (fun y δ => Nat.le_refl _) tbsq frq_m fgq_ok fgq_m fg1s_q (by decide) (fun y => by show y ≤ 0 + max 1 y; omega) w he cu m30 (by rw [cΔ]; exact Nat.le_refl _) (Nat.zero_le _) (Nat.le_refl _) (fun e => absurd cΔ e) hb0 hb1 q38 k56 q56 eG (fun E Z aq hE => GH_natc (E := E) (Z := Z) NC_goals (fun y y' hy => hy) f t [] _ _ Δ w he hch aq (onz_cv NC_goals he.1) hE) (fun v hv u hu => (hTG v hv u hu).imp (fun s q => ⟨q.1, q.2.2.2 ee⟩)) hS
    · exact gen_z1 (un := un) (a5 := 0) (cd := cd) NC_goals (fun y y' hy => hy) (fun y δ => Nat.le_refl _) tbsq frq_m fgq_ok fgq_m fg1s_q (by decide) (fun y => by show y ≤ 0 + max 1 y; omega) w he cu m30 hdd hcd (Nat.zero_le _) (fun _ => rfl) hb0 hb1 q38 k56 q56 eG (fun E Z aq hE => GH_natc (E := E) (Z := Z) NC_goals (fun y y' hy => hy) f t [] _ _ Δ w he hch aq (onz_cv NC_goals he.1) hE) (fun v hv u hu => (hTG v hv u hu).imp (fun s q => ⟨q.1, q.2.2.1 ee (d5 cΔ)⟩)) hS
end PmHf
