/-! RECORDS OF 30 CHARACTERS: two arguments counted by the parts of the body. -/
section PmZj2
variable {t0 s2 : Nat} {n1 h : Nat → Nat}
variable {X7 : Nat} {eb es e2 : Nat → Nat}
theorem vz_r5 (he : ∀ z z', z ≤ z' → eb z ≤ eb z') (he2 : ∀ z z', z ≤ z' → es z ≤ es z') (hm : ∀ y y', y ≤ y' → h y ≤ h y') {B C : Ty} {ω : List Nat} (o : ok ω.length (tAll B C) = true) (hC : hd C ≠ 2 ∧ hd C < 16) (hz : ∀ z, nz t0 n1 s2 h (hzx h z (nz t0 n1 s2 h ω B) :: ω) C ≤ eb z) (hf : ∀ (v : Nat) (p : Ty), ok (ω.length + 1) p = true → tch p + 3 ≤ tch C → nz t0 n1 s2 (hzx h v) (hzx h v (nz t0 n1 s2 h ω B) :: ω) p ≤ es v) : ∀ ρ : Stk, ρ ≠ [] → vz t0 n1 s2 h (E2 X7 eb es) (tAll B C) ρ ω ≤ E2 X7 eb es ρ := by
  intro ρ hρ
  by_cases c2 : ρ.length ≤ 2
  · exact vz_s5 he he2 hm o hC hz ρ hρ c2
  match ρ, hρ, c2 with
  | none :: ρ, _, _ => rw [vz_allN]; exact Nat.zero_le _
  | [some z], _, c2 => exact absurd (by rw [List.length_cons]; exact Nat.le_succ _) c2
  | some z :: some w :: σ, _, _ =>
    rw [vz_allS]
    rcases ok_cases (ok_all.mp o).2 with rfl | ⟨j, hj, rfl⟩ | ⟨a, c, rfl, ha, hb⟩ | ⟨a, c, rfl, ha, hb⟩ | ⟨m, x, y, v, hm', rfl, h0, h1, h2⟩
    · rw [vz_top]; exact Nat.zero_le _
    · have := hC.2
      rw [hd_var] at this
      omega
    · rw [vz_funS]; exact Nat.zero_le _
    · exact absurd (hd_all _ _) hC.1
    · rw [vz_recS]; exact Nat.zero_le _
  | some z :: none :: σ, _, c2 =>
    rw [vz_allS]
    have oC : ok (ω.length + 1) C = true := (ok_all.mp o).2
    have key : ∀ (p : Ty), ok (ω.length + 1) p = true → tch p + 3 ≤ tch C → nz t0 n1 s2 h (hzx h z (nz t0 n1 s2 h ω B) :: ω) p ≤ nz t0 n1 s2 h (hzx h z (nz t0 n1 s2 h ω B) :: ω) C → vz t0 n1 s2 h (E2 X7 eb es) p σ (hzx h z (nz t0 n1 s2 h ω B) :: ω) ≤ E2 X7 eb es (some z :: none :: σ) := by
      intro p op hp hle
      have q1 := vz_upE (t0 := t0) (n1 := n1) (s2 := s2) (h := h) (E := E2 X7 eb es) (E2_m he he2) hm _ p σ (hzx h z (nz t0 n1 s2 h ω B) :: ω) (Nat.le_refl _) (by rw [List.length_cons]; exact op)
      have q2 := E2_m (X7 := X7) he he2 none σ
      have q3 := E2_m (X7 := X7) he he2 (some z) (none :: σ)
      have e1 : zm (some z :: none :: σ) = max z (zm σ) := rfl
      by_cases c : cnS σ = 0
      · have e0 := cnS_zm σ c
        rw [e0, show hzx h 0 = h from hzx_0] at q1
        have q4 := E2_e (X7 := X7) (eb := eb) (e2 := es) (some z :: none :: σ) rfl
        rw [e1, e0, show max z 0 = z by omega] at q4
        have q5 := hz z
        omega
      · have q4 := E2_p (X7 := X7) (eb := eb) (e2 := es) (some z :: none :: σ) rfl (by show ¬ cnS σ + 1 ≤ 1; omega)
        rw [e1] at q4
        have q5 := hf (max z (zm σ)) p op hp
        have q6 := nz_mono (t0 := t0) (n1 := n1) (s2 := s2) (hzx_le hm (show zm σ ≤ max z (zm σ) from Nat.le_max_right _ _)) _ p (hzx h z (nz t0 n1 s2 h ω B) :: ω) (hzx h (max z (zm σ)) (nz t0 n1 s2 h ω B) :: ω) (Nat.le_refl _) rfl (by rw [List.length_cons]; exact op) (fun j hj => by
          rw [vw_cons, vw_cons]
          by_cases e : j = ω.length
          · rw [if_pos e, if_pos e]
            exact hzx_le hm (Nat.le_max_left _ _) _ _ (Nat.le_refl _)
          · rw [if_neg e, if_neg e]; exact Nat.le_refl _)
        omega
    rcases ok_cases oC with rfl | ⟨j, hj, rfl⟩ | ⟨a, c, rfl, ha, hb⟩ | ⟨a, c, rfl, ha, hb⟩ | ⟨m, x, y, v, hm', rfl, h0, h1, h2⟩
    · rw [vz_top]; exact Nat.zero_le _
    · have := hC.2
      rw [hd_var] at this
      omega
    · rw [vz_funN]
      have := tch_pos ha
      exact key c hb (by rw [tch_fun]; omega) (by rw [nz_fun]; omega)
    · exact absurd (hd_all _ _) hC.1
    · rw [vz_recN]
      have part : ∀ (i : Nat) (p : Ty), i < 3 → okl (ω.length + 1) m i p → tch p + rch m ≤ tch (tRec m x y v) → nz t0 n1 s2 h (hzx h z (nz t0 n1 s2 h ω B) :: ω) p ≤ nz t0 n1 s2 h (hzx h z (nz t0 n1 s2 h ω B) :: ω) (tRec m x y v) → vz t0 n1 s2 h (E2 X7 eb es) p σ (hzx h z (nz t0 n1 s2 h ω B) :: ω) ≤ E2 X7 eb es (some z :: none :: σ) := by
        intro i p hi op hp hle
        unfold okl at op
        by_cases b0 : bit m i = true
        · rw [if_pos b0] at op
          have := rch_three m hm' i hi b0
          exact key p op (by omega) hle
        · rw [if_neg b0] at op
          rw [op, vz_nil]
          exact Nat.zero_le _
      have et := tch_rec m x y v
      have en := nz_rec (t0 := t0) (n1 := n1) (s2 := s2) (h := h) (hzx h z (nz t0 n1 s2 h ω B) :: ω) (m := m) x y v
      exact Nat.max_le.mpr ⟨part 0 x (by decide) h0 (by omega) (by omega), Nat.max_le.mpr ⟨part 1 y (by decide) h1 (by omega) (by omega), part 2 v (by decide) h2 (by omega) (by omega)⟩⟩
theorem HEr_cx {y : Nat} {B C β' : Ty} {Γ0 : List Ty} (hn : NC t0 n1 s2 h) (hm : ∀ y y', y ≤ y' → h y ≤ h y') (hh : ∀ y δ, h (y + δ) ≤ h y + δ) (he : ∀ z z', z ≤ z' → eb z ≤ eb z') (he2 : ∀ z z', z ≤ z' → es z ≤ es z') (h7 : y ≤ X7) (hC : hd C ≠ 2 ∧ hd C < 16) (hz : ∀ z, nz t0 n1 s2 h (hzx h z (nz t0 n1 s2 h (onz t0 n1 s2 h Γ0) B) :: onz t0 n1 s2 h Γ0) C ≤ eb z) (hf : ∀ (v : Nat) (p : Ty), ok ((onz t0 n1 s2 h Γ0).length + 1) p = true → tch p + 3 ≤ tch C → nz t0 n1 s2 (hzx h v) (hzx h v (nz t0 n1 s2 h (onz t0 n1 s2 h Γ0) B) :: onz t0 n1 s2 h Γ0) p ≤ es v) (hp0 : ∀ b ∈ Γ0, nsch b = true ∨ ∀ z, y + flv b * z ≤ eb z) : ∀ (Δ1 : List Ty), okc (cxs Δ1 Γ0 (tAll B C)) → (∀ j, j < (cxs Δ1 Γ0 β').length → vw (onz t0 n1 s2 h (cxs Δ1 Γ0 β')) j ≤ y) → (∀ b ∈ Δ1, nsch b = true ∨ ∀ z, y + flv b * z ≤ eb z) → HEk t0 n1 s2 h (E2 X7 eb es) (cxs Δ1 Γ0 (tAll B C)) (onz t0 n1 s2 h (cxs Δ1 Γ0 β'))
  | [], oc, hv, _ => by
    have l1 := onz_len t0 n1 s2 h Γ0
    refine ⟨vz_r5 he he2 hm (by rw [l1]; exact oc.1) hC hz hf, (BE2.he he he2 hm hh oc.2 l1 (BE2_onz hn h7 (fun j hj => ?_) hp0))⟩
    have q2 := hv j (by rw [cxs_len]; omega)
    have e2' : vw (onz t0 n1 s2 h (cxs [] Γ0 β')) j = vw (onz t0 n1 s2 h Γ0) j := by
      show vw (h (nz t0 n1 s2 h (onz t0 n1 s2 h Γ0) β') :: onz t0 n1 s2 h Γ0) j = _
      rw [vw_cons, l1, if_neg (by omega)]
    rw [e2'] at q2
    exact q2
  | a :: Δ1, oc, hv, hp => by
    have l1 := onz_len t0 n1 s2 h (cxs Δ1 Γ0 β')
    have l2 := cxs_ll (Δ := Δ1) (Γ0 := Γ0) β' (tAll B C)
    have q := hv (cxs Δ1 Γ0 β').length (by show _ < (a :: cxs Δ1 Γ0 β').length; rw [List.length_cons]; omega)
    have e : vw (onz t0 n1 s2 h (cxs (a :: Δ1) Γ0 β')) (cxs Δ1 Γ0 β').length = h (nz t0 n1 s2 h (onz t0 n1 s2 h (cxs Δ1 Γ0 β')) a) := by
      show vw (h (nz t0 n1 s2 h (onz t0 n1 s2 h (cxs Δ1 Γ0 β')) a) :: onz t0 n1 s2 h (cxs Δ1 Γ0 β')) (cxs Δ1 Γ0 β').length = _
      rw [vw_cons, l1, if_pos rfl]
    rw [e] at q
    have q := Nat.le_trans (hn.2.2.1 _) q
    have oa : ok (onz t0 n1 s2 h (cxs Δ1 Γ0 β')).length a = true := by rw [l1, l2]; exact oc.1
    refine ⟨fun ρ _ => vz_l2 he he2 hm hh oa (Nat.le_trans q h7) ((hp a (List.mem_cons_self ..)).imp id (fun c z => Nat.le_trans (Nat.add_le_add_right q _) (c z))) ρ, HEr_cx hn hm hh he he2 h7 hC hz hf hp0 Δ1 oc.2 (fun j hj => ?_) (fun c hc => hp c (List.mem_cons_of_mem _ hc))⟩
    have q2 := hv j (by show j < (a :: cxs Δ1 Γ0 β').length; rw [List.length_cons]; omega)
    have e2' : vw (onz t0 n1 s2 h (cxs (a :: Δ1) Γ0 β')) j = vw (onz t0 n1 s2 h (cxs Δ1 Γ0 β')) j := by
      show vw (h (nz t0 n1 s2 h (onz t0 n1 s2 h (cxs Δ1 Γ0 β')) a) :: onz t0 n1 s2 h (cxs Δ1 Γ0 β')) j = _
      rw [vw_cons, l1, if_neg (by omega)]
    rw [e2'] at q2
    exact q2
end PmZj2
section PmZk2
variable {t0 fn s2 hv r0 r1 r2 r3 x0 : Nat} {n1 h : Nat → Nat} {P Q : List (List Nat)} {F G W : FrT} {X : List Nat} {B C β' : Ty} {Γ0 : List Ty}
theorem gen_fin7x (hn : NC t0 n1 s2 h) (hm : ∀ y y', y ≤ y' → h y ≤ h y') (hh : ∀ y δ, h (y + δ) ≤ h y + δ) (T : TBs 58 t0 fn s2 hv r0 r1 r2 r3 x0 n1 h P Q F G X) (hFm : frm F = true) (hgr : fgc F W hv = true) (hWm : fgm W = true) (hW1 : fg1s W = true) (hW : (1, 0) ∈ frg W 0) (H1 : ∀ y, h y ≤ hv + max 1 y) {f : Nat} {t S : Ty} {Δ1 : List Ty} {Δ : List (Nat × Ty × Nat)} {un : Bool} {a5 ob cd wB Bd y E0 p k : Nat} (w : TWf f (cxs Δ1 Γ0 (tAll B C)).length (Δ.map (fun a => a.1)) t) (he : TE (cxs Δ1 Γ0 (tAll B C)) Δ) (cu : un = true ∨ COk f t 0) (hm30 : mch t ≤ 30) (hb0 : ∀ b ∈ Γ0, nsch b = true ∨ flv b ≤ ob) (hb1 : ∀ b ∈ Δ1, nsch b = true ∨ flv b ≤ ob) (hdc : dch Δ ≤ cd) (hcd : cd ≤ 56) (a55 : a5 ≤ 5) (ha5 : Δ ≠ [] → a5 = 0) (y01 : x0 ≤ y) (hw : ∀ j, j < (cxs Δ1 Γ0 β').length → vw (onz t0 n1 s2 h (cxs Δ1 Γ0 β')) j ≤ y) (go : ∀ E Z, AQh t0 n1 s2 h E Z f t [] (onz t0 n1 s2 h (cxs Δ1 Γ0 β')) → HEk t0 n1 s2 h E (cxs Δ1 Γ0 (tAll B C)) (onz t0 n1 s2 h (cxs Δ1 Γ0 β')) → GOk t0 n1 s2 h E f t [] (onz t0 n1 s2 h (cxs Δ1 Γ0 β')) (cxs Δ1 Γ0 (tAll B C)) Δ) (vZ : ∀ z, nz t0 n1 s2 h (hzx h z (nz t0 n1 s2 h (onz t0 n1 s2 h Γ0) B) :: onz t0 n1 s2 h Γ0) C ≤ E0 + p * max z wB) (hwB : h (nz t0 n1 s2 h (onz t0 n1 s2 h Γ0) B) ≤ wB) (wBy : wB ≤ y) (hC : hd C ≠ 2 ∧ hd C < 16) (hk : tch C ≤ k + 3) (hk2 : k ≤ 50) (R1 : dp5 un F W a5 hv fn s2 r0 r1 r2 r3 E0 p wB ob k y cd (mch t) ≤ Bd) (hS : tyF f t (cxs Δ1 Γ0 (tAll B C)) Δ = .inr S) : nz t0 n1 s2 h (onz t0 n1 s2 h (cxs Δ1 Γ0 β')) S ≤ Bd := by
  obtain ⟨oc0, oA⟩ := okc_low Δ1 he.1
  have oC := (ok_all.mp oA).2
  have l0 := onz_len t0 n1 s2 h Γ0
  have dhk := fun k => dh_ok (un := un) (a5 := a5) (ob := ob) (cd := cd) (wB := wB) (y := y) (E0 := E0) (p := p) (k := k) (mt := mch t) hn hm T hFm hgr hWm hW1 hW H1 hm30 a55 y01
  have les : ∀ z, e2w F W hv y cd (mch t) 0 z ≤ e2w F W hv y cd (mch t) k z := by
    intro z
    have q5 := Zx_ms hFm (x := max z y) (s := 0 + 2) (s' := k + 2) (by omega) (by omega)
    unfold e2w
    omega
  have dh := DHy5 ebw_mono e2w_mono e2w_mono les (dhk 0) (dhk k)
  have y7 : y ≤ X7w F W y cd (mch t) := Nat.le_max_left _ _
  have gy0 : y ≤ gyw W y 0 := by
    have a0 := Zx_mem (x := y) (frg W 0) (1, 0) hW
    simp only at a0
    show y ≤ (frg W 0).foldr (fun u a => max (u.2 + u.1 * y) a) 0
    omega
  have hω2 : ∀ j, j < (onz t0 n1 s2 h (cxs Δ1 Γ0 β')).length → vw (onz t0 n1 s2 h (cxs Δ1 Γ0 β')) j ≤ y := fun j hj => hw j (by rw [onz_len] at hj; exact hj)
  have l1 : (onz t0 n1 s2 h (cxs Δ1 Γ0 β')).length = (cxs Δ1 Γ0 (tAll B C)).length := by rw [onz_len, cxs_ll β' (tAll B C)]
  have hfp : ∀ (v : Nat) (p : Ty), ok ((onz t0 n1 s2 h Γ0).length + 1) p = true → tch p + 3 ≤ tch C → nz t0 n1 s2 (hzx h v) (hzx h v (nz t0 n1 s2 h (onz t0 n1 s2 h Γ0) B) :: onz t0 n1 s2 h Γ0) p ≤ e2w F W hv y cd (mch t) k v := by
    intro z p op hp
    have q4 := Zx_leh T (x := max z y) (z := z) (ω := hzx h z (nz t0 n1 s2 h (onz t0 n1 s2 h Γ0) B) :: onz t0 n1 s2 h Γ0) (A := p) (by rw [List.length_cons]; exact op) (by omega) (by omega) (by omega) (fun j hj => by
      rw [vw_cons]
      by_cases e : j = (onz t0 n1 s2 h Γ0).length
      · rw [if_pos e]
        unfold hzx
        omega
      · rw [if_neg e]
        rw [List.length_cons] at hj
        have q := onz_low (t0 := t0) (n1 := n1) (s2 := s2) (h := h) (Γ0 := Γ0) (β := β') Δ1 (j := j) (by rw [l0] at hj e; omega)
        have q2 := hw j (by rw [cxs_len]; rw [l0] at hj e; omega)
        rw [q] at q2
        omega)
    have q5 := Zx_ms hFm (x := max z y) (s := tch p + 2) (s' := k + 2) (by omega) (by omega)
    unfold e2w
    exact le_mx (Or.inl (Nat.le_trans q4 q5))
  have aq := DQa dh f t [] (onz t0 n1 s2 h (cxs Δ1 Γ0 β')) (cxs Δ1 Γ0 (tAll B C)) _ 0 0 w l1 (fun j hj => Nat.le_trans (hω2 j hj) gy0) (by omega) (fun e => absurd rfl e)
  have hkb : HEk t0 n1 s2 h (E2 (X7w F W y cd (mch t)) (ebw F W hv y cd (mch t) E0 p wB ob) (e2w F W hv y cd (mch t) k)) (cxs Δ1 Γ0 (tAll B C)) (onz t0 n1 s2 h (cxs Δ1 Γ0 β')) := HEr_cx hn hm hh ebw_mono e2w_mono y7 hC (fun z => by
    refine Nat.le_trans (vZ z) ?_
    unfold ebw
    exact le_mx (Or.inl (Nat.le_max_left _ _))) hfp (fun b hb => (hb0 b hb).imp id (fun c z => by have := Nat.mul_le_mul_right z c; unfold ebw; omega)) Δ1 he.1 hw (fun b hb => (hb1 b hb).imp id (fun c z => by have := Nat.mul_le_mul_right z c; unfold ebw; omega))
  have hk1 : HEk t0 n1 s2 h (E5 (X7w F W y cd (mch t)) (ebw F W hv y cd (mch t) E0 p wB ob) (e2w F W hv y cd (mch t) 0) (e2w F W hv y cd (mch t) k)) (cxs Δ1 Γ0 (tAll B C)) (onz t0 n1 s2 h (cxs Δ1 Γ0 β')) := HEk5 les he.1 l1 hkb (HEs_cx hn hm hh ebw_mono e2w_mono y7 hC (fun z => by
    refine Nat.le_trans (vZ z) ?_
    unfold ebw
    exact le_mx (Or.inl (Nat.le_max_left _ _))) (fun b hb => (hb0 b hb).imp id (fun c z => by have := Nat.mul_le_mul_right z c; unfold ebw; omega)) Δ1 he.1 hw (fun b hb => (hb1 b hb).imp id (fun c z => by have := Nat.mul_le_mul_right z c; unfold ebw; omega)))
  have dvk : ∀ k, DVn t0 n1 s2 h (E2 (X7w F W y cd (mch t)) (ebw F W hv y cd (mch t) E0 p wB ob) (e2w F W hv y cd (mch t) k)) (Vbw F W y cd 0) (onz t0 n1 s2 h (cxs Δ1 Γ0 β')) Δ := by
    intro k a ha
    obtain ⟨a1, a2, a3⟩ := he.2.2 a ha
    have ad := dch_mem ha
    have al : a.2.2 ≤ (onz t0 n1 s2 h (cxs Δ1 Γ0 β')).length := by rw [l1]; exact a1
    have ll : ((onz t0 n1 s2 h (cxs Δ1 Γ0 β')).drop ((onz t0 n1 s2 h (cxs Δ1 Γ0 β')).length - a.2.2)).length = a.2.2 := by rw [List.length_drop]; omega
    have vv : ∀ j, j < ((onz t0 n1 s2 h (cxs Δ1 Γ0 β')).drop ((onz t0 n1 s2 h (cxs Δ1 Γ0 β')).length - a.2.2)).length → vw ((onz t0 n1 s2 h (cxs Δ1 Γ0 β')).drop ((onz t0 n1 s2 h (cxs Δ1 Γ0 β')).length - a.2.2)) j ≤ y := by
      intro j hj
      have q := vw_app_lo ((onz t0 n1 s2 h (cxs Δ1 Γ0 β')).take ((onz t0 n1 s2 h (cxs Δ1 Γ0 β')).length - a.2.2)) _ j hj
      rw [List.take_append_drop] at q
      rw [← q]
      exact hω2 j (by rw [ll] at hj; omega)
    refine ⟨(onz t0 n1 s2 h (cxs Δ1 Γ0 β')).take ((onz t0 n1 s2 h (cxs Δ1 Γ0 β')).length - a.2.2), (onz t0 n1 s2 h (cxs Δ1 Γ0 β')).drop ((onz t0 n1 s2 h (cxs Δ1 Γ0 β')).length - a.2.2), (List.take_append_drop _ _).symm, ll, by rw [ll]; exact a2, ?_, ?_⟩
    · have q1 := Zx_le T (x := y) (A := a.2.1) (by rw [ll]; exact a2) (by omega) y01 vv
      have q2 := Zx_ms hFm (x := y) (s := tch a.2.1 + 2) (s' := cd - 2) (by omega) (by omega)
      exact Nat.le_trans q1 (Nat.le_trans q2 (Nat.le_max_left _ _))
    · have c1 : Zx F y (cd - 2 - 3) ≤ X7w F W y cd (mch t) := by
        unfold X7w
        exact le_mx (Or.inr (Nat.le_max_left _ _))
      have c2 : ∀ z, cpw F hv y (cd - 2) z ≤ cpo F W hv y cd (mch t) z := fun z => Nat.le_max_left _ _
      exact txt_cp hm T hFm H1 ebw_mono e2w_mono y01 (show cd - 2 ≤ 56 by omega) c1 (fun z => ⟨by unfold ebw; exact le_mx (Or.inr (c2 z)), by unfold e2w; exact le_mx (Or.inr (c2 z))⟩) (by rw [ll]; exact a2) (by omega) vv
  have dv := DVn5 les (dvk 0) (dvk k)
  have q1 := tyF_vz hm f t (cxs Δ1 Γ0 (tAll B C)) Δ S [] (onz t0 n1 s2 h (cxs Δ1 Γ0 β')) w he hk1 (go _ _ aq hk1) hS
  rw [vz_no (tyF_ok f t _ Δ S w he hS).1] at q1
  have q2 := (DQ_all dh f t [] (onz t0 n1 s2 h (cxs Δ1 Γ0 β')) (cxs Δ1 Γ0 (tAll B C)) Δ 0 0 w l1 dv (fun j hj => Nat.le_trans (hω2 j hj) gy0) (by omega) (fun e => by have := ha5 e; omega) (fun e => absurd rfl e) cu).1 rfl
  exact Nat.le_trans q1 (Nat.le_trans q2 R1)
end PmZk2
section PmZm2
variable {f : Nat} {t B C : Ty} {Γ0 Δ1 : List Ty} {Δ : List (Nat × Ty × Nat)} {un e : Bool} {cd ob wR wG yR yG : Nat} {VR VG WR WG : List (Nat × Nat)}
theorem zone_g7x (w : TWf f (cxs Δ1 Γ0 (tAll B C)).length (Δ.map (fun a => a.1)) t) (he : TE (cxs Δ1 Γ0 (tAll B C)) Δ) (hΔ : (e = true ∧ Δ = []) ∨ (e = false ∧ Δ ≠ [])) (cu : un = true ∨ COk f t 0) (hC : hd C ≠ 2 ∧ hd C < 16) (ch : CHo f t []) (m30 : mch t ≤ 30) (hdd : dch Δ ≤ cd) (hcd : cd ≤ 56) (hb0 : ∀ b ∈ Γ0, nsch b = true ∨ flv b ≤ ob) (hb1 : ∀ b ∈ Δ1, nsch b = true ∨ flv b ≤ ob) (wbR : ∀ b, vlr b 1 (nz 0 (fun _ => 1 + 1) (2 + 1) (vlr b 1) (onz 0 (fun _ => 1 + 1) (2 + 1) (vlr b 1) Γ0) B) ≤ wR) (wbG : nz 1 ngc 1 (fun x => x) (onz 1 ngc 1 (fun x => x) Γ0) B ≤ wG)
  (hVR : ∃ v ∈ VR, xt (Γ0.length + 1) C ≤ v.1 ∧ xa 0 (fun _ => 1 + 1) 3 1 (Γ0.length + 1) C ≤ v.2) (hVG : ∃ v ∈ VG, xt (Γ0.length + 1) C ≤ v.1 ∧ xa 1 ngc 1 0 (Γ0.length + 1) C ≤ v.2)
  (cR : ∀ (b : Bool) (v : Nat × Nat), xt (Γ0.length + 1) C ≤ v.1 → xa 0 (fun _ => 1 + 1) 3 1 (Γ0.length + 1) C ≤ v.2 → ∃ p, p ≤ v.1 ∧ ∃ w ∈ WR, 1 ≤ w.2 + w.1 * max yR (1 + (3 + (v.2 + (v.1 - p) * yR + p * wR))) ∧ (∀ j, j < (cxs Δ1 Γ0 (tAll B C)).length → vw (onz 0 (fun _ => 1 + 1) (2 + 1) (vlr b 1) (cxs Δ1 Γ0 (tAll B C))) j ≤ w.2 + w.1 * max yR (1 + (3 + (v.2 + (v.1 - p) * yR + p * wR)))) ∧ ∀ z, nz 0 (fun _ => 1 + 1) (2 + 1) (vlr b 1) (hzx (vlr b 1) z (nz 0 (fun _ => 1 + 1) (2 + 1) (vlr b 1) (onz 0 (fun _ => 1 + 1) (2 + 1) (vlr b 1) Γ0) B) :: onz 0 (fun _ => 1 + 1) (2 + 1) (vlr b 1) Γ0) C ≤ v.2 + (v.1 - p) * yR + p * max z wR)
  (cG : ∀ (v : Nat × Nat), xt (Γ0.length + 1) C ≤ v.1 → xa 1 ngc 1 0 (Γ0.length + 1) C ≤ v.2 → ∃ p, p ≤ v.1 ∧ ∃ w ∈ WG, 1 ≤ w.2 + w.1 * max yG (0 + (1 + (v.2 + (v.1 - p) * yG + p * wG))) ∧ (∀ j, j < (cxs Δ1 Γ0 (tAll B C)).length → vw (onz 1 ngc 1 (fun x => x) (cxs Δ1 Γ0 (tAll B C))) j ≤ w.2 + w.1 * max yG (0 + (1 + (v.2 + (v.1 - p) * yG + p * wG)))) ∧ ∀ z, nz 1 ngc 1 (fun x => x) (hzx (fun x => x) z (nz 1 ngc 1 (fun x => x) (onz 1 ngc 1 (fun x => x) Γ0) B) :: onz 1 ngc 1 (fun x => x) Γ0) C ≤ v.2 + (v.1 - p) * yG + p * max z wG)
  (hTR : ∀ v ∈ VR, ∀ p, p ≤ v.1 → ∀ w ∈ WR, ∃ s, TpD 1 3 wR yR ob (tch C - 3) p v w s ∧ TpR7 un e wR cd (mch t) s)
  (hTG : ∀ v ∈ VG, ∀ p, p ≤ v.1 → ∀ w ∈ WG, ∃ s, TpD 0 1 wG yG ob (tch C - 3) p v w s ∧ TpG7 un e wG cd (mch t) s) : NtV (cxs Δ1 Γ0 (tAll B C)) Δ f t 887 597 := by
  have d5 : Δ ≠ [] → 5 ≤ cd := fun e => Nat.le_trans (dch_five he e) hdd
  have hch : CHo f t (([] : Stk).map Option.isSome) := ch
  refine fun S hS => ⟨fun b => ?_, ?_⟩
  · obtain ⟨v, hv, x1, x2⟩ := hVR
    obtain ⟨p, hp, ew, he', g1, g2, g3⟩ := cR b v x1 x2
    obtain ⟨s, ⟨k1, k2, k3, k4, k5⟩, ⟨k50, wy⟩, R0, R5⟩ := hTR v hv p hp ew he'
    have hb0' : ∀ b ∈ Γ0, nsch b = true ∨ flv b ≤ s.2.2.2.2.1 := fun b hb => (hb0 b hb).imp id (fun h => Nat.le_trans h k4)
    have hb1' : ∀ b ∈ Δ1, nsch b = true ∨ flv b ≤ s.2.2.2.2.1 := fun b hb => (hb1 b hb).imp id (fun h => Nat.le_trans h k4)
    rcases hΔ with ⟨ee, cΔ⟩ | ⟨ee, cΔ⟩
    · exact gen_fin7x (β' := tAll B C) (un := un) (a5 := 5) (cd := 0) (wB := wR) (E0 := s.2.2.1) (p := s.2.2.2.1) (ob := s.2.2.2.2.1) (k := s.2.2.2.2.2) (y := s.1) (NC_rows b 1) (vlr_mono b 1) (vlr_lip b 1) (tbs1 b) fr1_m fg1_ok fg1_m fg1s_1 (by decide) (vlr_one b) w he cu m30 hb0' hb1' (by rw [cΔ]; exact Nat.le_refl _) (Nat.zero_le _) (Nat.le_refl _) (fun e => absurd cΔ e) (Nat.le_trans g1 k1) (fun j hj => Nat.le_trans (g2 j hj) k1) (fun E Z aq hE => GH_natc (E := E) (Z := Z) (NC_rows b 1) (vlr_mono b 1) f t [] _ _ Δ w he hch aq (onz_cv (NC_rows b 1) he.1) hE) (fun z => Nat.le_trans (g3 z) (Nat.add_le_add k2 (Nat.mul_le_mul_right _ k3))) (wbR b) wy hC (by omega) k50 (R5 ee) hS
    · exact gen_fin7x (β' := tAll B C) (un := un) (a5 := 0) (cd := cd) (wB := wR) (E0 := s.2.2.1) (p := s.2.2.2.1) (ob := s.2.2.2.2.1) (k := s.2.2.2.2.2) (y := s.1) (NC_rows b 1) (vlr_mono b 1) (vlr_lip b 1) (tbs1 b) fr1_m fg1_ok fg1_m fg1s_1 (by decide) (vlr_one b) w he cu m30 hb0' hb1' hdd hcd (Nat.zero_le _) (fun _ => rfl) (Nat.le_trans g1 k1) (fun j hj => Nat.le_trans (g2 j hj) k1) (fun E Z aq hE => GH_natc (E := E) (Z := Z) (NC_rows b 1) (vlr_mono b 1) f t [] _ _ Δ w he hch aq (onz_cv (NC_rows b 1) he.1) hE) (fun z => Nat.le_trans (g3 z) (Nat.add_le_add k2 (Nat.mul_le_mul_right _ k3))) (wbR b) wy hC (by omega) k50 (R0 ee (d5 cΔ)) hS
  · obtain ⟨v, hv, x1, x2⟩ := hVG
    obtain ⟨p, hp, ew, he', g1, g2, g3⟩ := cG v x1 x2
    obtain ⟨s, ⟨k1, k2, k3, k4, k5⟩, ⟨k50, wy⟩, R0, R5⟩ := hTG v hv p hp ew he'
    have hb0' : ∀ b ∈ Γ0, nsch b = true ∨ flv b ≤ s.2.2.2.2.1 := fun b hb => (hb0 b hb).imp id (fun h => Nat.le_trans h k4)
    have hb1' : ∀ b ∈ Δ1, nsch b = true ∨ flv b ≤ s.2.2.2.2.1 := fun b hb => (hb1 b hb).imp id (fun h => Nat.le_trans h k4)
    rcases hΔ with ⟨ee, cΔ⟩ | ⟨ee, cΔ⟩
    · exact gen_fin7x (β' := tAll B C) (un := un) (a5 := 5) (cd := 0) (wB := wG) (E0 := s.2.2.1) (p := s.2.2.2.1) (ob := s.2.2.2.2.1) (k := s.2.2.2.2.2) (y := s.1) NC_goals (fun y y' hy => hy) (fun y δ => Nat.le_refl _) tbsq frq_m fgq_ok fgq_m fg1s_q (by decide) (fun y => by show y ≤ 0 + max 1 y; omega) w he cu m30 hb0' hb1' (by rw [cΔ]; exact Nat.le_refl _) (Nat.zero_le _) (Nat.le_refl _) (fun e => absurd cΔ e) (Nat.le_trans g1 k1) (fun j hj => Nat.le_trans (g2 j hj) k1) (fun E Z aq hE => GH_natc (E := E) (Z := Z) NC_goals (fun y y' hy => hy) f t [] _ _ Δ w he hch aq (onz_cv NC_goals he.1) hE) (fun z => Nat.le_trans (g3 z) (Nat.add_le_add k2 (Nat.mul_le_mul_right _ k3))) wbG wy hC (by omega) k50 (R5 ee) hS
    · exact gen_fin7x (β' := tAll B C) (un := un) (a5 := 0) (cd := cd) (wB := wG) (E0 := s.2.2.1) (p := s.2.2.2.1) (ob := s.2.2.2.2.1) (k := s.2.2.2.2.2) (y := s.1) NC_goals (fun y y' hy => hy) (fun y δ => Nat.le_refl _) tbsq frq_m fgq_ok fgq_m fg1s_q (by decide) (fun y => by show y ≤ 0 + max 1 y; omega) w he cu m30 hb0' hb1' hdd hcd (Nat.zero_le _) (fun _ => rfl) (Nat.le_trans g1 k1) (fun j hj => Nat.le_trans (g2 j hj) k1) (fun E Z aq hE => GH_natc (E := E) (Z := Z) NC_goals (fun y y' hy => hy) f t [] _ _ Δ w he hch aq (onz_cv NC_goals he.1) hE) (fun z => Nat.le_trans (g3 z) (Nat.add_le_add k2 (Nat.mul_le_mul_right _ k3))) wbG wy hC (by omega) k50 (R0 ee (d5 cΔ)) hS
end PmZm2
def tq9 (V : List (Nat × Nat)) : Bool := V.all (fun v => (List.range (v.1 + 1)).all (fun p => Nat.ble (dp5 true fr1 fg1 0 1 2 3 2 2 2 2 (v.2 + (v.1 - p) * 1) p 2 0 27 (max 1 (1 + (3 + (v.2 + (v.1 - p) * 1 + p * 2)))) 5 7) 887))
theorem tq9R : tq9 (frg ohR1 30) = true := by decide +kernel
theorem tq9_get {V : List (Nat × Nat)} {p : Nat} (h : tq9 V = true) {v : Nat × Nat} (hv' : v ∈ V) (hp : p ≤ v.1) : dp5 true fr1 fg1 0 1 2 3 2 2 2 2 (v.2 + (v.1 - p) * 1) p 2 0 27 (max 1 (1 + (3 + (v.2 + (v.1 - p) * 1 + p * 2)))) 5 7 ≤ 887 := Nat.le_of_ble_eq_true (rng_all (List.all_eq_true.mp h v hv') (i := p) (by omega))
section PmOz
variable {f : Nat} {t C : Ty} {Δ : List (Nat × Ty × Nat)}
theorem nat_12 (w : TWf f (cxs [] [] (tAll tTop C)).length (Δ.map (fun a => a.1)) t) (he : TE (cxs [] [] (tAll tTop C)) Δ) (nΔ : Δ ≠ []) (ch : CHo f t []) (hp : phf (fun _ => true) C = true) (kd1 : kdt C = 4) (ho : php (rhoO (kdt C)) C = true ∨ php (rhoW (kdt C)) C = true) (hC : hd C ≠ 2 ∧ hd C < 16) (hk : tch C = 30) (m7 : mch t = 7) (hb : dch Δ ≤ 5) : NtV (cxs [] [] (tAll tTop C)) Δ f t 887 597 := by
  obtain ⟨-, oA⟩ := okc_low [] he.1
  have oC := (ok_all.mp oA).2
  have l14 : (flat C).length ≤ 14 := by
    have q : (flat (tAll tTop C)).length ≤ 16 := he.2.1 0 (by rw [cxs_len]; simp)
    rw [flat_all, List.length_cons, List.length_append] at q
    have : (flat tTop).length = 1 := rfl
    omega
  have e1 : max 1 (fx1.getD 0 0) = 1 := by decide
  have eq : max 1 (fxq.getD 0 0) = 1 := by decide
  have w1 : frg fg1 0 = [(1, 0)] := by decide
  have wq : frg fgq 0 = [(1, 0)] := by decide
  have kd : kdt C = 1 ∨ kdt C = 4 := Or.inr kd1
  have yR := fun (d : Nat) (o : ok d C = true) => yoh_r o (by omega) kd1 ho
  have yG := fun (d : Nat) (o : ok d C = true) => mnl_ex (yw_G o (by omega) hp kd) (nw_form (t0 := 1) (n1 := ngc) (s2 := 1) (hv := 0) nfq_ok nwq_ok (by decide) tbsq.2.2.2.1 tbsq.2.2.2.2.1 o l14 hp kd)
  rw [hk] at yR yG
  refine zone_g7x (un := true) (e := false) (cd := 5) (ob := 0) (wR := 2) (wG := 1) (yR := max 1 (fx1.getD 0 0)) (yG := max 1 (fxq.getD 0 0)) (VR := frg ohR1 30) (VG := mnl (frg ywq 30) nWq) (WR := frg fg1 0) (WG := frg fgq 0) w he (Or.inr ⟨rfl, nΔ⟩) (Or.inl rfl) hC ch (by omega) hb (by omega) (fun b hb => by cases hb) (fun b hb => by cases hb) (fun b => by rw [nz_top]; exact vlr_one b 0) (by rw [nz_top]; exact Nat.le_refl _) (yR _ oC) (yG _ oC) (fun b v x1 x2 => nat_ctxg (wB := 2) (v := v) (tbs1 b) (vlr_one b) (by decide) he.1 x1 x2 (by rw [nz_top]; exact vlr_one b 0) (Nat.le_refl _) (by decide) (gr_R he.1 (by decide) b)) (fun v x1 x2 => nat_ctxg (wB := 1) (v := v) tbsq (fun y => by show y ≤ 0 + max 1 y; omega) (by decide) he.1 x1 x2 (by rw [nz_top]; exact Nat.le_refl _) (Nat.le_refl _) (by decide) (gr_G he.1 (by decide))) ?_ ?_
  · intro v hv p hp' e he'
    rw [w1] at he'
    rw [List.mem_singleton.mp he', e1, hk, m7]
    have q := tq9_get tq9R hv hp'
    refine ⟨(max 1 (1 + (3 + (v.2 + (v.1 - p) * 1 + p * 2))), 0, v.2 + (v.1 - p) * 1, p, 0, 27), ⟨?_, Nat.le_refl _, Nat.le_refl _, Nat.le_refl _, Nat.le_refl _⟩, ⟨by show 27 ≤ 50; omega, by show 2 ≤ max 1 (1 + (3 + (v.2 + (v.1 - p) * 1 + p * 2))); omega⟩, fun _ _ => q, fun e => by cases e⟩
    show 0 + 1 * max 1 (1 + (3 + (v.2 + (v.1 - p) * 1 + p * 2))) ≤ max 1 (1 + (3 + (v.2 + (v.1 - p) * 1 + p * 2)))
    omega
  · intro v hv p hp' e he'
    rw [wq] at he'
    rw [List.mem_singleton.mp he', eq, hk, m7]
    have q := tq7_get tq7G hv hp'
    refine ⟨(max 1 (0 + (1 + (v.2 + (v.1 - p) * 1 + p * 1))), 0, v.2 + (v.1 - p) * 1, p, 0, 30), ⟨?_, Nat.le_refl _, Nat.le_refl _, Nat.le_refl _, by show 30 - 3 ≤ 30; omega⟩, ⟨by show 30 ≤ 50; omega, by show 1 ≤ max 1 (0 + (1 + (v.2 + (v.1 - p) * 1 + p * 1))); omega⟩, fun _ _ => q, fun e => by cases e⟩
    show 0 + 1 * max 1 (0 + (1 + (v.2 + (v.1 - p) * 1 + p * 1))) ≤ max 1 (0 + (1 + (v.2 + (v.1 - p) * 1 + p * 1)))
    omega
end PmOz
def LeftP (f : Nat) (x y : Ty) (Γ : List Ty) (Δ : List (Nat × Ty × Nat)) : Prop := ∃ (Δ1 Γ0 : List Ty) (b : Ty), Γ = cxs Δ1 Γ0 b ∧ nsch b = false ∧ ((∀ a ∈ Γ0, nsch a = true ∨ tch a ≤ tch b) ∧ ∀ a ∈ Δ1, nsch a = true ∨ tch a ≤ tch b) ∧ ((∀ B C, b ≠ tAll B C) ∨ ∃ B C, b = tAll B C ∧ B ≠ tTop)
def RESTK9 : Prop := ∀ (f : Nat) (x y : Ty) (Γ : List Ty) (Δ : List (Nat × Ty × Nat)), TWf f Γ.length (Δ.map (fun a => a.1)) x → TWf f Γ.length (Δ.map (fun a => a.1)) y → TE Γ Δ → NAt f x → NAt f y → noac Γ → (∀ a ∈ Δ, noal a.2.1 = true) → TNo f x → TNo f y → 3 ≤ mch x → 3 ≤ mch y → (mch x ≤ mch y → ¬ NOp f x) → (¬ mch x ≤ mch y → ¬ NOp f y) → 20 ≤ cch Γ → cch Γ ≤ 47 → cch Γ + dch Δ + (2 + (mch x + mch y)) ≤ 60 → NoO f x y Γ Δ → ¬ AzT f x Γ Δ → ¬ AzT f y Γ Δ → ¬ AzB f x Γ Δ → ¬ AzB f y Γ Δ → ¬ AzC f x Γ Δ → ¬ AzC f y Γ Δ → ¬ AzI f x Γ Δ → ¬ AzI f y Γ Δ → ¬ AzF f x Γ Δ → ¬ AzF f y Γ Δ → ¬ AzG f x Γ Δ → ¬ AzG f y Γ Δ → ¬ AzH f x Γ Δ → ¬ AzH f y Γ Δ → ¬ PrS f x y Γ Δ → ¬ AzK f x Γ Δ → ¬ AzK f y Γ Δ → ¬ AzL f x Γ Δ → ¬ AzL f y Γ Δ → ¬ AzM f x Γ Δ → ¬ AzM f y Γ Δ → ¬ PrG f x y Γ Δ → ¬ AzN f x Γ Δ → ¬ AzN f y Γ Δ → ¬ One9 Γ → ¬ AzO f x Γ Δ → ¬ AzO f y Γ Δ → ¬ AzP f x Γ Δ → ¬ AzP f y Γ Δ → ¬ AzQ f x Γ Δ → ¬ AzQ f y Γ Δ → ¬ AzR f x Γ Δ → ¬ AzR f y Γ Δ → ¬ AzS f x Γ Δ → ¬ AzS f y Γ Δ → Cv2 f x y Γ Δ → Cv4 f x y Γ Δ → Cv5 f x y Γ Δ → Cv6 f x y Γ Δ → (¬ ((mch x ≤ mch y → CHo f x []) ∧ (¬ mch x ≤ mch y → CHo f y [])) ∨ LeftP f x y Γ Δ) → PRn f x y Γ Δ
theorem restj9_of (R : RESTK9) : RESTJ9 := by
  intro f x y Γ Δ x1 x2 he y1 y2 hv hd' tx ty m3 n3 no1 no2 h20 h47 hb ng ax ay bx bz cx cy dx dy ex ey gx gy ix iy jx kx ky lx ly mx my px qx qy ox ux uy vx vy wx wy zx zy sx sy c2 c4 c5 c6 hL
  have go := R f x y Γ Δ x1 x2 he y1 y2 hv hd' tx ty m3 n3 no1 no2 h20 h47 hb ng ax ay bx bz cx cy dx dy ex ey gx gy ix iy jx kx ky lx ly mx my px qx qy ox ux uy vx vy wx wy zx zy sx sy c2 c4 c5 c6
  by_cases hch : (mch x ≤ mch y → CHo f x []) ∧ (¬ mch x ≤ mch y → CHo f y [])
  rotate_left
  · exact go (Or.inl hch)
  rcases hL with hL | ⟨Δ1, Γ0, b, e, ns, ho, rest⟩
  · exact go (Or.inl hL)
  rcases rest with r | r | ⟨C, eb, lf, hp, nΔ, kC, fl, k30, g0, g1, mx7, my7⟩
  · exact go (Or.inr ⟨Δ1, Γ0, b, e, ns, ho, Or.inl r⟩)
  · exact go (Or.inr ⟨Δ1, Γ0, b, e, ns, ho, Or.inr r⟩)
  subst g0
  subst g1
  subst eb
  subst e
  have ec := ec_top C [] []
  have z0 : cch ([] : List Ty) = 0 := rfl
  obtain ⟨-, oA⟩ := okc_low [] he.1
  have oC := (ok_all.mp oA).2
  have hC : hd C ≠ 2 ∧ hd C < 16 := by
    rcases kdt_cases oC with q | q | q | q | q
    · omega
    · omega
    · omega
    · omega
    · obtain ⟨-, m, x, y, z, hm, rfl, -, -, -⟩ := q
      rw [hd_rec]; omega
  exact pair_ntv x1 x2 he y1 y2 hv hd' (by omega) (Or.inl (nat_12 x1 he nΔ (hch.1 (by omega)) hp kC (by rw [kC]; exact fl) hC k30 mx7 (by omega)))
theorem pairn_pk (R : RESTK9) : PAIRn := pairn_pj (restj9_of R)
