/-! A SCHEME WHOSE BODY'S WORTH IS KNOWN AS E0 + p z (the variables before it counted as constants). -/
section PmHx
variable {t0 fn s2 hv r0 r1 r2 r3 x0 : Nat} {n1 h : Nat → Nat} {P Q : List (List Nat)} {F G W : FrT} {X : List Nat}
/-- a body, with Top worth what the variables before are -/
theorem vC_clv (hm : ∀ y y', y ≤ y' → h y ≤ h y') (H1 : ∀ y, h y ≤ hv + max 1 y) {C : Ty} {ω : List Nat} {y1 z : Nat} (hy : t0 ≤ y1) (o : ok (ω.length + 1) C = true) (hw : ∀ j, j < ω.length → vw ω j ≤ y1) : nz t0 n1 s2 h (z :: ω) C ≤ xa y1 n1 s2 hv 1 (clv ω.length C) + xf 1 0 (clv ω.length C) * z := by
  have o1 : ok 1 (clv ω.length C) = true := clv_ok _ C 1 (Nat.le_refl _) (by rw [Nat.add_comm]; exact o)
  have q := nz_clv (L := ω.length) (t0 := t0) (n1 := n1) (s2 := s2) hm hy _ C (z :: ω) [z] (Nat.le_refl _) (by rw [List.length_cons, List.length_singleton]; omega) (by rw [List.length_cons]; exact o) (fun j hj => by
    rw [vw_cons, if_neg (by omega)]
    exact hw j hj) (fun j hj => by
    rw [List.length_singleton] at hj
    rw [show j = 0 by omega, vw_cons, vw_cons, if_pos (by omega), if_pos (show 0 = ([] : List Nat).length from rfl)]
    exact Nat.le_refl _)
  have q2 := nz_xo (t0 := y1) (n1 := n1) (s2 := s2) (h := h) (hv := hv) H1 (t := clv ω.length C) (ω := []) (x := 0) (z := z) o1 (fun j hj => absurd hj (Nat.not_lt_zero _))
  have q3 : nz y1 n1 s2 h [z] (clv ω.length C) ≤ xa y1 n1 s2 hv 1 (clv ω.length C) + xo 0 (clv ω.length C) * 0 + xf 1 0 (clv ω.length C) * z := q2
  omega
theorem xf_one {t : Ty} : xf 1 0 t = xt 1 t := by
  have q := xt_xo 0 t
  have e : xo 0 t = 0 := rfl
  rw [e] at q
  show xf (0 + 1) 0 t = xt (0 + 1) t
  omega
theorem gen_zk (hn : NC t0 n1 s2 h) (hm : ∀ y y', y ≤ y' → h y ≤ h y') (hh : ∀ y δ, h (y + δ) ≤ h y + δ) (T : TBs 58 t0 fn s2 hv r0 r1 r2 r3 x0 n1 h P Q F G X) (hFm : frm F = true) (hgr : fgc F W hv = true) (hWm : fgm W = true) (hW1 : fg1s W = true) (hW : (1, 0) ∈ frg W 0) (H1 : ∀ y, h y ≤ hv + max 1 y) (s21 : 1 ≤ s2) {f : Nat} {t S b b' B C : Ty} {Γ0 Δ1 : List Ty} {Δ : List (Nat × Ty × Nat)} {un : Bool} {a5 ob cd Bd y1 κ wB E0 p : Nat} (ds : DSp Γ0.length (tAll B C) b' b) (w : TWf f (cxs Δ1 Γ0 b).length (Δ.map (fun a => a.1)) t) (he : TE (cxs Δ1 Γ0 b) Δ) (cu : un = true ∨ COk f t 0) (hm30 : mch t ≤ 30) (hdc : dch Δ ≤ cd) (hcd : cd ≤ 56) (a55 : a5 ≤ 5) (ha5 : Δ ≠ [] → a5 = 0) (hb0 : ∀ a ∈ Γ0, OBs ob a) (hb1 : ∀ a ∈ Δ1, OBs ob a) (hbs : ∀ B' C', ok Γ0.length (tAll B' C') = true → tch C' ≤ tch C → tch (tAll B' C') + tch (tAll B C) + 5 ≤ tch b → tch C' ≤ 40 ∧ lmx xr1 (tch C') ≤ ob ∧ lmx fr1 (tch C') ≤ ob) (q38 : cch Δ1 ≤ 38) (q56 : cch Γ0 ≤ 56) (e1 : max x0 (X.getD (cch Γ0) 0) ≤ y1) (hκ : nz t0 n1 s2 h (onz t0 n1 s2 h Γ0) b' ≤ κ) (hwB : h (nz t0 n1 s2 h (onz t0 n1 s2 h Γ0) B) ≤ wB) (vC : ∀ z, nz t0 n1 s2 h (z :: onz t0 n1 s2 h Γ0) C ≤ E0 + p * z) (go : ∀ E Z, AQh t0 n1 s2 h E Z f t [] (onz t0 n1 s2 h (cxs Δ1 Γ0 b)) → HEk t0 n1 s2 h E (cxs Δ1 Γ0 b) (onz t0 n1 s2 h (cxs Δ1 Γ0 b)) → GOk t0 n1 s2 h E f t [] (onz t0 n1 s2 h (cxs Δ1 Γ0 b)) (cxs Δ1 Γ0 b) Δ) (hT : ∀ u ∈ frg W (cch Δ1), ∃ s : T6, (TiD hv s2 κ wB y1 ob (tch C) p (p, E0) u s ∧ ∃ w0 ∈ frg F s.2.2.2.2.2, ob + 1 ≤ w0.1) ∧ dpD un F W a5 hv fn s2 r0 r1 r2 r3 s.2.2.1 s.2.2.2.1 s.1 s.2.2.2.2.1 s.2.2.2.2.2 s.1 cd (mch t) ≤ Bd) (hS : tyF f t (cxs Δ1 Γ0 b) Δ = .inr S) : nz t0 n1 s2 h (onz t0 n1 s2 h (cxs Δ1 Γ0 b)) S ≤ Bd := by
  obtain ⟨oc0, oB⟩ := okc_low Δ1 he.1
  obtain ⟨ob', oσ, cσ, nσ, iσ⟩ := ds
  have oC := (ok_all.mp oσ).2
  have l0 := onz_len t0 n1 s2 h Γ0
  have l1 := onz_len t0 n1 s2 h (cxs Δ1 Γ0 b)
  have x01 : x0 ≤ y1 := Nat.le_trans (Nat.le_max_left _ _) e1
  have hω : ∀ j, j < (onz t0 n1 s2 h Γ0).length → vw (onz t0 n1 s2 h Γ0) j ≤ y1 := fun j hj => Nat.le_trans (onz_chars T.1 T.2.1 T.2.2.1 T.2.2.2.1 T.2.2.2.2.1 Γ0 oc0 q56 j (by rw [l0] at hj; exact hj)) (Nat.le_trans (Nat.le_max_right _ _) e1)
  have vA : nz t0 n1 s2 h (onz t0 n1 s2 h Γ0) (tAll B C) ≤ s2 + (E0 + p * wB) := by
    rw [nz_all]
    have q := vC (h (nz t0 n1 s2 h (onz t0 n1 s2 h Γ0) B))
    have q2 := Nat.mul_le_mul_left p hwB
    omega
  have vZ : ∀ z, nz t0 n1 s2 h (hzx h z (nz t0 n1 s2 h (onz t0 n1 s2 h Γ0) B) :: onz t0 n1 s2 h Γ0) C ≤ E0 + p * max z wB := by
    intro z
    have q := vC (hzx h z (nz t0 n1 s2 h (onz t0 n1 s2 h Γ0) B))
    have q2 : hzx h z (nz t0 n1 s2 h (onz t0 n1 s2 h Γ0) B) ≤ max z wB := by
      unfold hzx
      omega
    have q3 := Nat.mul_le_mul_left p q2
    omega
  have vb : nz t0 n1 s2 h (onz t0 n1 s2 h Γ0) b ≤ κ + (s2 + (E0 + p * wB)) := by
    have := nσ t0 n1 s2 h (onz t0 n1 s2 h Γ0)
    omega
  have EA1 : 1 ≤ κ + (s2 + (E0 + p * wB)) := by omega
  have h0' : ∀ j, j < (b :: Γ0).length → vw (onz t0 n1 s2 h (b :: Γ0)) j ≤ max y1 (hv + (κ + (s2 + (E0 + p * wB)))) := by
    intro j hj
    show vw (h (nz t0 n1 s2 h (onz t0 n1 s2 h Γ0) b) :: onz t0 n1 s2 h Γ0) j ≤ _
    rw [vw_cons, l0]
    by_cases e : j = Γ0.length
    · rw [if_pos e]
      have := H1 (nz t0 n1 s2 h (onz t0 n1 s2 h Γ0) b)
      omega
    · rw [if_neg e]
      rw [List.length_cons] at hj
      exact Nat.le_trans (hω j (by rw [l0]; omega)) (Nat.le_max_left _ _)
  obtain ⟨u, hu, u1, hw⟩ := onz_gr T hgr hW (Nat.le_trans x01 (Nat.le_max_left _ _)) h0' Δ1 he.1 q38
  obtain ⟨s, ⟨⟨k1, k2, k3, k4, k5, k6, k7⟩, k8⟩, R⟩ := hT u hu
  have e9 : (p, E0).2 + ((p, E0).1 - p) * y1 = E0 := by
    show E0 + (p - p) * y1 = E0
    rw [Nat.sub_self, Nat.zero_mul, Nat.add_zero]
  rw [e9] at k1 k2
  have hw' : ∀ j, j < (cxs Δ1 Γ0 b).length → vw (onz t0 n1 s2 h (cxs Δ1 Γ0 b)) j ≤ s.1 := fun j hj => Nat.le_trans (hw j hj) k1
  have y01 : x0 ≤ s.1 := by
    have a1 := Nat.mul_le_mul_right (max y1 (hv + (κ + (s2 + (E0 + p * wB))))) u1
    have a2 := Nat.le_max_left y1 (hv + (κ + (s2 + (E0 + p * wB))))
    omega
  have hA2 : HS2 t0 n1 s2 h (ebw F W hv s.1 cd (mch t) s.2.2.1 s.2.2.2.1 s.1 s.2.2.2.2.1) (e2w F W hv s.1 cd (mch t) s.2.2.2.2.2) (onz t0 n1 s2 h Γ0) (tAll B C) := by
    refine ⟨B, C, rfl, fun z => ?_, fun z => ?_⟩
    · refine Nat.le_trans (vZ z) ?_
      have a1 : p * max z wB ≤ s.2.2.2.1 * max z s.1 := Nat.mul_le_mul k3 (by omega)
      unfold ebw
      exact le_mx (Or.inl (le_mx (Or.inl (by omega))))
    · have q4 := Zx_leh T (x := max z s.1) (z := z) (ω := hzx h z (nz t0 n1 s2 h (onz t0 n1 s2 h Γ0) B) :: onz t0 n1 s2 h Γ0) (A := C) (by rw [List.length_cons, l0]; exact oC) (by omega) (by omega) (by omega) (fun j hj => by
        rw [vw_cons]
        by_cases e : j = (onz t0 n1 s2 h Γ0).length
        · rw [if_pos e]
          unfold hzx
          omega
        · rw [if_neg e]
          rw [List.length_cons] at hj
          have q := onz_low (t0 := t0) (n1 := n1) (s2 := s2) (h := h) (Γ0 := Γ0) (β := b) Δ1 (j := j) (by rw [l0] at hj e; omega)
          have q2 := hw' j (by rw [cxs_len]; rw [l0] at hj e; omega)
          rw [q] at q2
          omega)
      have q5 := Zx_ms hFm (x := max z s.1) (s := tch C + 2) (s' := s.2.2.2.2.2 + 2) (by omega) (by omega)
      unfold e2w
      exact le_mx (Or.inl (Nat.le_trans q4 q5))
  have few : ∀ (Γ' : List Ty) (B' C' : Ty), ok Γ'.length (tAll B' C') = true → nz t0 n1 s2 h (onz t0 n1 s2 h Γ') (tAll B' C') ≤ s.1 → tch C' ≤ 40 → lmx xr1 (tch C') ≤ ob → lmx fr1 (tch C') ≤ ob → HS2 t0 n1 s2 h (ebw F W hv s.1 cd (mch t) s.2.2.1 s.2.2.2.1 s.1 s.2.2.2.2.1) (e2w F W hv s.1 cd (mch t) s.2.2.2.2.2) (onz t0 n1 s2 h Γ') (tAll B' C') := by
    intro Γ' B' C' o' q c1 c2 c3
    have l2 := onz_len t0 n1 s2 h Γ'
    have oC' := (ok_all.mp o').2
    refine ⟨B', C', rfl, fun z => ?_, fun z => ?_⟩
    · have a1 := sch_rse (t0 := t0) (n1 := n1) (s2 := s2) hm hh (B := B') (C := C') (ω := onz t0 n1 s2 h Γ') (by rw [l2]; exact o') z
      rw [l2] at a1
      have a2 := Nat.mul_le_mul_right z (Nat.le_trans (xf_lx oC' (by omega)) (Nat.le_trans c2 k4))
      unfold ebw
      omega
    · have q4 := nz_flv (t0 := t0) (n1 := n1) (s2 := s2) hm hh (z := z) _ C' (h (nz t0 n1 s2 h (onz t0 n1 s2 h Γ') B') :: onz t0 n1 s2 h Γ') (hzx h z (nz t0 n1 s2 h (onz t0 n1 s2 h Γ') B') :: onz t0 n1 s2 h Γ') z (Nat.le_refl _) (by rw [List.length_cons, List.length_cons]) (by rw [List.length_cons, l2]; exact oC') (Nat.le_refl _) (fun j hj => by
        rw [vw_cons, vw_cons]
        by_cases e : j = (onz t0 n1 s2 h Γ').length
        · rw [if_pos e, if_pos e]
          unfold hzx
          omega
        · rw [if_neg e, if_neg e]
          omega)
      obtain ⟨w0, hw0, hw1⟩ := k8
      have q5 := Zx_mem (x := max z s.1) (frg F s.2.2.2.2.2) w0 hw0
      have q6 : (frg F s.2.2.2.2.2).foldr (fun u a => max (u.2 + u.1 * max z s.1) a) 0 = Zx F (max z s.1) (s.2.2.2.2.2 + 2) := rfl
      rw [q6] at q5
      have q7 : (flv C' + 1) * max z s.1 ≤ w0.1 * max z s.1 := Nat.mul_le_mul_right _ (by have := flv_lmx oC' (Nat.le_refl _) (by omega); omega)
      have q8 : flv C' * z ≤ flv C' * max z s.1 := Nat.mul_le_mul_left _ (Nat.le_max_left _ _)
      have q9 := Nat.le_max_right z s.1
      rw [Nat.add_mul, Nat.one_mul] at q7
      rw [nz_all] at q
      unfold e2w
      exact le_mx (Or.inl (by omega))
  refine gen_fin6 (un := un) (a5 := a5) (cd := cd) (wB := s.1) (E0 := s.2.2.1) (p := s.2.2.2.1) (ob := s.2.2.2.2.1) (k := s.2.2.2.2.2) (y := s.1) hn hm T hFm hgr hWm hW1 hW H1 w he l1 cu hm30 hdc hcd a55 ha5 y01 (fun j hj => hw' j (by rw [l1] at hj; exact hj)) (HE_sfy ebw_mono e2w_mono hm hh hn (Nat.le_max_left _ _) he.1 hw' (fun Δ' b1 Γ' e' o9 w9 q => ?_)) go R hS
  have oth : OBs ob b1 → IS2 (fun s' => HS2 t0 n1 s2 h (ebw F W hv s.1 cd (mch t) s.2.2.1 s.2.2.2.1 s.1 s.2.2.2.2.1) (e2w F W hv s.1 cd (mch t) s.2.2.2.2.2) (onz t0 n1 s2 h Γ') s' ∨ ∀ z, nz t0 n1 s2 h (onz t0 n1 s2 h Γ') s' + flv s' * z ≤ ebw F W hv s.1 cd (mch t) s.2.2.1 s.2.2.2.1 s.1 s.2.2.2.2.1 z) b1 := fun c => by
    refine IS2_sch _ Γ'.length b1 (Nat.le_refl _) o9 (fun B' C' o3 n3 d3 => ?_) c
    obtain ⟨c1, c2, c3⟩ := d3 B' C' rfl
    exact Or.inl (few Γ' B' C' o3 (Nat.le_trans (n3 t0 n1 s2 h _) q) c1 c2 c3)
  rcases app_cut Δ1 Δ' e' with m | ⟨m1, m2⟩ | m
  · exact Or.inr (Or.inr (oth (hb1 b1 m)))
  · subst m1
    subst m2
    refine Or.inr (Or.inr (IS2_sch _ Γ'.length b1 (Nat.le_refl _) oB (fun B' C' o3 n3 d3 => ?_) iσ))
    rcases d3 with d3 | ⟨d4, d5, d6, d7⟩
    · rw [d3]
      exact Or.inl hA2
    · obtain ⟨c1, c2, c3⟩ := hbs B' C' d4 d5 d6
      exact Or.inl (few Γ' B' C' o3 (Nat.le_trans (n3 t0 n1 s2 h _) q) c1 c2 c3)
  · exact Or.inr (Or.inr (oth (hb0 b1 m)))
end PmHx
