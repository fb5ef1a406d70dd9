/-! SCHEMES OF THE BOUNDS BEFORE: worth no more than there (RESTW9). -/
theorem app_lt {b b1 : Ty} {Γ0 Γ' : List Ty} : ∀ (Δ1 Δ' : List Ty), cxs Δ1 Γ0 b = Δ' ++ b1 :: Γ' → b1 ∈ Δ1 ∨ (b1 = b ∧ Γ' = Γ0) ∨ ∃ Δ2, Γ0 = Δ2 ++ b1 :: Γ'
  | [], [], e => by
    have e : b :: Γ0 = b1 :: Γ' := e
    injection e with e1 e2
    exact Or.inr (Or.inl ⟨e1.symm, e2.symm⟩)
  | [], d :: Δ', e => by
    have e : b :: Γ0 = d :: (Δ' ++ b1 :: Γ') := e
    injection e with e1 e2
    exact Or.inr (Or.inr ⟨Δ', e2⟩)
  | a :: Δ1, [], e => by
    have e : a :: cxs Δ1 Γ0 b = b1 :: Γ' := e
    injection e with e1 e2
    exact Or.inl (by rw [← e1]; exact List.mem_cons_self ..)
  | a :: Δ1, d :: Δ', e => by
    have e : a :: cxs Δ1 Γ0 b = d :: (Δ' ++ b1 :: Γ') := e
    injection e with e1 e2
    rcases app_lt Δ1 Δ' e2 with h | h | h
    · exact Or.inl (List.mem_cons_of_mem _ h)
    · exact Or.inr (Or.inl h)
    · exact Or.inr (Or.inr h)
theorem onz_at {t0 s2 : Nat} {n1 h : Nat → Nat} : ∀ (Δ2 : List Ty) (b1 : Ty) (Γ' : List Ty), vw (onz t0 n1 s2 h (Δ2 ++ b1 :: Γ')) Γ'.length = h (nz t0 n1 s2 h (onz t0 n1 s2 h Γ') b1)
  | [], b1, Γ' => by
    show vw (h (nz t0 n1 s2 h (onz t0 n1 s2 h Γ') b1) :: onz t0 n1 s2 h Γ') Γ'.length = _
    rw [vw_cons, onz_len, if_pos rfl]
  | a :: Δ2, b1, Γ' => by
    show vw (h (nz t0 n1 s2 h (onz t0 n1 s2 h (Δ2 ++ b1 :: Γ')) a) :: onz t0 n1 s2 h (Δ2 ++ b1 :: Γ')) Γ'.length = _
    rw [vw_cons, onz_len, if_neg (by rw [List.length_append, List.length_cons]; omega)]
    exact onz_at Δ2 b1 Γ'
section PmHqn
variable {t0 fn s2 hv r0 r1 r2 r3 x0 : Nat} {n1 h : Nat → Nat} {P Q : List (List Nat)} {F G W : FrT} {X : List Nat}
theorem gen_zjn (hn : NC t0 n1 s2 h) (hm : ∀ y y', y ≤ y' → h y ≤ h y') (hh : ∀ y δ, h (y + δ) ≤ h y + δ) (T : TBs 58 t0 fn s2 hv r0 r1 r2 r3 x0 n1 h P Q F G X) (hFm : frm F = true) (hgr : fgc F W hv = true) (hWm : fgm W = true) (hW1 : fg1s W = true) (hW : (1, 0) ∈ frg W 0) (H1 : ∀ y, h y ≤ hv + max 1 y) (s21 : 1 ≤ s2) {f : Nat} {t S b b' B C : Ty} {Γ0 Δ1 : List Ty} {Δ : List (Nat × Ty × Nat)} {a5 ob ob0 cd Bd y1 κ wB : Nat} {v : Nat × Nat} (ds : DSp Γ0.length (tAll B C) b' b) (w : TWf f (cxs Δ1 Γ0 b).length (Δ.map (fun a => a.1)) t) (he : TE (cxs Δ1 Γ0 b) Δ) (cu : TNo f t) (hΔ1 : Δ.length ≤ 1) (hm30 : mch t ≤ 30) (hdc : dch Δ ≤ cd) (hcd : cd ≤ 56) (a55 : a5 ≤ 5) (ha5 : Δ ≠ [] → a5 = 0) (hb0 : ∀ a ∈ Γ0, OBs ob0 a) (hb1 : ∀ a ∈ Δ1, OBs ob a) (hbs : ∀ B' C', ok Γ0.length (tAll B' C') = true → tch C' ≤ tch C → tch (tAll B' C') + tch (tAll B C) + 5 ≤ tch b → tch C' ≤ 40 ∧ lmx xr1 (tch C') ≤ ob ∧ lmx fr1 (tch C') ≤ ob) (q38 : cch Δ1 ≤ 38) (q56 : cch Γ0 ≤ 56) (e1 : max x0 (X.getD (cch Γ0) 0) ≤ y1) (hκ : nz t0 n1 s2 h (onz t0 n1 s2 h Γ0) b' ≤ κ) (hwB : h (nz t0 n1 s2 h (onz t0 n1 s2 h Γ0) B) ≤ wB) (hv1 : xt (Γ0.length + 1) C ≤ v.1) (hv2 : xa t0 n1 s2 hv (Γ0.length + 1) C ≤ v.2) (go : ∀ E Z, AQh t0 n1 s2 h E Z f t [] (onz t0 n1 s2 h (cxs Δ1 Γ0 b)) → HEk t0 n1 s2 h E (cxs Δ1 Γ0 b) (onz t0 n1 s2 h (cxs Δ1 Γ0 b)) → GOk t0 n1 s2 h E f t [] (onz t0 n1 s2 h (cxs Δ1 Γ0 b)) (cxs Δ1 Γ0 b) Δ) (hT : ∀ p, p ≤ v.1 → ∀ u ∈ frg W (cch Δ1), ∃ s : T6, (TiD hv s2 κ wB y1 ob (tch C) p v u s ∧ ∃ w0 ∈ frg F s.2.2.2.2.2, ob + 1 ≤ w0.1) ∧ (y1 ≤ s.2.2.1 ∧ ob0 ≤ s.2.2.2.1 ∧ ∃ w0 ∈ frg F s.2.2.2.2.2, ob0 + 1 ≤ w0.1) ∧ dpDo F W a5 hv fn s2 r0 r1 r2 r3 s.2.2.1 s.2.2.2.1 s.1 s.2.2.2.2.1 s.2.2.2.2.2 s.1 cd (mch t) ≤ Bd) (hS : tyF f t (cxs Δ1 Γ0 b) Δ = .inr S) : nz t0 n1 s2 h (onz t0 n1 s2 h (cxs Δ1 Γ0 b)) S ≤ Bd := by
  obtain ⟨oc0, oB⟩ := okc_low Δ1 he.1
  obtain ⟨ob', oσ, cσ, nσ, iσ⟩ := ds
  have oC := (ok_all.mp oσ).2
  have l0 := onz_len t0 n1 s2 h Γ0
  have l1 := onz_len t0 n1 s2 h (cxs Δ1 Γ0 b)
  have x01 : x0 ≤ y1 := Nat.le_trans (Nat.le_max_left _ _) e1
  have hω : ∀ j, j < (onz t0 n1 s2 h Γ0).length → vw (onz t0 n1 s2 h Γ0) j ≤ y1 := fun j hj => Nat.le_trans (onz_chars T.1 T.2.1 T.2.2.1 T.2.2.2.1 T.2.2.2.2.1 Γ0 oc0 q56 j (by rw [l0] at hj; exact hj)) (Nat.le_trans (Nat.le_max_right _ _) e1)
  rw [xt_xo] at hv1
  have vC : ∀ z, nz t0 n1 s2 h (z :: onz t0 n1 s2 h Γ0) C ≤ v.2 + (v.1 - xf (Γ0.length + 1) Γ0.length C) * y1 + xf (Γ0.length + 1) Γ0.length C * z := by
    intro z
    have q := nz_xo (t0 := t0) (n1 := n1) (s2 := s2) H1 (t := C) (ω := onz t0 n1 s2 h Γ0) (z := z) (by rw [l0]; exact oC) hω
    rw [l0] at q
    have q2 := Nat.mul_le_mul_right y1 (show xo Γ0.length C ≤ v.1 - xf (Γ0.length + 1) Γ0.length C by omega)
    omega
  have hp : xf (Γ0.length + 1) Γ0.length C ≤ v.1 := by omega
  generalize xf (Γ0.length + 1) Γ0.length C = p at *
  have vA : nz t0 n1 s2 h (onz t0 n1 s2 h Γ0) (tAll B C) ≤ s2 + (v.2 + (v.1 - p) * y1 + p * wB) := by
    rw [nz_all]
    have q := vC (h (nz t0 n1 s2 h (onz t0 n1 s2 h Γ0) B))
    have q2 := Nat.mul_le_mul_left p hwB
    omega
  have vZ : ∀ z, nz t0 n1 s2 h (hzx h z (nz t0 n1 s2 h (onz t0 n1 s2 h Γ0) B) :: onz t0 n1 s2 h Γ0) C ≤ v.2 + (v.1 - p) * y1 + p * max z wB := by
    intro z
    have q := vC (hzx h z (nz t0 n1 s2 h (onz t0 n1 s2 h Γ0) B))
    have q2 : hzx h z (nz t0 n1 s2 h (onz t0 n1 s2 h Γ0) B) ≤ max z wB := by
      unfold hzx
      omega
    have q3 := Nat.mul_le_mul_left p q2
    omega
  have vb : nz t0 n1 s2 h (onz t0 n1 s2 h Γ0) b ≤ κ + (s2 + (v.2 + (v.1 - p) * y1 + p * wB)) := by
    have := nσ t0 n1 s2 h (onz t0 n1 s2 h Γ0)
    omega
  have EA1 : 1 ≤ κ + (s2 + (v.2 + (v.1 - p) * y1 + p * wB)) := by omega
  have h0' : ∀ j, j < (b :: Γ0).length → vw (onz t0 n1 s2 h (b :: Γ0)) j ≤ max y1 (hv + (κ + (s2 + (v.2 + (v.1 - p) * y1 + p * wB)))) := by
    intro j hj
    show vw (h (nz t0 n1 s2 h (onz t0 n1 s2 h Γ0) b) :: onz t0 n1 s2 h Γ0) j ≤ _
    rw [vw_cons, l0]
    by_cases e : j = Γ0.length
    · rw [if_pos e]
      have := H1 (nz t0 n1 s2 h (onz t0 n1 s2 h Γ0) b)
      omega
    · rw [if_neg e]
      rw [List.length_cons] at hj
      exact Nat.le_trans (hω j (by rw [l0]; omega)) (Nat.le_max_left _ _)
  obtain ⟨u, hu, u1, hw⟩ := onz_gr T hgr hW (Nat.le_trans x01 (Nat.le_max_left _ _)) h0' Δ1 he.1 q38
  obtain ⟨s, ⟨⟨k1, k2, k3, k4, k5, k6, k7⟩, k8⟩, ⟨j1, j2, j3⟩, R⟩ := hT p hp u hu
  have hw' : ∀ j, j < (cxs Δ1 Γ0 b).length → vw (onz t0 n1 s2 h (cxs Δ1 Γ0 b)) j ≤ s.1 := fun j hj => Nat.le_trans (hw j hj) k1
  have y01 : x0 ≤ s.1 := by
    have a1 := Nat.mul_le_mul_right (max y1 (hv + (κ + (s2 + (v.2 + (v.1 - p) * y1 + p * wB))))) u1
    have a2 := Nat.le_max_left y1 (hv + (κ + (s2 + (v.2 + (v.1 - p) * y1 + p * wB))))
    omega
  have hA2 : HS2 t0 n1 s2 h (ebw F W hv s.1 cd (mch t) s.2.2.1 s.2.2.2.1 s.1 s.2.2.2.2.1) (e2w F W hv s.1 cd (mch t) s.2.2.2.2.2) (onz t0 n1 s2 h Γ0) (tAll B C) := by
    refine ⟨B, C, rfl, fun z => ?_, fun z => ?_⟩
    · refine Nat.le_trans (vZ z) ?_
      have a1 : p * max z wB ≤ s.2.2.2.1 * max z s.1 := Nat.mul_le_mul k3 (by omega)
      unfold ebw
      exact le_mx (Or.inl (le_mx (Or.inl (by omega))))
    · have q4 := Zx_leh T (x := max z s.1) (z := z) (ω := hzx h z (nz t0 n1 s2 h (onz t0 n1 s2 h Γ0) B) :: onz t0 n1 s2 h Γ0) (A := C) (by rw [List.length_cons, l0]; exact oC) (by omega) (by omega) (by omega) (fun j hj => by
        rw [vw_cons]
        by_cases e : j = (onz t0 n1 s2 h Γ0).length
        · rw [if_pos e]
          unfold hzx
          omega
        · rw [if_neg e]
          rw [List.length_cons] at hj
          have q := onz_low (t0 := t0) (n1 := n1) (s2 := s2) (h := h) (Γ0 := Γ0) (β := b) Δ1 (j := j) (by rw [l0] at hj e; omega)
          have q2 := hw' j (by rw [cxs_len]; rw [l0] at hj e; omega)
          rw [q] at q2
          omega)
      have q5 := Zx_ms hFm (x := max z s.1) (s := tch C + 2) (s' := s.2.2.2.2.2 + 2) (by omega) (by omega)
      unfold e2w
      exact le_mx (Or.inl (Nat.le_trans q4 q5))
  have few : ∀ (Γ' : List Ty) (B' C' : Ty), ok Γ'.length (tAll B' C') = true → nz t0 n1 s2 h (onz t0 n1 s2 h Γ') (tAll B' C') ≤ s.1 → tch C' ≤ 40 → lmx xr1 (tch C') ≤ ob → lmx fr1 (tch C') ≤ ob → HS2 t0 n1 s2 h (ebw F W hv s.1 cd (mch t) s.2.2.1 s.2.2.2.1 s.1 s.2.2.2.2.1) (e2w F W hv s.1 cd (mch t) s.2.2.2.2.2) (onz t0 n1 s2 h Γ') (tAll B' C') := by
    intro Γ' B' C' o' q c1 c2 c3
    have l2 := onz_len t0 n1 s2 h Γ'
    have oC' := (ok_all.mp o').2
    refine ⟨B', C', rfl, fun z => ?_, fun z => ?_⟩
    · have a1 := sch_rse (t0 := t0) (n1 := n1) (s2 := s2) hm hh (B := B') (C := C') (ω := onz t0 n1 s2 h Γ') (by rw [l2]; exact o') z
      rw [l2] at a1
      have a2 := Nat.mul_le_mul_right z (Nat.le_trans (xf_lx oC' (by omega)) (Nat.le_trans c2 k4))
      unfold ebw
      omega
    · have q4 := nz_flv (t0 := t0) (n1 := n1) (s2 := s2) hm hh (z := z) _ C' (h (nz t0 n1 s2 h (onz t0 n1 s2 h Γ') B') :: onz t0 n1 s2 h Γ') (hzx h z (nz t0 n1 s2 h (onz t0 n1 s2 h Γ') B') :: onz t0 n1 s2 h Γ') z (Nat.le_refl _) (by rw [List.length_cons, List.length_cons]) (by rw [List.length_cons, l2]; exact oC') (Nat.le_refl _) (fun j hj => by
        rw [vw_cons, vw_cons]
        by_cases e : j = (onz t0 n1 s2 h Γ').length
        · rw [if_pos e, if_pos e]
          unfold hzx
          omega
        · rw [if_neg e, if_neg e]
          omega)
      obtain ⟨w0, hw0, hw1⟩ := k8
      have q5 := Zx_mem (x := max z s.1) (frg F s.2.2.2.2.2) w0 hw0
      have q6 : (frg F s.2.2.2.2.2).foldr (fun u a => max (u.2 + u.1 * max z s.1) a) 0 = Zx F (max z s.1) (s.2.2.2.2.2 + 2) := rfl
      rw [q6] at q5
      have q7 : (flv C' + 1) * max z s.1 ≤ w0.1 * max z s.1 := Nat.mul_le_mul_right _ (by have := flv_lmx oC' (Nat.le_refl _) (by omega); omega)
      have q8 : flv C' * z ≤ flv C' * max z s.1 := Nat.mul_le_mul_left _ (Nat.le_max_left _ _)
      have q9 := Nat.le_max_right z s.1
      rw [Nat.add_mul, Nat.one_mul] at q7
      rw [nz_all] at q
      unfold e2w
      exact le_mx (Or.inl (by omega))
  have few0 : ∀ (Γ' : List Ty) (B' C' : Ty), ok Γ'.length (tAll B' C') = true → nz t0 n1 s2 h (onz t0 n1 s2 h Γ') (tAll B' C') ≤ y1 → tch C' ≤ 40 → lmx xr1 (tch C') ≤ ob0 → lmx fr1 (tch C') ≤ ob0 → HS2 t0 n1 s2 h (ebw F W hv s.1 cd (mch t) s.2.2.1 s.2.2.2.1 s.1 s.2.2.2.2.1) (e2w F W hv s.1 cd (mch t) s.2.2.2.2.2) (onz t0 n1 s2 h Γ') (tAll B' C') := by
    intro Γ' B' C' o' q c1 c2 c3
    have l2 := onz_len t0 n1 s2 h Γ'
    have oC' := (ok_all.mp o').2
    refine ⟨B', C', rfl, fun z => ?_, fun z => ?_⟩
    · have a1 := sch_rse (t0 := t0) (n1 := n1) (s2 := s2) hm hh (B := B') (C := C') (ω := onz t0 n1 s2 h Γ') (by rw [l2]; exact o') z
      rw [l2] at a1
      have a2 := Nat.mul_le_mul_right z (Nat.le_trans (xf_lx oC' (by omega)) (Nat.le_trans c2 j2))
      have a3 := Nat.mul_le_mul_left s.2.2.2.1 (Nat.le_max_left z s.1)
      unfold ebw
      exact le_mx (Or.inl (le_mx (Or.inl (by omega))))
    · have q4 := nz_flv (t0 := t0) (n1 := n1) (s2 := s2) hm hh (z := z) _ C' (h (nz t0 n1 s2 h (onz t0 n1 s2 h Γ') B') :: onz t0 n1 s2 h Γ') (hzx h z (nz t0 n1 s2 h (onz t0 n1 s2 h Γ') B') :: onz t0 n1 s2 h Γ') z (Nat.le_refl _) (by rw [List.length_cons, List.length_cons]) (by rw [List.length_cons, l2]; exact oC') (Nat.le_refl _) (fun j hj => by
        rw [vw_cons, vw_cons]
        by_cases e : j = (onz t0 n1 s2 h Γ').length
        · rw [if_pos e, if_pos e]
          unfold hzx
          omega
        · rw [if_neg e, if_neg e]
          omega)
      obtain ⟨w0, hw0, hw1⟩ := j3
      have q5 := Zx_mem (x := max z s.1) (frg F s.2.2.2.2.2) w0 hw0
      have q6 : (frg F s.2.2.2.2.2).foldr (fun u a => max (u.2 + u.1 * max z s.1) a) 0 = Zx F (max z s.1) (s.2.2.2.2.2 + 2) := rfl
      rw [q6] at q5
      have q7 : (flv C' + 1) * max z s.1 ≤ w0.1 * max z s.1 := Nat.mul_le_mul_right _ (by have := flv_lmx oC' (Nat.le_refl _) (by omega); omega)
      have q8 : flv C' * z ≤ flv C' * max z s.1 := Nat.mul_le_mul_left _ (Nat.le_max_left _ _)
      have q9 := Nat.le_max_right z s.1
      rw [Nat.add_mul, Nat.one_mul] at q7
      have yy : y1 ≤ s.1 := by
        have a1 := Nat.mul_le_mul_right (max y1 (hv + (κ + (s2 + (v.2 + (v.1 - p) * y1 + p * wB))))) u1
        have a2 := Nat.le_max_left y1 (hv + (κ + (s2 + (v.2 + (v.1 - p) * y1 + p * wB))))
        omega
      rw [nz_all] at q
      unfold e2w
      exact le_mx (Or.inl (by omega))
  refine gen_fin6o (a5 := a5) (cd := cd) (wB := s.1) (E0 := s.2.2.1) (p := s.2.2.2.1) (ob := s.2.2.2.2.1) (k := s.2.2.2.2.2) (y := s.1) hn hm T hFm hgr hWm hW1 hW H1 w he l1 cu hΔ1 hm30 hdc hcd a55 ha5 y01 (fun j hj => hw' j (by rw [l1] at hj; exact hj)) (HE_sfy ebw_mono e2w_mono hm hh hn (Nat.le_max_left _ _) he.1 hw' (fun Δ' b1 Γ' e' o9 w9 q => ?_)) go R hS
  have oth : OBs ob b1 → IS2 (fun s' => HS2 t0 n1 s2 h (ebw F W hv s.1 cd (mch t) s.2.2.1 s.2.2.2.1 s.1 s.2.2.2.2.1) (e2w F W hv s.1 cd (mch t) s.2.2.2.2.2) (onz t0 n1 s2 h Γ') s' ∨ ∀ z, nz t0 n1 s2 h (onz t0 n1 s2 h Γ') s' + flv s' * z ≤ ebw F W hv s.1 cd (mch t) s.2.2.1 s.2.2.2.1 s.1 s.2.2.2.2.1 z) b1 := fun c => by
    refine IS2_sch _ Γ'.length b1 (Nat.le_refl _) o9 (fun B' C' o3 n3 d3 => ?_) c
    obtain ⟨c1, c2, c3⟩ := d3 B' C' rfl
    exact Or.inl (few Γ' B' C' o3 (Nat.le_trans (n3 t0 n1 s2 h _) q) c1 c2 c3)
  rcases app_lt Δ1 Δ' e' with m | ⟨m1, m2⟩ | m
  · exact Or.inr (Or.inr (oth (hb1 b1 m)))
  · subst m1
    subst m2
    refine Or.inr (Or.inr (IS2_sch _ Γ'.length b1 (Nat.le_refl _) oB (fun B' C' o3 n3 d3 => ?_) iσ))
    rcases d3 with d3 | ⟨d4, d5, d6, d7⟩
    · rw [d3]
      exact Or.inl hA2
    · obtain ⟨c1, c2, c3⟩ := hbs B' C' d4 d5 d6
      exact Or.inl (few Γ' B' C' o3 (Nat.le_trans (n3 t0 n1 s2 h _) q) c1 c2 c3)
  · have low : nz t0 n1 s2 h (onz t0 n1 s2 h Γ') b1 ≤ y1 := by
      obtain ⟨Δ2, e2⟩ := m
      have q1 := hω Γ'.length (by rw [l0, e2, List.length_append, List.length_cons]; omega)
      rw [e2] at q1
      have q2 : vw (onz t0 n1 s2 h (Δ2 ++ b1 :: Γ')) Γ'.length = h (nz t0 n1 s2 h (onz t0 n1 s2 h Γ') b1) := onz_at Δ2 b1 Γ'
      rw [q2] at q1
      exact Nat.le_trans (hn.2.2.1 _) q1
    refine Or.inr (Or.inr (IS2_sch _ Γ'.length b1 (Nat.le_refl _) o9 (fun B' C' o3 n3 d3 => ?_) (hb0 b1 (by obtain ⟨Δ2, e2⟩ := m; rw [e2]; simp))))
    obtain ⟨c1, c2, c3⟩ := d3 B' C' rfl
    exact Or.inl (few0 Γ' B' C' o3 (Nat.le_trans (n3 t0 n1 s2 h _) low) c1 c2 c3)
end PmHqn
def lizn (L : LnT) (XR F W : FrT) (hv s2 κ wB y1 ob k q2 c : Nat) : Bool := (frg XR k).all (fun v => (List.range (v.1 + 1)).all (fun p => (frg W q2).all (fun u => (lng L c).any (fun s => lsz F hv s2 κ wB y1 0 k v u p s && (Nat.ble y1 s.2.2.1 && (Nat.ble ob s.2.2.2.1 && (frg F s.2.2.2.2.2).any (fun w0 => Nat.ble (ob + 1) w0.1)))))))
theorem lizn_get {L : LnT} {XR F W : FrT} {hv s2 κ wB y1 ob k q2 c : Nat} (h : lizn L XR F W hv s2 κ wB y1 ob k q2 c = true) : ∀ v ∈ frg XR k, ∀ p, p ≤ v.1 → ∀ u ∈ frg W q2, ∃ s : T6, s ∈ lng L c ∧ (TiD hv s2 κ wB y1 0 k p v u s ∧ ∃ w0 ∈ frg F s.2.2.2.2.2, 0 + 1 ≤ w0.1) ∧ (y1 ≤ s.2.2.1 ∧ ob ≤ s.2.2.2.1 ∧ ∃ w0 ∈ frg F s.2.2.2.2.2, ob + 1 ≤ w0.1) := by
  intro v hv p hp u hu
  have q := List.all_eq_true.mp (rng_all (List.all_eq_true.mp h v hv) (i := p) (by omega)) u hu
  obtain ⟨s, hs, q⟩ := List.any_eq_true.mp q
  rw [Bool.and_eq_true, Bool.and_eq_true, Bool.and_eq_true] at q
  obtain ⟨q1, q2, q3, q4⟩ := q
  obtain ⟨w0, w1, w2⟩ := List.any_eq_true.mp q4
  refine ⟨s, hs, ?_, Nat.le_of_ble_eq_true q2, Nat.le_of_ble_eq_true q3, w0, w1, Nat.le_of_ble_eq_true w2⟩
  unfold lsz at q1
  rw [Bool.and_eq_true, Bool.and_eq_true, Bool.and_eq_true, Bool.and_eq_true, Bool.and_eq_true, Bool.and_eq_true, Bool.and_eq_true] at q1
  obtain ⟨r1, r2, r3, r4, r5, r6, r7, r8⟩ := q1
  obtain ⟨x0, y0, y1'⟩ := List.any_eq_true.mp r8
  exact ⟨⟨Nat.le_of_ble_eq_true r1, Nat.le_of_ble_eq_true r2, Nat.le_of_ble_eq_true r3, Nat.le_of_ble_eq_true r4, Nat.le_of_ble_eq_true r5, Nat.le_of_ble_eq_true r6, Nat.le_of_ble_eq_true r7⟩, x0, y0, Nat.le_of_ble_eq_true y1'⟩
section PmHxn
variable {f : Nat} {t b b' B C : Ty} {Γ0 Δ1 : List Ty} {Δ : List (Nat × Ty × Nat)} {e : Bool} {LR LG : LnT} {cd : Nat}
theorem zone_jn {VR VG : FrT} (fR : ∃ v ∈ frg VR (tch C), xt (Γ0.length + 1) C ≤ v.1 ∧ xa 0 (fun _ => 1 + 1) 3 1 (Γ0.length + 1) C ≤ v.2) (fG : ∃ v ∈ frg VG (tch C), xt (Γ0.length + 1) C ≤ v.1 ∧ xa 1 ngc 1 0 (Γ0.length + 1) C ≤ v.2) (lb : LBd Γ0 Δ1 b b' B C) (w : TWf f (cxs Δ1 Γ0 b).length (Δ.map (fun a => a.1)) t) (he : TE (cxs Δ1 Γ0 b) Δ) (hΔ : (e = true ∧ Δ = []) ∨ (e = false ∧ Δ ≠ [])) (cu : TNo f t) (hΔ1 : Δ.length ≤ 1) (ch : CHo f t []) (zR : lizn LR VR fr1 fg1 1 3 (kpz fr1 0 (max 1 (fx1.getD (cch Γ0) 0)) (tch b - tch (tAll B C))) (wbz fr1 1 (max 1 (fx1.getD (cch Γ0) 0)) (tch B)) (max 1 (fx1.getD (cch Γ0) 0)) (ojy (tch C) (tch b - tch (tAll B C)) (cch Γ0) (cch Δ1)) (tch C) (cch Δ1) 0 = true) (zG : lizn LG VG frq fgq 0 1 (kpz frq 1 (max 1 (fxq.getD (cch Γ0) 0)) (tch b - tch (tAll B C))) (wbz frq 0 (max 1 (fxq.getD (cch Γ0) 0)) (tch B)) (max 1 (fxq.getD (cch Γ0) 0)) (ojy (tch C) (tch b - tch (tAll B C)) (cch Γ0) (cch Δ1)) (tch C) (cch Δ1) 0 = true) (tR : lno e LR fr1 fg1 1 2 3 2 2 2 2 887 cd (mch t) = true) (tG : lno e LG frq fgq 0 1 1 1 3 2 1 597 cd (mch t) = true) (m30 : mch t ≤ 30) (cd56 : cd ≤ 56) (h47 : cch (cxs Δ1 Γ0 b) ≤ 47) (nΔ1 : Δ1 = []) (o5 : tch b - tch (tAll B C) ≤ 5) (q38 : cch Δ1 ≤ 38) (hb : dch Δ ≤ cd) : NtV (cxs Δ1 Γ0 b) Δ f t 887 597 := by
  obtain ⟨ds, eT, eB, k40, i0, i1⟩ := lb
  obtain ⟨oc0, oB⟩ := okc_low Δ1 he.1
  have ec := cch_cx (Γ0 := Γ0) (β := b) Δ1
  have oσ := ds.2.1
  have oBB := (ok_all.mp oσ).1
  have oC := (ok_all.mp oσ).2
  have pB := tch_pos oBB
  have pC := tch_pos oC
  have cσ := ds.ch
  have pb' := ds.2.2.1
  have eσ := tch_all B C
  have b0 : ∀ a ∈ Γ0, OBs (ojy (tch C) (tch b - tch (tAll B C)) (cch Γ0) (cch Δ1)) a := fun a ha => by
    obtain ⟨d, o1, o2⟩ := okc_mch oc0 ha
    exact OBs_of o1 o2 k40 (i0 a ha) (Nat.le_max_left _ _)
  have b1 : ∀ a ∈ Δ1, OBs 0 a := fun a ha => by rw [nΔ1] at ha; cases ha
  have bs : ∀ B' C', ok Γ0.length (tAll B' C') = true → tch C' ≤ tch C → tch (tAll B' C') + tch (tAll B C) + 5 ≤ tch b → tch C' ≤ 40 ∧ lmx xr1 (tch C') ≤ 0 ∧ lmx fr1 (tch C') ≤ 0 := by
    intro B' C' o' l1 l2
    exfalso
    have p1 := tch_pos o'
    omega
  have hch : CHo f t (([] : Stk).map Option.isSome) := ch
  refine fun S hS => ⟨fun d => ?_, ?_⟩
  · have T := tbs1 d
    have l0 := onz_len 0 (fun _ => 1 + 1) (2 + 1) (vlr d 1) Γ0
    have hω : ∀ j, j < (onz 0 (fun _ => 1 + 1) (2 + 1) (vlr d 1) Γ0).length → vw (onz 0 (fun _ => 1 + 1) (2 + 1) (vlr d 1) Γ0) j ≤ max 1 (fx1.getD (cch Γ0) 0) := fun j hj => Nat.le_trans (onz_chars (n1 := fun _ => 1 + 1) T.1 T.2.1 T.2.2.1 T.2.2.2.1 T.2.2.2.2.1 Γ0 oc0 (by omega) j (by rw [l0] at hj; exact hj)) (Nat.le_max_right _ _)
    obtain ⟨v, hv, f1, f2⟩ := fR
    have hκ : nz 0 (fun _ => 1 + 1) (2 + 1) (vlr d 1) (onz 0 (fun _ => 1 + 1) (2 + 1) (vlr d 1) Γ0) b' ≤ kpz fr1 0 (max 1 (fx1.getD (cch Γ0) 0)) (tch b - tch (tAll B C)) := by
      unfold kpz
      by_cases q : tch b - tch (tAll B C) = 0
      · rw [if_pos (show Nat.beq (tch b - tch (tAll B C)) 0 = true by rw [q]; rfl)]
        rw [eT (by omega), nz_top]
        exact Nat.le_refl _
      · rw [if_neg (by intro q'; exact q (Nat.eq_of_beq_eq_true q'))]
        exact Nat.le_trans (Zx_le T (x := max 1 (fx1.getD (cch Γ0) 0)) (A := b') (by rw [l0]; exact ds.1) (by omega) (Nat.le_max_left _ _) hω) (Zx_ms fr1_m (by omega) (by omega))
    have hwB : vlr d 1 (nz 0 (fun _ => 1 + 1) (2 + 1) (vlr d 1) (onz 0 (fun _ => 1 + 1) (2 + 1) (vlr d 1) Γ0) B) ≤ wbz fr1 1 (max 1 (fx1.getD (cch Γ0) 0)) (tch B) := by
      have q2 := vlr_one d (nz 0 (fun _ => 1 + 1) (2 + 1) (vlr d 1) (onz 0 (fun _ => 1 + 1) (2 + 1) (vlr d 1) Γ0) B)
      unfold wbz
      by_cases q : tch B = 1
      · rw [if_pos (show Nat.beq (tch B) 1 = true by rw [q]; rfl)]
        rw [eB q, nz_top] at q2 ⊢
        omega
      · rw [if_neg (by intro q'; exact q (Nat.eq_of_beq_eq_true q'))]
        have q3 : nz 0 (fun _ => 1 + 1) (2 + 1) (vlr d 1) (onz 0 (fun _ => 1 + 1) (2 + 1) (vlr d 1) Γ0) B ≤ Zx fr1 (max 1 (fx1.getD (cch Γ0) 0)) (tch B + 2) := Zx_le T (by rw [l0]; exact oBB) (by omega) (Nat.le_max_left _ _) hω
        generalize nz 0 (fun _ => 1 + 1) (2 + 1) (vlr d 1) (onz 0 (fun _ => 1 + 1) (2 + 1) (vlr d 1) Γ0) B = n9 at *
        generalize Zx fr1 (max 1 (fx1.getD (cch Γ0) 0)) (tch B + 2) = z9 at *
        omega
    rcases hΔ with ⟨ee, cΔ⟩ | ⟨ee, cΔ⟩
    · refine gen_zjn (ob := 0) (a5 := 5) (cd := 0) (NC_rows d 1) (vlr_mono d 1) (vlr_lip d 1) T fr1_m fg1_ok fg1_m fg1s_1 (by decide) (vlr_one d) (by decide) ds w he cu hΔ1 (by omega) (by rw [cΔ]; exact Nat.le_refl _) (Nat.zero_le _) (Nat.le_refl _) (fun e => absurd cΔ e) b0 b1 bs q38 (by omega) (Nat.le_refl _) hκ hwB f1 f2 (fun E Z aq hE => GH_natc (E := E) (Z := Z) (NC_rows d 1) (vlr_mono d 1) f t [] _ _ Δ w he hch aq (onz_cv (NC_rows d 1) he.1) hE) (fun p hp u hu => ?_) hS
      obtain ⟨s, m, q, q9⟩ := lizn_get zR v hv p hp u hu
      exact ⟨s, q, q9, (lno_get tR m).2 ee⟩
    · refine gen_zjn (ob := 0) (a5 := 0) (cd := cd) (NC_rows d 1) (vlr_mono d 1) (vlr_lip d 1) T fr1_m fg1_ok fg1_m fg1s_1 (by decide) (vlr_one d) (by decide) ds w he cu hΔ1 (by omega) (by omega) (by omega) (Nat.zero_le _) (fun _ => rfl) b0 b1 bs q38 (by omega) (Nat.le_refl _) hκ hwB f1 f2 (fun E Z aq hE => GH_natc (E := E) (Z := Z) (NC_rows d 1) (vlr_mono d 1) f t [] _ _ Δ w he hch aq (onz_cv (NC_rows d 1) he.1) hE) (fun p hp u hu => ?_) hS
      obtain ⟨s, m, q, q9⟩ := lizn_get zR v hv p hp u hu
      exact ⟨s, q, q9, (lno_get tR m).1 ee⟩
  · have T := tbsq
    have l0 := onz_len 1 ngc 1 (fun x => x) Γ0
    have hω : ∀ j, j < (onz 1 ngc 1 (fun x => x) Γ0).length → vw (onz 1 ngc 1 (fun x => x) Γ0) j ≤ max 1 (fxq.getD (cch Γ0) 0) := fun j hj => Nat.le_trans (onz_chars (n1 := ngc) T.1 T.2.1 T.2.2.1 T.2.2.2.1 T.2.2.2.2.1 Γ0 oc0 (by omega) j (by rw [l0] at hj; exact hj)) (Nat.le_max_right _ _)
    obtain ⟨v, hv, f1, f2⟩ := fG
    have hκ : nz 1 ngc 1 (fun x => x) (onz 1 ngc 1 (fun x => x) Γ0) b' ≤ kpz frq 1 (max 1 (fxq.getD (cch Γ0) 0)) (tch b - tch (tAll B C)) := by
      unfold kpz
      by_cases q : tch b - tch (tAll B C) = 0
      · rw [if_pos (show Nat.beq (tch b - tch (tAll B C)) 0 = true by rw [q]; rfl)]
        rw [eT (by omega), nz_top]
        exact Nat.le_refl _
      · rw [if_neg (by intro q'; exact q (Nat.eq_of_beq_eq_true q'))]
        exact Nat.le_trans (Zx_le T (x := max 1 (fxq.getD (cch Γ0) 0)) (A := b') (by rw [l0]; exact ds.1) (by omega) (Nat.le_max_left _ _) hω) (Zx_ms frq_m (by omega) (by omega))
    have hwB : (fun x : Nat => x) (nz 1 ngc 1 (fun x => x) (onz 1 ngc 1 (fun x => x) Γ0) B) ≤ wbz frq 0 (max 1 (fxq.getD (cch Γ0) 0)) (tch B) := by
      show nz 1 ngc 1 (fun x => x) (onz 1 ngc 1 (fun x => x) Γ0) B ≤ _
      unfold wbz
      by_cases q : tch B = 1
      · rw [if_pos (show Nat.beq (tch B) 1 = true by rw [q]; rfl)]
        rw [eB q, nz_top]
        omega
      · rw [if_neg (by intro q'; exact q (Nat.eq_of_beq_eq_true q'))]
        have q3 : nz 1 ngc 1 (fun x => x) (onz 1 ngc 1 (fun x => x) Γ0) B ≤ Zx frq (max 1 (fxq.getD (cch Γ0) 0)) (tch B + 2) := Zx_le T (by rw [l0]; exact oBB) (by omega) (Nat.le_max_left _ _) hω
        generalize nz 1 ngc 1 (fun x => x) (onz 1 ngc 1 (fun x => x) Γ0) B = n9 at *
        generalize Zx frq (max 1 (fxq.getD (cch Γ0) 0)) (tch B + 2) = z9 at *
        omega
    rcases hΔ with ⟨ee, cΔ⟩ | ⟨ee, cΔ⟩
    · refine gen_zjn (ob := 0) (a5 := 5) (cd := 0) NC_goals (fun y y' hy => hy) (fun y δ => Nat.le_refl _) T frq_m fgq_ok fgq_m fg1s_q (by decide) (fun y => by show y ≤ 0 + max 1 y; omega) (by decide) ds w he cu hΔ1 (by omega) (by rw [cΔ]; exact Nat.le_refl _) (Nat.zero_le _) (Nat.le_refl _) (fun e => absurd cΔ e) b0 b1 bs q38 (by omega) (Nat.le_refl _) hκ hwB f1 f2 (fun E Z aq hE => GH_natc (E := E) (Z := Z) NC_goals (fun y y' hy => hy) f t [] _ _ Δ w he hch aq (onz_cv NC_goals he.1) hE) (fun p hp u hu => ?_) hS
      obtain ⟨s, m, q, q9⟩ := lizn_get zG v hv p hp u hu
      exact ⟨s, q, q9, (lno_get tG m).2 ee⟩
    · refine gen_zjn (ob := 0) (a5 := 0) (cd := cd) NC_goals (fun y y' hy => hy) (fun y δ => Nat.le_refl _) T frq_m fgq_ok fgq_m fg1s_q (by decide) (fun y => by show y ≤ 0 + max 1 y; omega) (by decide) ds w he cu hΔ1 (by omega) (by omega) (by omega) (Nat.zero_le _) (fun _ => rfl) b0 b1 bs q38 (by omega) (Nat.le_refl _) hκ hwB f1 f2 (fun E Z aq hE => GH_natc (E := E) (Z := Z) NC_goals (fun y y' hy => hy) f t [] _ _ Δ w he hch aq (onz_cv NC_goals he.1) hE) (fun p hp u hu => ?_) hS
      obtain ⟨s, m, q, q9⟩ := lizn_get zG v hv p hp u hu
      exact ⟨s, q, q9, (lno_get tG m).1 ee⟩
end PmHxn
