/-! ONE NAME, choices anywhere: C = <W:T>D; ten characters where an instance is no Top-scheme: untypable. -/
def dm9 (F : FrT) (s2 d k : Nat) : Bool := !(frg F d).isEmpty && (frg F d).all (fun u => dom u.1 (s2 + u.2) (frg F k))
theorem dm9_le {F : FrT} {s2 d k : Nat} (h : dm9 F s2 d k = true) (x : Nat) : s2 + Zx F x (d + 2) ≤ Zx F x (k + 2) := by
  show s2 + (frg F d).foldr (fun u a => max (u.2 + u.1 * x) a) 0 ≤ (frg F k).foldr (fun u a => max (u.2 + u.1 * x) a) 0
  unfold dm9 at h
  rw [Bool.and_eq_true] at h
  obtain ⟨h0, h⟩ := h
  revert h
  generalize frg F k = K9
  intro h
  have key : ∀ l : List (Nat × Nat), l.all (fun u => dom u.1 (s2 + u.2) K9) = true → s2 + l.foldr (fun u a => max (u.2 + u.1 * x) a) 0 ≤ K9.foldr (fun u a => max (u.2 + u.1 * x) a) 0 ∨ l = [] := by
    intro l
    induction l with
    | nil => intro _; exact Or.inr rfl
    | cons a l ih =>
      intro hl
      rw [List.all_cons, Bool.and_eq_true] at hl
      left
      obtain ⟨v, hv, h1, h2⟩ := dom_ex hl.1
      have m := Zx_mem (x := x) K9 v hv
      have m1 := Nat.mul_le_mul_right x h1
      rw [List.foldr_cons]
      rcases ih hl.2 with q | q
      · omega
      · rw [q, List.foldr_nil]
        omega
  rcases key _ h with q | q
  · exact q
  · rw [q] at h0
    cases h0
def liz3 (L : LnT) (XR F W : FrT) (hv s2 κ wB y1 ob k k9 q2 c : Nat) : Bool := (frg XR k).all (fun v => (List.range (v.1 + 1)).all (fun p => (frg W q2).all (fun u => (lng L c).any (fun s => lsz F hv s2 κ wB y1 ob k9 v u p s))))
theorem liz3_get {L : LnT} {XR F W : FrT} {hv s2 κ wB y1 ob k k9 q2 c : Nat} (h : liz3 L XR F W hv s2 κ wB y1 ob k k9 q2 c = true) : ∀ v ∈ frg XR k, ∀ p, p ≤ v.1 → ∀ u ∈ frg W q2, ∃ s : T6, s ∈ lng L c ∧ TiD hv s2 κ wB y1 ob k9 p v u s ∧ ∃ w0 ∈ frg F s.2.2.2.2.2, ob + 1 ≤ w0.1 := by
  intro v hv p hp u hu
  unfold liz3 at h
  obtain ⟨s, hs, q⟩ := List.any_eq_true.mp (List.all_eq_true.mp (rng_all (List.all_eq_true.mp h v hv) (i := p) (by omega)) u hu)
  unfold lsz at q
  rw [Bool.and_eq_true, Bool.and_eq_true, Bool.and_eq_true, Bool.and_eq_true, Bool.and_eq_true, Bool.and_eq_true, Bool.and_eq_true] at q
  obtain ⟨q1, q2, q3, q4, q5, q6, q7, q8⟩ := q
  obtain ⟨w0, hw0, hw1⟩ := List.any_eq_true.mp q8
  exact ⟨s, hs, ⟨Nat.le_of_ble_eq_true q1, Nat.le_of_ble_eq_true q2, Nat.le_of_ble_eq_true q3, Nat.le_of_ble_eq_true q4, Nat.le_of_ble_eq_true q5, Nat.le_of_ble_eq_true q6, Nat.le_of_ble_eq_true q7⟩, w0, hw0, Nat.le_of_ble_eq_true hw1⟩
section PmZG1
variable {t0 fn s2 hv r0 r1 r2 r3 x0 : Nat} {n1 h : Nat → Nat} {P Q : List (List Nat)} {F G W : FrT} {X : List Nat}
theorem gen_zjqo3 (hn : NC t0 n1 s2 h) (hm : ∀ y y', y ≤ y' → h y ≤ h y') (hh : ∀ y δ, h (y + δ) ≤ h y + δ) (T : TBs 58 t0 fn s2 hv r0 r1 r2 r3 x0 n1 h P Q F G X) (hFm : frm F = true) (hgr : fgc F W hv = true) (hWm : fgm W = true) (hW1 : fg1s W = true) (hW : (1, 0) ∈ frg W 0) (H1 : ∀ y, h y ≤ hv + max 1 y) (s21 : 1 ≤ s2) {f : Nat} {t S b b' B C : Ty} {Γ0 Δ1 : List Ty} {Δ : List (Nat × Ty × Nat)} {a5 ob cd Bd y1 κ wB : Nat} {v : Nat × Nat} (ds : DSp Γ0.length (tAll B C) b' b) (w : TWf f (cxs Δ1 Γ0 b).length (Δ.map (fun a => a.1)) t) (he : TE (cxs Δ1 Γ0 b) Δ) (cu : TNo f t) (hΔ1 : Δ.length ≤ 1) (nD : Δ ≠ []) (hm30 : mch t ≤ 30) (hdc : dch Δ ≤ cd) (hcd : cd ≤ 56) (a55 : a5 ≤ 5) (ha5 : Δ ≠ [] → a5 = 0) (hb0 : ∀ a ∈ Γ0, OBs ob a) (hb1 : ∀ a ∈ Δ1, OBs ob a) (hbs : ∀ B' C', ok Γ0.length (tAll B' C') = true → tch C' ≤ tch C → tch (tAll B' C') + tch (tAll B C) + 5 ≤ tch b → tch C' ≤ 40 ∧ lmx xr1 (tch C') ≤ ob ∧ lmx fr1 (tch C') ≤ ob) (q38 : cch Δ1 ≤ 38) (q56 : cch Γ0 ≤ 56) (e1 : max x0 (X.getD (cch Γ0) 0) ≤ y1) (hκ : nz t0 n1 s2 h (onz t0 n1 s2 h Γ0) b' ≤ κ) (hwB : h (nz t0 n1 s2 h (onz t0 n1 s2 h Γ0) B) ≤ wB) (hv1 : xt (Γ0.length + 1) C ≤ v.1) (hv2 : xa t0 n1 s2 hv (Γ0.length + 1) C ≤ v.2) {K La : Nat} (hLK : La ≤ K) (K30 : K ≤ 30) (kB : tch B ≤ K) (kC : tch C ≤ K + 5) (kq1 : cch Γ0 ≤ K + 9) (kq2 : cch Δ1 ≤ K + 9) (kov : tch b ≤ tch (tAll B C) + K + 10) (kcd : dch Δ ≤ K + 9) (hM : mch t ≤ La + 8) (hM16 : mch t ≤ 16) (hLa : 13 ≤ mch t → 5 ≤ La) {D : Ty} {k9 : Nat} (ht01 : t0 ≤ 1) (eD9 : C = tAll tTop D) (hF9 : dm9 F s2 (tch D) k9 = true) (hT : ∀ p, p ≤ v.1 → ∀ u ∈ frg W (cch Δ1), ∃ s : T6, (TiD hv s2 κ wB y1 ob k9 p v u s ∧ ∃ w0 ∈ frg F s.2.2.2.2.2, ob + 1 ≤ w0.1) ∧ gqx F W hv K La s = true ∧ dpDo F W a5 hv fn s2 r0 r1 r2 r3 s.2.2.1 s.2.2.2.1 s.1 s.2.2.2.2.1 s.2.2.2.2.2 s.1 cd (mch t) ≤ Bd) (hS : tyF f t (cxs Δ1 Γ0 b) Δ = .inr S) : nz t0 n1 s2 h (onz t0 n1 s2 h (cxs Δ1 Γ0 b)) S ≤ Bd := by
  obtain ⟨oc0, oB⟩ := okc_low Δ1 he.1
  obtain ⟨ob', oσ, cσ, nσ, iσ⟩ := ds
  have oC := (ok_all.mp oσ).2
  have l0 := onz_len t0 n1 s2 h Γ0
  have l1 := onz_len t0 n1 s2 h (cxs Δ1 Γ0 b)
  have x01 : x0 ≤ y1 := Nat.le_trans (Nat.le_max_left _ _) e1
  have hω : ∀ j, j < (onz t0 n1 s2 h Γ0).length → vw (onz t0 n1 s2 h Γ0) j ≤ y1 := fun j hj => Nat.le_trans (onz_chars T.1 T.2.1 T.2.2.1 T.2.2.2.1 T.2.2.2.2.1 Γ0 oc0 q56 j (by rw [l0] at hj; exact hj)) (Nat.le_trans (Nat.le_max_right _ _) e1)
  rw [xt_xo] at hv1
  have vC : ∀ z, nz t0 n1 s2 h (z :: onz t0 n1 s2 h Γ0) C ≤ v.2 + (v.1 - xf (Γ0.length + 1) Γ0.length C) * y1 + xf (Γ0.length + 1) Γ0.length C * z := by
    intro z
    have q := nz_xo (t0 := t0) (n1 := n1) (s2 := s2) H1 (t := C) (ω := onz t0 n1 s2 h Γ0) (z := z) (by rw [l0]; exact oC) hω
    rw [l0] at q
    have q2 := Nat.mul_le_mul_right y1 (show xo Γ0.length C ≤ v.1 - xf (Γ0.length + 1) Γ0.length C by omega)
    omega
  have hp : xf (Γ0.length + 1) Γ0.length C ≤ v.1 := by omega
  generalize xf (Γ0.length + 1) Γ0.length C = p at *
  have vA : nz t0 n1 s2 h (onz t0 n1 s2 h Γ0) (tAll B C) ≤ s2 + (v.2 + (v.1 - p) * y1 + p * wB) := by
    rw [nz_all]
    have q := vC (h (nz t0 n1 s2 h (onz t0 n1 s2 h Γ0) B))
    have q2 := Nat.mul_le_mul_left p hwB
    omega
  have vZ : ∀ z, nz t0 n1 s2 h (hzx h z (nz t0 n1 s2 h (onz t0 n1 s2 h Γ0) B) :: onz t0 n1 s2 h Γ0) C ≤ v.2 + (v.1 - p) * y1 + p * max z wB := by
    intro z
    have q := vC (hzx h z (nz t0 n1 s2 h (onz t0 n1 s2 h Γ0) B))
    have q2 : hzx h z (nz t0 n1 s2 h (onz t0 n1 s2 h Γ0) B) ≤ max z wB := by
      unfold hzx
      omega
    have q3 := Nat.mul_le_mul_left p q2
    omega
  have vb : nz t0 n1 s2 h (onz t0 n1 s2 h Γ0) b ≤ κ + (s2 + (v.2 + (v.1 - p) * y1 + p * wB)) := by
    have := nσ t0 n1 s2 h (onz t0 n1 s2 h Γ0)
    omega
  have EA1 : 1 ≤ κ + (s2 + (v.2 + (v.1 - p) * y1 + p * wB)) := by omega
  have h0' : ∀ j, j < (b :: Γ0).length → vw (onz t0 n1 s2 h (b :: Γ0)) j ≤ max y1 (hv + (κ + (s2 + (v.2 + (v.1 - p) * y1 + p * wB)))) := by
    intro j hj
    show vw (h (nz t0 n1 s2 h (onz t0 n1 s2 h Γ0) b) :: onz t0 n1 s2 h Γ0) j ≤ _
    rw [vw_cons, l0]
    by_cases e : j = Γ0.length
    · rw [if_pos e]
      have := H1 (nz t0 n1 s2 h (onz t0 n1 s2 h Γ0) b)
      omega
    · rw [if_neg e]
      rw [List.length_cons] at hj
      exact Nat.le_trans (hω j (by rw [l0]; omega)) (Nat.le_max_left _ _)
  obtain ⟨u, hu, u1, hw⟩ := onz_gr T hgr hW (Nat.le_trans x01 (Nat.le_max_left _ _)) h0' Δ1 he.1 q38
  obtain ⟨s, ⟨⟨k1, k2, k3, k4, k5, k6, k7⟩, k8⟩, gq, R⟩ := hT p hp u hu
  have hw' : ∀ j, j < (cxs Δ1 Γ0 b).length → vw (onz t0 n1 s2 h (cxs Δ1 Γ0 b)) j ≤ s.1 := fun j hj => Nat.le_trans (hw j hj) k1
  have y01 : x0 ≤ s.1 := by
    have a1 := Nat.mul_le_mul_right (max y1 (hv + (κ + (s2 + (v.2 + (v.1 - p) * y1 + p * wB))))) u1
    have a2 := Nat.le_max_left y1 (hv + (κ + (s2 + (v.2 + (v.1 - p) * y1 + p * wB))))
    omega
  have hA2 : HS2 t0 n1 s2 h (ebw F W hv s.1 cd (mch t) s.2.2.1 s.2.2.2.1 s.1 s.2.2.2.2.1) (e2w F W hv s.1 cd (mch t) s.2.2.2.2.2) (onz t0 n1 s2 h Γ0) (tAll B C) := by
    refine ⟨B, C, rfl, fun z => ?_, fun z => ?_⟩
    · refine Nat.le_trans (vZ z) ?_
      have a1 : p * max z wB ≤ s.2.2.2.1 * max z s.1 := Nat.mul_le_mul k3 (by omega)
      unfold ebw
      exact le_mx (Or.inl (le_mx (Or.inl (by omega))))
    · have oD : ok (Γ0.length + 1 + 1) D = true := by
        have q := oC
        rw [eD9] at q
        exact (ok_all.mp q).2
      have dB : h (nz t0 n1 s2 h (onz t0 n1 s2 h Γ0) B) ≤ max z s.1 := by omega
      have hT1 : h t0 ≤ s.1 := by
        have q := H1 t0
        have a1 := Nat.mul_le_mul_right (max y1 (hv + (κ + (s2 + (v.2 + (v.1 - p) * y1 + p * wB))))) u1
        have a2 := Nat.le_max_right y1 (hv + (κ + (s2 + (v.2 + (v.1 - p) * y1 + p * wB))))
        omega
      have tD : tch D ≤ tch C := by
        rw [eD9, tch_all]
        omega
      have q4 := Zx_leh T (x := max z s.1) (z := z) (ω := hzx h z t0 :: hzx h z (nz t0 n1 s2 h (onz t0 n1 s2 h Γ0) B) :: onz t0 n1 s2 h Γ0) (A := D) (by rw [List.length_cons, List.length_cons, l0]; exact oD) (by omega) (by omega) (by omega) (fun j hj => by
        rw [vw_cons]
        by_cases e2 : j = (hzx h z (nz t0 n1 s2 h (onz t0 n1 s2 h Γ0) B) :: onz t0 n1 s2 h Γ0).length
        · rw [if_pos e2]
          exact Nat.max_le.mpr ⟨Nat.le_max_left _ _, Nat.le_trans hT1 (Nat.le_max_right _ _)⟩
        rw [if_neg e2]
        rw [List.length_cons, l0] at e2
        rw [List.length_cons] at hj
        rw [vw_cons]
        by_cases e : j = (onz t0 n1 s2 h Γ0).length
        · rw [if_pos e]
          exact Nat.max_le.mpr ⟨Nat.le_max_left _ _, dB⟩
        · rw [if_neg e]
          rw [List.length_cons] at hj
          have q := onz_low (t0 := t0) (n1 := n1) (s2 := s2) (h := h) (Γ0 := Γ0) (β := b) Δ1 (j := j) (by rw [l0] at hj e; omega)
          have q2 := hw' j (by rw [cxs_len]; rw [l0] at hj e; omega)
          rw [q] at q2
          omega)
      have q5 := Zx_ms hFm (x := max z s.1) (s := k9 + 2) (s' := s.2.2.2.2.2 + 2) (by omega) (by omega)
      have q6 := dm9_le hF9 (max z s.1)
      have q7 : nz t0 n1 s2 (hzx h z) (hzx h z (nz t0 n1 s2 h (onz t0 n1 s2 h Γ0) B) :: onz t0 n1 s2 h Γ0) C = s2 + nz t0 n1 s2 (hzx h z) (hzx h z t0 :: hzx h z (nz t0 n1 s2 h (onz t0 n1 s2 h Γ0) B) :: onz t0 n1 s2 h Γ0) D := by
        rw [eD9, nz_all, nz_top]
      unfold e2w
      refine le_mx (Or.inl ?_)
      rw [q7]
      omega
  have few : ∀ (Γ' : List Ty) (B' C' : Ty), ok Γ'.length (tAll B' C') = true → nz t0 n1 s2 h (onz t0 n1 s2 h Γ') (tAll B' C') ≤ s.1 → tch C' ≤ 40 → lmx xr1 (tch C') ≤ ob → lmx fr1 (tch C') ≤ ob → HS2 t0 n1 s2 h (ebw F W hv s.1 cd (mch t) s.2.2.1 s.2.2.2.1 s.1 s.2.2.2.2.1) (e2w F W hv s.1 cd (mch t) s.2.2.2.2.2) (onz t0 n1 s2 h Γ') (tAll B' C') := by
    intro Γ' B' C' o' q c1 c2 c3
    have l2 := onz_len t0 n1 s2 h Γ'
    have oC' := (ok_all.mp o').2
    refine ⟨B', C', rfl, fun z => ?_, fun z => ?_⟩
    · have a1 := sch_rse (t0 := t0) (n1 := n1) (s2 := s2) hm hh (B := B') (C := C') (ω := onz t0 n1 s2 h Γ') (by rw [l2]; exact o') z
      rw [l2] at a1
      have a2 := Nat.mul_le_mul_right z (Nat.le_trans (xf_lx oC' (by omega)) (Nat.le_trans c2 k4))
      unfold ebw
      omega
    · have q4 := nz_flv (t0 := t0) (n1 := n1) (s2 := s2) hm hh (z := z) _ C' (h (nz t0 n1 s2 h (onz t0 n1 s2 h Γ') B') :: onz t0 n1 s2 h Γ') (hzx h z (nz t0 n1 s2 h (onz t0 n1 s2 h Γ') B') :: onz t0 n1 s2 h Γ') z (Nat.le_refl _) (by rw [List.length_cons, List.length_cons]) (by rw [List.length_cons, l2]; exact oC') (Nat.le_refl _) (fun j hj => by
        rw [vw_cons, vw_cons]
        by_cases e : j = (onz t0 n1 s2 h Γ').length
        · rw [if_pos e, if_pos e]
          unfold hzx
          omega
        · rw [if_neg e, if_neg e]
          omega)
      obtain ⟨w0, hw0, hw1⟩ := k8
      have q5 := Zx_mem (x := max z s.1) (frg F s.2.2.2.2.2) w0 hw0
      have q6 : (frg F s.2.2.2.2.2).foldr (fun u a => max (u.2 + u.1 * max z s.1) a) 0 = Zx F (max z s.1) (s.2.2.2.2.2 + 2) := rfl
      rw [q6] at q5
      have q7 : (flv C' + 1) * max z s.1 ≤ w0.1 * max z s.1 := Nat.mul_le_mul_right _ (by have := flv_lmx oC' (Nat.le_refl _) (by omega); omega)
      have q8 : flv C' * z ≤ flv C' * max z s.1 := Nat.mul_le_mul_left _ (Nat.le_max_left _ _)
      have q9 := Nat.le_max_right z s.1
      rw [Nat.add_mul, Nat.one_mul] at q7
      rw [nz_all] at q
      unfold e2w
      exact le_mx (Or.inl (by omega))
  unfold gqx at gq
  rw [Bool.and_eq_true, Bool.and_eq_true, Bool.and_eq_true, Bool.or_eq_true] at gq
  obtain ⟨gk, gy1, gy2, gy3⟩ := gq
  have gy1 := Nat.le_of_ble_eq_true gy1
  have gy2 := Nat.le_of_ble_eq_true gy2
  generalize hYq : Zx F s.1 (max La 3 + 2) = Yq at gk gy1 gy2 gy3
  have go : ∀ Z, AQh t0 n1 s2 h (E2 (X7q F W hv s.1 cd (mch t) s.2.2.1 s.2.2.2.1 s.1 s.2.2.2.2.1) (ebw F W hv s.1 cd (mch t) s.2.2.1 s.2.2.2.1 s.1 s.2.2.2.2.1) (e2w F W hv s.1 cd (mch t) s.2.2.2.2.2)) Z f t [] (onz t0 n1 s2 h (cxs Δ1 Γ0 b)) → HEk t0 n1 s2 h (E2 (X7q F W hv s.1 cd (mch t) s.2.2.1 s.2.2.2.1 s.1 s.2.2.2.2.1) (ebw F W hv s.1 cd (mch t) s.2.2.1 s.2.2.2.1 s.1 s.2.2.2.2.1) (e2w F W hv s.1 cd (mch t) s.2.2.2.2.2)) (cxs Δ1 Γ0 b) (onz t0 n1 s2 h (cxs Δ1 Γ0 b)) → GOk t0 n1 s2 h (E2 (X7q F W hv s.1 cd (mch t) s.2.2.1 s.2.2.2.1 s.1 s.2.2.2.2.1) (ebw F W hv s.1 cd (mch t) s.2.2.1 s.2.2.2.1 s.1 s.2.2.2.2.1) (e2w F W hv s.1 cd (mch t) s.2.2.2.2.2)) f t [] (onz t0 n1 s2 h (cxs Δ1 Γ0 b)) (cxs Δ1 Γ0 b) Δ := by
    intro Z aq hk
    have Yg : ∀ bb, Yq ≤ gyw W Yq bb := by
      intro bb
      have a0 := Zx_mem (x := Yq) (frg W 0) (1, 0) hW
      simp only at a0
      have a1 : Yq ≤ gyw W Yq 0 := by
        show Yq ≤ (frg W 0).foldr (fun u a => max (u.2 + u.1 * Yq) a) 0
        omega
      exact Nat.le_trans a1 (gyw_mono hWm (Nat.zero_le _))
    have xY : x0 ≤ Yq := Nat.le_trans y01 gy1
    have ebb : ∀ z, s.2.2.1 + s.2.2.2.1 * max z s.1 ≤ ebw F W hv s.1 cd (mch t) s.2.2.1 s.2.2.2.1 s.1 s.2.2.2.2.1 z := fun z => by
      unfold ebw
      exact le_mx (Or.inl (le_mx (Or.inl (Nat.le_refl _))))
    have hG := fun A ω bb => gq_E (t0 := t0) (n1 := n1) (s2 := s2) (h := h) (X7 := X7w F W s.1 cd (mch t)) (e2 := e2w F W hv s.1 cd (mch t) s.2.2.2.2.2) T hm hFm Yg ebw_mono e2w_mono ebb gk K30 xY A ω bb
    have hgr' : ∀ (A : Ty) (ω : List Nat) (bb : Nat), ok ω.length A = true → tch A + bb ≤ K → (∀ j, j < ω.length → vw ω j ≤ gyw W Yq bb) → h (nz t0 n1 s2 h ω A) ≤ gyw W Yq (bb + tch A + 4) := fun A ω bb o hk' hw'' => ((dh_ok (un := true) (a5 := 0) (ob := 0) (cd := 0) (wB := 0) (y := Yq) (E0 := 0) (p := 0) (k := 0) (mt := 0) hn hm T hFm hgr hWm hW1 hW H1 (by omega) (by omega) xY).gr A ω bb o (by omega) hw'').1
    have tx := fun (A : Ty) (ω : List Nat) (o : ok ω.length A = true) (hk' : tch A ≤ K + 5) (hw'' : ∀ j, j < ω.length → vw ω j ≤ Yq) => txt_UB (t0 := t0) (n1 := n1) (s2 := s2) (h := h) (E := (E2 (X7q F W hv s.1 cd (mch t) s.2.2.1 s.2.2.2.1 s.1 s.2.2.2.2.1) (ebw F W hv s.1 cd (mch t) s.2.2.1 s.2.2.2.1 s.1 s.2.2.2.2.1) (e2w F W hv s.1 cd (mch t) s.2.2.2.2.2))) (Y := Yq) (K := K) (g := gyw W Yq) (fun b1 b2 hb => gyw_mono hWm hb) (Yg 0) hgr' hG _ A ω 0 (Nat.le_refl _) o (by omega) (fun j hj => Nat.le_trans (hw'' j hj) (Yg 0))
    have wY : ∀ j, j < (cxs Δ1 Γ0 b).length → vw (onz t0 n1 s2 h (cxs Δ1 Γ0 b)) j ≤ Yq := fun j hj => Nat.le_trans (hw' j hj) gy1
    have low : ∀ (Δ' : List Ty) (b1 : Ty) (Γ' : List Ty), cxs Δ1 Γ0 b = Δ' ++ b1 :: Γ' → ∀ j, j < (onz t0 n1 s2 h Γ').length → vw (onz t0 n1 s2 h Γ') j ≤ Yq := by
      intro Δ' b1 Γ' e j hj
      have lo := onz_len t0 n1 s2 h Γ'
      have q := onz_low (t0 := t0) (n1 := n1) (s2 := s2) (h := h) (Γ0 := Γ') (β := b1) Δ' (j := j) (by rw [lo] at hj; exact hj)
      have e' : cxs Δ1 Γ0 b = cxs Δ' Γ' b1 := e
      have q2 := wY j (by rw [e', cxs_len]; rw [lo] at hj; omega)
      rw [e', q] at q2
      exact q2
    have hU : HUB t0 n1 s2 h (E2 (X7q F W hv s.1 cd (mch t) s.2.2.1 s.2.2.2.1 s.1 s.2.2.2.2.1) (ebw F W hv s.1 cd (mch t) s.2.2.1 s.2.2.2.1 s.1 s.2.2.2.2.1) (e2w F W hv s.1 cd (mch t) s.2.2.2.2.2)) Yq (cxs Δ1 Γ0 b) (onz t0 n1 s2 h (cxs Δ1 Γ0 b)) := by
      refine HUB_of he.1 (fun Δ' b1 Γ' e o => ?_)
      have lo := onz_len t0 n1 s2 h Γ'
      have o' : ok (onz t0 n1 s2 h Γ').length b1 = true := by rw [lo]; exact o
      have lw := low Δ' b1 Γ' e
      rcases app_cut Δ1 Δ' e with m | ⟨m1, m2⟩ | m
      · obtain ⟨d, o1, o2⟩ := okc_top Δ1 he.1 b1 m
        exact tx b1 _ o' (by omega) lw
      · subst m1
        subst m2
        refine UB_is2 _ b1 _ (Nat.le_refl _) o' ?_
        have hh' : IS2 (fun s' => UB t0 n1 s2 h (E2 (X7q F W hv s.1 cd (mch t) s.2.2.1 s.2.2.2.1 s.1 s.2.2.2.2.1) (ebw F W hv s.1 cd (mch t) s.2.2.1 s.2.2.2.1 s.1 s.2.2.2.2.1) (e2w F W hv s.1 cd (mch t) s.2.2.2.2.2)) Yq s' (onz t0 n1 s2 h Γ')) b1 := by
          refine IS2_okt _ Γ'.length b1 (Nat.le_refl _) oB (fun s' o3 t3 n3 d3 => ?_) iσ
          rcases d3 with d3 | ⟨d4, d5, d6, d7⟩
          · rw [d3]
            obtain ⟨oBB, oCC⟩ := ok_all.mp oσ
            refine UB_all.mpr ⟨hG B _ 0 (by rw [lo]; exact oBB) (by omega) (fun j hj => Nat.le_trans (lw j hj) (Yg 0)), tx B _ (by rw [lo]; exact oBB) (by omega) lw, fun z hz => ?_⟩
            refine tx C _ (by rw [List.length_cons, lo]; exact oCC) (by omega) (vw_hz lw ?_)
            unfold hzx
            omega
          · exact tx s' _ (by rw [lo]; exact d4) (by omega) lw
        exact hh'
      · obtain ⟨d, o1, o2⟩ := okc_mch oc0 m
        exact tx b1 _ o' (by omega) lw
    have dU : DU t0 n1 s2 h (E2 (X7q F W hv s.1 cd (mch t) s.2.2.1 s.2.2.2.1 s.1 s.2.2.2.2.1) (ebw F W hv s.1 cd (mch t) s.2.2.1 s.2.2.2.1 s.1 s.2.2.2.2.1) (e2w F W hv s.1 cd (mch t) s.2.2.2.2.2)) Yq (onz t0 n1 s2 h (cxs Δ1 Γ0 b)) Δ := by
      intro a ha
      obtain ⟨a1, a2, a3⟩ := he.2.2 a ha
      have ad := dch_mem ha
      have al : a.2.2 ≤ (onz t0 n1 s2 h (cxs Δ1 Γ0 b)).length := by rw [l1]; exact a1
      have ll : ((onz t0 n1 s2 h (cxs Δ1 Γ0 b)).drop ((onz t0 n1 s2 h (cxs Δ1 Γ0 b)).length - a.2.2)).length = a.2.2 := by rw [List.length_drop]; omega
      refine ⟨(onz t0 n1 s2 h (cxs Δ1 Γ0 b)).take ((onz t0 n1 s2 h (cxs Δ1 Γ0 b)).length - a.2.2), (onz t0 n1 s2 h (cxs Δ1 Γ0 b)).drop ((onz t0 n1 s2 h (cxs Δ1 Γ0 b)).length - a.2.2), (List.take_append_drop _ _).symm, ll, ?_⟩
      refine tx a.2.1 _ (by rw [ll]; exact a2) (by omega) (fun j hj => ?_)
      have q := vw_app_lo ((onz t0 n1 s2 h (cxs Δ1 Γ0 b)).take ((onz t0 n1 s2 h (cxs Δ1 Γ0 b)).length - a.2.2)) _ j hj
      rw [List.take_append_drop] at q
      rw [← q]
      exact wY j (by rw [ll] at hj; rw [l1] at al; omega)
    have P0 : TxP t0 n1 s2 h (E2 (X7q F W hv s.1 cd (mch t) s.2.2.1 s.2.2.2.1 s.1 s.2.2.2.2.1) (ebw F W hv s.1 cd (mch t) s.2.2.1 s.2.2.2.1 s.1 s.2.2.2.2.1) (e2w F W hv s.1 cd (mch t) s.2.2.2.2.2)) Yq La s.1 := fun A ω o hk' hw'' => by
      have wq : ∀ j, j < ω.length → vw ω j ≤ Yq := fun j hj => Nat.le_trans (hw'' j hj) gy1
      refine ⟨hG A ω 0 o (by omega) (fun j hj => Nat.le_trans (wq j hj) (Yg 0)), tx A ω o (by omega) wq, ?_⟩
      rw [← hYq]
      exact Nat.le_trans (Zx_le T o (by omega) y01 hw'') (Zx_ms hFm (by omega) (by omega))
    have P1 : TxP t0 n1 s2 h (E2 (X7q F W hv s.1 cd (mch t) s.2.2.1 s.2.2.2.1 s.1 s.2.2.2.2.1) (ebw F W hv s.1 cd (mch t) s.2.2.1 s.2.2.2.1 s.1 s.2.2.2.2.1) (e2w F W hv s.1 cd (mch t) s.2.2.2.2.2)) Yq 3 Yq := fun A ω o hk' hw'' => by
      refine ⟨fun ρ hρ => ?_, tx A ω o (by omega) hw'', Nat.le_trans (Zx_le T o (by omega) xY hw'') (Nat.le_trans (Zx_ms hFm (by omega) (by omega)) gy2)⟩
      rcases two_txt o (by omega) with e | ⟨j, hj, e⟩ | e
      · rw [e]
        cases ρ with
        | nil => exact absurd rfl hρ
        | cons p9 ρ => rw [vz_top]; exact Nat.zero_le _
      · rw [e]
        cases ρ with
        | nil => exact absurd rfl hρ
        | cons p9 ρ => rw [vz_var]; exact Nat.le_refl _
      · rw [e]
        unfold tR0
        cases ρ with
        | nil => exact absurd rfl hρ
        | cons p9 ρ =>
          cases p9 with
          | none => rw [vz_recN, vz_nil]; exact Nat.zero_le _
          | some z9 => rw [vz_recS]; exact Nat.zero_le _
    have h8 : 13 ≤ mch t → ∀ (B : Ty) (ω : List Nat), ok ω.length B = true → tch B ≤ 4 → (∀ j, j < ω.length → vw ω j ≤ s.1) → h (nz t0 n1 s2 h ω B) ≤ Yq := fun m13 B9 ω o hk' hw'' => by
      have l5 := hLa m13
      have g3 := gy3.resolve_left (by intro q; have := Nat.le_of_ble_eq_true q; omega)
      have g3 := Nat.le_of_ble_eq_true g3
      have q1 := H1 (nz t0 n1 s2 h ω B9)
      have q2 := Nat.le_trans (Zx_le T o (by omega) y01 hw'') (Zx_ms hFm (x := s.1) (s := tch B9 + 2) (s' := 6) (by omega) (by omega))
      omega
    obtain ⟨a0, ea⟩ : ∃ a0, Δ = [a0] := by
      match Δ, nD, hΔ1 with
      | [], nD, _ => exact absurd rfl nD
      | [a], _, _ => exact ⟨a, rfl⟩
      | a :: b :: l, _, h1 => rw [List.length_cons, List.length_cons] at h1; omega
    have w9 : TWf f (cxs Δ1 Γ0 b).length [a0.1] t := by
      have q := w
      rw [ea] at q
      exact q
    have nq := NQ_zero9 (t0 := t0) (n1 := n1) (s2 := s2) (h := h) (E := (E2 (X7q F W hv s.1 cd (mch t) s.2.2.1 s.2.2.2.1 s.1 s.2.2.2.2.1) (ebw F W hv s.1 cd (mch t) s.2.2.1 s.2.2.2.1 s.1 s.2.2.2.2.1) (e2w F W hv s.1 cd (mch t) s.2.2.2.2.2))) (Y := Yq) (M0 := mch t) gy1 P0 P1 h8 f (cxs Δ1 Γ0 b).length a0.1 t (onz t0 n1 s2 h (cxs Δ1 Γ0 b)) [] (mch t) w9 cu l1 (by simp) hM hM16 (Nat.le_refl _) hM16 (fun j hj => hw' j (by rw [l1] at hj; exact hj))
    exact GH_nq hn hm f t [] _ _ Δ w he trivial aq nq dU (onz_cv hn he.1) hk hU
  refine gen_fin6qo (a5 := a5) (cd := cd) (wB := s.1) (E0 := s.2.2.1) (p := s.2.2.2.1) (ob := s.2.2.2.2.1) (k := s.2.2.2.2.2) (y := s.1) hn hm T hFm hgr hWm hW1 hW H1 w he l1 cu hΔ1 hm30 hdc hcd a55 ha5 y01 (fun j hj => hw' j (by rw [l1] at hj; exact hj)) (HE_sfy ebw_mono e2w_mono hm hh hn (Nat.le_trans (Nat.le_max_left _ _) (Nat.le_max_left _ _)) he.1 hw' (fun Δ' b1 Γ' e' o9 w9 q => ?_)) go R hS
  have oth : OBs ob b1 → IS2 (fun s' => HS2 t0 n1 s2 h (ebw F W hv s.1 cd (mch t) s.2.2.1 s.2.2.2.1 s.1 s.2.2.2.2.1) (e2w F W hv s.1 cd (mch t) s.2.2.2.2.2) (onz t0 n1 s2 h Γ') s' ∨ ∀ z, nz t0 n1 s2 h (onz t0 n1 s2 h Γ') s' + flv s' * z ≤ ebw F W hv s.1 cd (mch t) s.2.2.1 s.2.2.2.1 s.1 s.2.2.2.2.1 z) b1 := fun c => by
    refine IS2_sch _ Γ'.length b1 (Nat.le_refl _) o9 (fun B' C' o3 n3 d3 => ?_) c
    obtain ⟨c1, c2, c3⟩ := d3 B' C' rfl
    exact Or.inl (few Γ' B' C' o3 (Nat.le_trans (n3 t0 n1 s2 h _) q) c1 c2 c3)
  rcases app_cut Δ1 Δ' e' with m | ⟨m1, m2⟩ | m
  · exact Or.inr (Or.inr (oth (hb1 b1 m)))
  · subst m1
    subst m2
    refine Or.inr (Or.inr (IS2_sch _ Γ'.length b1 (Nat.le_refl _) oB (fun B' C' o3 n3 d3 => ?_) iσ))
    rcases d3 with d3 | ⟨d4, d5, d6, d7⟩
    · rw [d3]
      exact Or.inl hA2
    · obtain ⟨c1, c2, c3⟩ := hbs B' C' d4 d5 d6
      exact Or.inl (few Γ' B' C' o3 (Nat.le_trans (n3 t0 n1 s2 h _) q) c1 c2 c3)
  · exact Or.inr (Or.inr (oth (hb0 b1 m)))
end PmZG1
section PmZG2
variable {f : Nat} {t b b' B C : Ty} {Γ0 Δ1 : List Ty} {Δ : List (Nat × Ty × Nat)} {e : Bool} {LR LG : LnT} {cd : Nat}
theorem zone_jqo3 {VR VG : FrT} (fR : ∃ v ∈ frg VR (tch C), xt (Γ0.length + 1) C ≤ v.1 ∧ xa 0 (fun _ => 1 + 1) 3 1 (Γ0.length + 1) C ≤ v.2) (fG : ∃ v ∈ frg VG (tch C), xt (Γ0.length + 1) C ≤ v.1 ∧ xa 1 ngc 1 0 (Γ0.length + 1) C ≤ v.2) (lb : LBd Γ0 Δ1 b b' B C) (w : TWf f (cxs Δ1 Γ0 b).length (Δ.map (fun a => a.1)) t) (he : TE (cxs Δ1 Γ0 b) Δ) (nD : Δ ≠ []) (cu : TNo f t) (hΔ1 : Δ.length ≤ 1) {K La : Nat} (hLK : La ≤ K) (K30 : K ≤ 30) (kB : tch B ≤ K) (kC : tch C ≤ K + 5) (kq1 : cch Γ0 ≤ K + 9) (kq2 : cch Δ1 ≤ K + 9) (kov : tch b ≤ tch (tAll B C) + K + 10) (kcd : dch Δ ≤ K + 9) (hM : mch t ≤ La + 8) (hM16 : mch t ≤ 16) (hLa : 13 ≤ mch t → 5 ≤ La) {D : Ty} {k9 : Nat} (eD9 : C = tAll tTop D) (hFR : dm9 fr1 3 (tch D) k9 = true) (hFG : dm9 frq 1 (tch D) k9 = true) (zR : liz3 LR VR fr1 fg1 1 3 (kpz fr1 0 (max 1 (fx1.getD (cch Γ0) 0)) (tch b - tch (tAll B C))) (wbz fr1 1 (max 1 (fx1.getD (cch Γ0) 0)) (tch B)) (max 1 (fx1.getD (cch Γ0) 0)) (ojy (tch C) (tch b - tch (tAll B C)) (cch Γ0) (cch Δ1)) (tch C) k9 (cch Δ1) 0 = true) (zG : liz3 LG VG frq fgq 0 1 (kpz frq 1 (max 1 (fxq.getD (cch Γ0) 0)) (tch b - tch (tAll B C))) (wbz frq 0 (max 1 (fxq.getD (cch Γ0) 0)) (tch B)) (max 1 (fxq.getD (cch Γ0) 0)) (ojy (tch C) (tch b - tch (tAll B C)) (cch Γ0) (cch Δ1)) (tch C) k9 (cch Δ1) 0 = true) (tR : lnqo LR fr1 fg1 1 2 3 2 2 2 2 887 cd (mch t) K La = true) (tG : lnqo LG frq fgq 0 1 1 1 3 2 1 597 cd (mch t) K La = true) (m30 : mch t ≤ 30) (cd56 : cd ≤ 56) (h47 : cch (cxs Δ1 Γ0 b) ≤ 47) (q38 : cch Δ1 ≤ 38) (hb : dch Δ ≤ cd) : NtV (cxs Δ1 Γ0 b) Δ f t 887 597 := by
  obtain ⟨ds, eT, eB, k40, i0, i1⟩ := lb
  obtain ⟨oc0, oB⟩ := okc_low Δ1 he.1
  have ec := cch_cx (Γ0 := Γ0) (β := b) Δ1
  have oσ := ds.2.1
  have oBB := (ok_all.mp oσ).1
  have oC := (ok_all.mp oσ).2
  have pB := tch_pos oBB
  have pC := tch_pos oC
  have cσ := ds.ch
  have pb' := ds.2.2.1
  have eσ := tch_all B C
  have b0 : ∀ a ∈ Γ0, OBs (ojy (tch C) (tch b - tch (tAll B C)) (cch Γ0) (cch Δ1)) a := fun a ha => by
    obtain ⟨d, o1, o2⟩ := okc_mch oc0 ha
    exact OBs_of o1 o2 k40 (i0 a ha) (Nat.le_max_left _ _)
  have b1 : ∀ a ∈ Δ1, OBs (ojy (tch C) (tch b - tch (tAll B C)) (cch Γ0) (cch Δ1)) a := fun a ha => by
    obtain ⟨d, o1, o2⟩ := okc_top Δ1 he.1 a ha
    exact OBs_of o1 o2 k40 (i1 a ha) (Nat.le_trans (Nat.le_max_left _ _) (Nat.le_max_right _ _))
  have bs : ∀ B' C', ok Γ0.length (tAll B' C') = true → tch C' ≤ tch C → tch (tAll B' C') + tch (tAll B C) + 5 ≤ tch b → tch C' ≤ 40 ∧ lmx xr1 (tch C') ≤ ojy (tch C) (tch b - tch (tAll B C)) (cch Γ0) (cch Δ1) ∧ lmx fr1 (tch C') ≤ ojy (tch C) (tch b - tch (tAll B C)) (cch Γ0) (cch Δ1) := by
    intro B' C' o' l1 l2
    have p1 := tch_pos (ok_all.mp o').1
    have e1 := tch_all B' C'
    have m1 := lmx_mono fr1 (show tch C' ≤ min (tch C) (tch b - tch (tAll B C) - 10) by omega)
    have m2 := lmx_xf (tch C') (by omega)
    have m3 : lmx fr1 (min (tch C) (tch b - tch (tAll B C) - 10)) ≤ ojy (tch C) (tch b - tch (tAll B C)) (cch Γ0) (cch Δ1) := Nat.le_trans (Nat.le_max_right _ _) (Nat.le_max_right _ _)
    exact ⟨by omega, by omega, by omega⟩
  refine fun S hS => ⟨fun d => ?_, ?_⟩
  · have T := tbs1 d
    have l0 := onz_len 0 (fun _ => 1 + 1) (2 + 1) (vlr d 1) Γ0
    have hω : ∀ j, j < (onz 0 (fun _ => 1 + 1) (2 + 1) (vlr d 1) Γ0).length → vw (onz 0 (fun _ => 1 + 1) (2 + 1) (vlr d 1) Γ0) j ≤ max 1 (fx1.getD (cch Γ0) 0) := fun j hj => Nat.le_trans (onz_chars (n1 := fun _ => 1 + 1) T.1 T.2.1 T.2.2.1 T.2.2.2.1 T.2.2.2.2.1 Γ0 oc0 (by omega) j (by rw [l0] at hj; exact hj)) (Nat.le_max_right _ _)
    obtain ⟨v, hv, f1, f2⟩ := fR
    have hκ : nz 0 (fun _ => 1 + 1) (2 + 1) (vlr d 1) (onz 0 (fun _ => 1 + 1) (2 + 1) (vlr d 1) Γ0) b' ≤ kpz fr1 0 (max 1 (fx1.getD (cch Γ0) 0)) (tch b - tch (tAll B C)) := by
      unfold kpz
      by_cases q : tch b - tch (tAll B C) = 0
      · rw [if_pos (show Nat.beq (tch b - tch (tAll B C)) 0 = true by rw [q]; rfl)]
        rw [eT (by omega), nz_top]
        exact Nat.le_refl _
      · rw [if_neg (by intro q'; exact q (Nat.eq_of_beq_eq_true q'))]
        exact Nat.le_trans (Zx_le T (x := max 1 (fx1.getD (cch Γ0) 0)) (A := b') (by rw [l0]; exact ds.1) (by omega) (Nat.le_max_left _ _) hω) (Zx_ms fr1_m (by omega) (by omega))
    have hwB : vlr d 1 (nz 0 (fun _ => 1 + 1) (2 + 1) (vlr d 1) (onz 0 (fun _ => 1 + 1) (2 + 1) (vlr d 1) Γ0) B) ≤ wbz fr1 1 (max 1 (fx1.getD (cch Γ0) 0)) (tch B) := by
      have q2 := vlr_one d (nz 0 (fun _ => 1 + 1) (2 + 1) (vlr d 1) (onz 0 (fun _ => 1 + 1) (2 + 1) (vlr d 1) Γ0) B)
      unfold wbz
      by_cases q : tch B = 1
      · rw [if_pos (show Nat.beq (tch B) 1 = true by rw [q]; rfl)]
        rw [eB q, nz_top] at q2 ⊢
        omega
      · rw [if_neg (by intro q'; exact q (Nat.eq_of_beq_eq_true q'))]
        have q3 : nz 0 (fun _ => 1 + 1) (2 + 1) (vlr d 1) (onz 0 (fun _ => 1 + 1) (2 + 1) (vlr d 1) Γ0) B ≤ Zx fr1 (max 1 (fx1.getD (cch Γ0) 0)) (tch B + 2) := Zx_le T (by rw [l0]; exact oBB) (by omega) (Nat.le_max_left _ _) hω
        generalize nz 0 (fun _ => 1 + 1) (2 + 1) (vlr d 1) (onz 0 (fun _ => 1 + 1) (2 + 1) (vlr d 1) Γ0) B = n9 at *
        generalize Zx fr1 (max 1 (fx1.getD (cch Γ0) 0)) (tch B + 2) = z9 at *
        omega
    refine gen_zjqo3 (a5 := 0) (cd := cd) (NC_rows d 1) (vlr_mono d 1) (vlr_lip d 1) T fr1_m fg1_ok fg1_m fg1s_1 (by decide) (vlr_one d) (by decide) ds w he cu hΔ1 nD (by omega) (by omega) (by omega) (Nat.zero_le _) (fun _ => rfl) b0 b1 bs q38 (by omega) (Nat.le_refl _) hκ hwB f1 f2 hLK K30 kB kC kq1 kq2 kov kcd hM hM16 hLa (by decide) eD9 hFR (fun p hp u hu => ?_) hS
    obtain ⟨s, m, q⟩ := liz3_get zR v hv p hp u hu
    exact ⟨s, q, lnqo_get tR m⟩
  · have T := tbsq
    have l0 := onz_len 1 ngc 1 (fun x => x) Γ0
    have hω : ∀ j, j < (onz 1 ngc 1 (fun x => x) Γ0).length → vw (onz 1 ngc 1 (fun x => x) Γ0) j ≤ max 1 (fxq.getD (cch Γ0) 0) := fun j hj => Nat.le_trans (onz_chars (n1 := ngc) T.1 T.2.1 T.2.2.1 T.2.2.2.1 T.2.2.2.2.1 Γ0 oc0 (by omega) j (by rw [l0] at hj; exact hj)) (Nat.le_max_right _ _)
    obtain ⟨v, hv, f1, f2⟩ := fG
    have hκ : nz 1 ngc 1 (fun x => x) (onz 1 ngc 1 (fun x => x) Γ0) b' ≤ kpz frq 1 (max 1 (fxq.getD (cch Γ0) 0)) (tch b - tch (tAll B C)) := by
      unfold kpz
      by_cases q : tch b - tch (tAll B C) = 0
      · rw [if_pos (show Nat.beq (tch b - tch (tAll B C)) 0 = true by rw [q]; rfl)]
        rw [eT (by omega), nz_top]
        exact Nat.le_refl _
      · rw [if_neg (by intro q'; exact q (Nat.eq_of_beq_eq_true q'))]
        exact Nat.le_trans (Zx_le T (x := max 1 (fxq.getD (cch Γ0) 0)) (A := b') (by rw [l0]; exact ds.1) (by omega) (Nat.le_max_left _ _) hω) (Zx_ms frq_m (by omega) (by omega))
    have hwB : (fun x : Nat => x) (nz 1 ngc 1 (fun x => x) (onz 1 ngc 1 (fun x => x) Γ0) B) ≤ wbz frq 0 (max 1 (fxq.getD (cch Γ0) 0)) (tch B) := by
      show nz 1 ngc 1 (fun x => x) (onz 1 ngc 1 (fun x => x) Γ0) B ≤ _
      unfold wbz
      by_cases q : tch B = 1
      · rw [if_pos (show Nat.beq (tch B) 1 = true by rw [q]; rfl)]
        rw [eB q, nz_top]
        omega
      · rw [if_neg (by intro q'; exact q (Nat.eq_of_beq_eq_true q'))]
        have q3 : nz 1 ngc 1 (fun x => x) (onz 1 ngc 1 (fun x => x) Γ0) B ≤ Zx frq (max 1 (fxq.getD (cch Γ0) 0)) (tch B + 2) := Zx_le T (by rw [l0]; exact oBB) (by omega) (Nat.le_max_left _ _) hω
        generalize nz 1 ngc 1 (fun x => x) (onz 1 ngc 1 (fun x => x) Γ0) B = n9 at *
        generalize Zx frq (max 1 (fxq.getD (cch Γ0) 0)) (tch B + 2) = z9 at *
        omega
    refine gen_zjqo3 (a5 := 0) (cd := cd) NC_goals (fun y y' hy => hy) (fun y δ => Nat.le_refl _) T frq_m fgq_ok fgq_m fg1s_q (by decide) (fun y => by show y ≤ 0 + max 1 y; omega) (by decide) ds w he cu hΔ1 nD (by omega) (by omega) (by omega) (Nat.zero_le _) (fun _ => rfl) b0 b1 bs q38 (by omega) (Nat.le_refl _) hκ hwB f1 f2 hLK K30 kB kC kq1 kq2 kov kcd hM hM16 hLa (by decide) eD9 hFG (fun p hp u hu => ?_) hS
    obtain ⟨s, m, q⟩ := liz3_get zG v hv p hp u hu
    exact ⟨s, q, lnqo_get tG m⟩
end PmZG2
theorem mch_three {f D p : Nat} {v : Ty} (w : TWf (f + 1) D [p] v) (m3 : mch v = 3) : nKd v = 9 ∨ nKd v = 11 := by
  obtain ⟨w0, w5, w6, w7, w8, w9, w10, w11, w12⟩ := w
  have em := mch_is w0.2.1
  rcases (show nKd v = 5 ∨ nKd v = 6 ∨ nKd v = 7 ∨ nKd v = 8 ∨ nKd v = 9 ∨ nKd v = 10 ∨ nKd v = 11 ∨ nKd v = 12 by omega) with c | c | c | c | c | c | c | c
  · rw [if_pos c] at em; omega
  · rw [if_neg (by omega), if_pos (Or.inl c)] at em; omega
  · rw [if_neg (by omega), if_neg (by omega), if_neg (by omega), if_neg (by omega)] at em
    have := mch_pos' (w7 (Or.inl c)).1
    have := mch_pos' (w7 (Or.inl c)).2
    omega
  · rw [if_neg (by omega), if_pos (Or.inr c)] at em; omega
  · exact Or.inl c
  · exfalso
    rw [if_neg (by omega), if_neg (by omega), if_neg (by omega), if_pos c] at em
    by_cases hm : nMk v = 0
    · rw [if_pos hm] at em
      have n0 : nP v 0 = .nil := w0.2.2.1 0 (by decide) (by rw [c, hm]; decide)
      have n1 : nP v 1 = .nil := w0.2.2.1 1 (by decide) (by rw [c, hm]; decide)
      have n2 : nP v 2 = .nil := w0.2.2.1 2 (by decide) (by rw [c, hm]; decide)
      have n0 : nX v = .nil := n0
      have n1 : nY v = .nil := n1
      have n2 : nZ v = .nil := n2
      have z : mch .nil = 0 := by decide
      rw [n0, n1, n2, z] at em
      omega
    · rw [if_neg hm] at em
      have h3 : ∀ m, m < 8 → m ≠ 0 → 1 ≤ nlb m := by decide
      have := h3 _ (w10 c).1 hm
      omega
  · exact Or.inr c
  · rw [if_neg (by omega), if_neg (by omega), if_neg (by omega), if_neg (by omega)] at em
    have := mch_pos' (w7 (Or.inr c)).1
    have := mch_pos' (w7 (Or.inr c)).2
    omega
section PmZG3
variable {f : Nat} {t : Ty} {Γ : List Ty} {Δ : List (Nat × Ty × Nat)} {a0 : Nat × Ty × Nat} {S : Ty}
/-- an instance of a choice -/
theorem ins_cho3 (he : TE Γ [a0]) (hv : noac Γ) (hI : ∀ p q : Ty, expo Γ Γ.length (lft a0.2.2 (Γ.length - a0.2.2) a0.2.1) = tAll p q → ∀ Q r : Ty, ok Γ.length Q = true → tch Q ≤ 1 → expo Γ Γ.length (sbt Γ.length Q 0 q) ≠ tAll p r) {g : Nat} {u R : Ty} (w : TWf (g + 1) Γ.length [a0.1] u) (tn : TNo (g + 1) u) (k9 : nKd u = 9) (k12 : nKd (nX u) = 12) (m9 : mch u ≤ 8) (h : tyF (g + 1) u Γ [a0] = .inr R) : False := by
  obtain ⟨S0, a, b, h1, h2, -⟩ := tyF_is9 w he k9 h
  obtain ⟨S0', h1', -, hb⟩ := is9_bel w k9 h
  rw [h1] at h1'
  injection h1' with h1'
  subst h1'
  rw [h2] at hb
  have hb : bel Γ (nY u) a = true := hb
  obtain ⟨x1, oQ, -⟩ := w.2.2.2.2.2.1 k9
  have em := mch_is w.1.2.1
  rw [if_neg (by omega), if_neg (by omega), if_pos k9] at em
  have tQ := tch_pos oQ
  have tnv := tn.2.2.1 (Or.inl k9)
  cases g with
  | zero => exact x1.elim
  | succ g =>
  rcases sh_ncf x1 tnv (fun q => q.2.2.2 k12) (by omega) with ⟨-, y1, y2, ev, nn⟩ | ⟨k, -⟩
  rotate_left
  · omega
  obtain ⟨S1, S2, g1, g2, ej⟩ := ty_or k12 h1
  have o1 := (tyF_ok _ _ _ _ _ y1.1 he g1).1
  have o2 := (tyF_ok _ _ _ _ _ y2.1 he g2).1
  have up := ju_upx hv _ S1 S2 S0 ⟨he.1, o1, o2⟩ ej
  rw [h2] at up
  obtain ⟨b1, E1⟩ := up.1.1 a b rfl
  obtain ⟨b2, E2⟩ := up.2.1 a b rfl
  have p1 := mch_pos' y1.1
  have p2 := mch_pos' y2.1
  have nil2 : ∀ (v T b3 : Ty), TWf g Γ.length [a0.1] v → mch v = 2 → tyF g v Γ [a0] = .inr T → expo Γ Γ.length T = tAll a b3 → False := by
    intro v T b3 wv m2 hT e
    obtain ⟨c1, c2⟩ := two_nil wv m2
    rw [ty_nil c1 c2 hT, ex_r0] at e
    have := congrArg hd e
    rw [hd_all] at this
    exact absurd this (by decide)
  have thr : ∀ (v T b3 : Ty), TWf g Γ.length [a0.1] v → mch v = 3 → tyF g v Γ [a0] = .inr T → expo Γ Γ.length T = tAll a b3 → (∃ b4, expo Γ Γ.length (lft a0.2.2 (Γ.length - a0.2.2) a0.2.1) = tAll a b4) → False := by
    intro v T b3 wv m3 hT e ⟨b4, e4⟩
    cases g with
    | zero => exact wv.elim
    | succ g =>
    have wv' := wv
    obtain ⟨w0, w5, w6, w7, w8, w9, w10, w11, w12⟩ := wv
    have em := mch_is w0.2.1
    by_cases k9 : nKd v = 9
    · rw [if_neg (by omega), if_neg (by omega), if_pos k9] at em
      obtain ⟨x1, x2, -⟩ := w9 k9
      have := mch_pos' x1
      have := tch_pos x2
      obtain ⟨S9, p9, q9, g1, g2, g3, -, -, -⟩ := tyF_is9 wv' he k9 hT
      have k5 := one_nm x1 (by omega)
      rw [ty_nm x1 k5 g1] at g2
      have pe : tAll p9 q9 = tAll a b4 := by rw [← g2, e4]
      have e5 : p9 = a := congrArg k1 pe
      rw [e5] at g2
      rw [g3] at e
      exact hI a q9 g2 (nY v) b3 x2 (by omega) e
    by_cases k11 : nKd v = 11
    · rw [if_neg (by omega), if_neg (by omega), if_neg (by omega), if_neg (by omega)] at em
      obtain ⟨hm, x1⟩ := w11 k11
      have k5 := one_nm x1 (by have := mch_pos' x1; omega)
      unfold tyF at hT
      rw [if_neg (by omega), if_neg (by omega), if_neg (by omega), if_neg (by omega), if_neg (by omega), if_neg (by omega), if_pos k11] at hT
      obtain ⟨V, hV, q1⟩ := tbd_in hT
      obtain ⟨e9, -⟩ := tyO_in q1
      rw [ty_nm x1 k5 hV] at e9
      unfold tyD at e9
      rw [if_neg (by rw [e4, hd_all]; omega)] at e9
      cases e9
    have m1 := mch_three wv' m3
    omega
  by_cases m1 : mch (nX (nX u)) = 1
  · have k5 := one_nm y1.1 m1
    rw [ty_nm y1.1 k5 g1] at E1
    by_cases x2 : mch (nY (nX u)) = 1
    · exact nn ⟨k5, one_nm y2.1 x2⟩
    by_cases x3 : mch (nY (nX u)) = 2
    · exact nil2 _ S2 b2 y2.1 x3 g2 E2
    · exact thr _ S2 b2 y2.1 (by omega) g2 E2 ⟨b1, E1⟩
  by_cases m2 : mch (nX (nX u)) = 2
  · exact nil2 _ S1 b1 y1.1 m2 g1 E1
  have x2 : mch (nY (nX u)) = 1 := by omega
  have k5 := one_nm y2.1 x2
  rw [ty_nm y2.1 k5 g2] at E2
  exact thr _ S1 b1 y1.1 (by omega) g1 E1 ⟨b2, E2⟩
/-- ten characters, the bound of two, one name: such a choice cannot be typed -/
theorem vac_ten1 (he : TE Γ [a0]) (hv : noac Γ) (hI : ∀ p q : Ty, expo Γ Γ.length (lft a0.2.2 (Γ.length - a0.2.2) a0.2.1) = tAll p q → ∀ Q r : Ty, ok Γ.length Q = true → tch Q ≤ 1 → expo Γ Γ.length (sbt Γ.length Q 0 q) ≠ tAll p r) (w : TWf f Γ.length [a0.1] t) (tn : TNo f t) (nc : ¬ CHo f t []) (m11 : mch t ≤ 10) : tyF f t Γ [a0] ≠ .inr S := by
  intro hS
  -- an operation on a choice of five characters
  have step : ∀ (g : Nat) (u R : Ty), TWf (g + 1) Γ.length [a0.1] u → TNo (g + 1) u → (nKd u = 9 ∨ nKd u = 11) → ¬ CFt g (nX u) → mch (nX u) ≤ 5 → tyF (g + 1) u Γ [a0] = .inr R → False := by
    intro g u R wu nu k nc5 m5 hR
    rcases k with k | k
    · obtain ⟨R1, a, b, h1, h2, -⟩ := tyF_is9 wu he k hR
      have q := (ty_five he hv (wu.2.2.2.2.2.1 k).1 (nu.2.2.1 (Or.inl k)) nc5 m5 h1).1
      rw [h2, hd_all] at q
      exact q rfl
    · have y1 := (wu.2.2.2.2.2.2.2.1 k).2
      have m3 := (wu.2.2.2.2.2.2.2.1 k).1
      unfold tyF at hR
      rw [if_neg (by omega), if_neg (by omega), if_neg (by omega), if_neg (by omega), if_neg (by omega), if_neg (by omega), if_pos k] at hR
      obtain ⟨R1, hR1, q1⟩ := tbd_in hR
      obtain ⟨e, -⟩ := tyO_in q1
      unfold tyD at e
      by_cases cc : (8 ≤ hd (expo Γ Γ.length R1) ∧ hd (expo Γ Γ.length R1) < 16) ∧ bit (hd (expo Γ Γ.length R1) - 8) (nMk u) = true
      rotate_left
      · rw [if_neg cc] at e; cases e
      have oR := tyF_ok _ _ _ _ _ y1 he hR1
      obtain ⟨oE, -⟩ := expo_ok he.1 he.2.1 Γ.length R1 oR.1 oR.2
      obtain ⟨m, x, y, z, m8, e2⟩ := hd_is_rec oE cc.1.1 cc.1.2
      have m0 := (ty_five he hv y1 (nu.2.2.1 (Or.inr k)) nc5 m5 hR1).2 m x y z m8 e2
      have c3 := cc.2
      rw [e2, hd_rec, m0] at c3
      rcases (show nMk u = 0 ∨ nMk u = 1 ∨ nMk u = 2 by omega) with g | g | g <;> rw [g] at c3 <;> exact absurd c3 (by decide)
  have h3 : ∀ m, m < 8 → m ≠ 0 → 1 ≤ nlb m := by decide
  have cf4 : ∀ (g : Nat) (u : Ty) (σ : List Bool), TWf g Γ.length [a0.1] u → TNo g u → ¬ CHo g u σ → 5 ≤ mch u := fun g u σ wu nu nu2 => ((chr_one g _ _ u wu nu).1).resolve_left (fun c => nu2 (cft_cho _ _ _ c))
  -- a field
  have fld : ∀ (g : Nat) (u : Ty) (σ : List Bool), TWf (g + 1) Γ.length [a0.1] u → nKd u = 10 → ∀ i, i < 3 → bit (nMk u) i = true → ¬ CHo g (nP u i) σ → 12 ≤ mch u + 2 * σ.length := by
    intro g u σ wu c i hi hb n
    have em := mch_is wu.1.2.1
    rw [if_neg (by omega), if_neg (by omega), if_neg (by omega), if_pos c] at em
    have w10 := wu.2.2.2.2.2.2.1 c
    have q := cho_min _ _ _ _ _ (w10.2 i hi hb) n
    have hm : ¬ nMk u = 0 := by
      intro e
      rw [e] at hb
      rcases (show i = 0 ∨ i = 1 ∨ i = 2 by omega) with rfl | rfl | rfl <;> exact absurd hb (by decide)
    rw [if_neg hm] at em
    have := h3 _ w10.1 hm
    rcases (show i = 0 ∨ i = 1 ∨ i = 2 by omega) with rfl | rfl | rfl
    · have q : 8 ≤ mch (nX u) + 2 * σ.length := q
      omega
    · have q : 8 ≤ mch (nY u) + 2 * σ.length := q
      omega
    · have q : 8 ≤ mch (nZ u) + 2 * σ.length := q
      omega
  -- a binder
  have bnd6 : ∀ (g : Nat) (u : Ty) (σ : List Bool), TWf (g + 1) Γ.length [a0.1] u → (nKd u = 6 ∨ nKd u = 8) → ¬ CHo g (nY u) σ → 13 ≤ mch u + 2 * σ.length := by
    intro g u σ wu c n
    have em := mch_is wu.1.2.1
    rw [if_neg (by omega), if_pos c] at em
    rcases c with c | c
    · have := cho_min _ _ _ _ _ (wu.2.2.1 c).2.2.2 n
      have := tch_pos (wu.2.2.1 c).2.1
      omega
    · have := cho_min _ _ _ _ _ (wu.2.2.2.2.1 c).2.2 n
      have := tch_pos (wu.2.2.2.2.1 c).1
      omega
  -- what an operation stands on
  have sub7 : ∀ (g : Nat) (u R : Ty), nKd u = 7 → tyF (g + 1) u Γ [a0] = .inr R → ∃ R1, tyF g (nX u) Γ [a0] = .inr R1 := by
    intro g u R c hR
    unfold tyF at hR
    rw [if_neg (by omega), if_neg (by omega), if_pos c] at hR
    obtain ⟨R1, hR1, -⟩ := tbd_in hR
    exact ⟨R1, hR1⟩
  have sub11 : ∀ (g : Nat) (u R : Ty), nKd u = 11 → tyF (g + 1) u Γ [a0] = .inr R → ∃ R1, tyF g (nX u) Γ [a0] = .inr R1 := by
    intro g u R c hR
    unfold tyF at hR
    rw [if_neg (by omega), if_neg (by omega), if_neg (by omega), if_neg (by omega), if_neg (by omega), if_neg (by omega), if_pos c] at hR
    obtain ⟨R1, hR1, -⟩ := tbd_in hR
    exact ⟨R1, hR1⟩
  have sub9 : ∀ (g : Nat) (u R : Ty), TWf (g + 1) Γ.length [a0.1] u → nKd u = 9 → tyF (g + 1) u Γ [a0] = .inr R → ∃ R1, tyF g (nX u) Γ [a0] = .inr R1 := by
    intro g u R wu c hR
    obtain ⟨R1, a, b, h1, -⟩ := tyF_is9 wu he c hR
    exact ⟨R1, h1⟩
  have e7 : ∀ (g : Nat) (u : Ty), TWf (g + 1) Γ.length [a0.1] u → nKd u = 7 → mch (nX u) + 3 ≤ mch u := by
    intro g u wu c
    have em := mch_is wu.1.2.1
    rw [if_neg (by omega), if_neg (by omega), if_neg (by omega), if_neg (by omega)] at em
    have := mch_pos' (wu.2.2.2.1 (Or.inl c)).2
    omega
  have e11 : ∀ (g : Nat) (u : Ty), TWf (g + 1) Γ.length [a0.1] u → nKd u = 11 → mch (nX u) + 2 ≤ mch u := by
    intro g u wu c
    have em := mch_is wu.1.2.1
    rw [if_neg (by omega), if_neg (by omega), if_neg (by omega), if_neg (by omega)] at em
    omega
  have e9 : ∀ (g : Nat) (u : Ty), TWf (g + 1) Γ.length [a0.1] u → nKd u = 9 → mch (nX u) + 2 ≤ mch u := by
    intro g u wu c
    have em := mch_is wu.1.2.1
    rw [if_neg (by omega), if_neg (by omega), if_pos c] at em
    have := tch_pos (wu.2.2.2.2.2.1 c).2.1
    omega
  have e12 : ∀ (g : Nat) (u : Ty), TWf (g + 1) Γ.length [a0.1] u → nKd u = 12 → mch (nX u) + 3 ≤ mch u ∧ mch (nY u) + 3 ≤ mch u := by
    intro g u wu c
    have em := mch_is wu.1.2.1
    rw [if_neg (by omega), if_neg (by omega), if_neg (by omega), if_neg (by omega)] at em
    have y := wu.2.2.2.1 (Or.inr c)
    have := mch_pos' y.1
    have := mch_pos' y.2
    omega
  -- two operations outside, seven characters below, no choice
  have lev2 : ∀ (g : Nat) (v R : Ty) (b1 b : Bool), TWf g Γ.length [a0.1] v → TNo g v → ¬ CHo g v [b1, b] → mch v ≤ 7 → nKd v ≠ 12 → tyF g v Γ [a0] = .inr R → False := by
    intro g v R b1 b wv nv nv2 m7 k12 hR
    cases g with
    | zero => exact wv.elim
    | succ g =>
      refine nv2 ⟨fun c => Classical.byContradiction (fun n => ?_), fun c => Classical.byContradiction (fun n => ?_), fun c => Classical.byContradiction (fun n => ?_), fun c i hi hb => Classical.byContradiction (fun n => ?_), fun c => absurd c k12⟩
      · have := bnd6 g v _ wv c n
        simp only [List.tail_cons, List.length_cons, List.length_nil] at this
        omega
      · rcases c with c | c
        · have := cf4 _ _ _ (wv.2.2.2.1 (Or.inl c)).1 (nv.2.1 (Or.inl c)).1 n
          have := e7 g v wv c
          omega
        · have := e11 g v wv c
          exact step g v R wv nv (Or.inr c) (fun q => n (cft_cho _ _ _ q)) (by omega) hR
      · have := e9 g v wv c
        exact step g v R wv nv (Or.inl c) (fun q => n (cft_cho _ _ _ q)) (by omega) hR
      · have := fld g v _ wv c i hi hb n
        simp only [List.tail_cons, List.length_cons, List.length_nil] at this
        omega
  -- one operation outside, nine characters below
  have lev1 : ∀ (g : Nat) (u R : Ty) (b : Bool), TWf g Γ.length [a0.1] u → TNo g u → ¬ CHo g u [b] → mch u ≤ 8 → tyF g u Γ [a0] = .inr R → False := by
    intro g u R b wu nu nu2 m9 hR
    cases g with
    | zero => exact wu.elim
    | succ g =>
      -- a choice under an operation that is no instance
      have cho : ∀ (v : Ty), TWf g Γ.length [a0.1] v → TNo g v → nKd v = 12 → mch v ≤ 7 → ¬ CHo g v [false, b] → False := by
        intro v wv nv k m7 n
        cases g with
        | zero => exact wv.elim
        | succ g =>
          have e := e12 g v wv k
          refine n ⟨fun c => by omega, fun c => by omega, fun c => by omega, fun c => by omega, fun _ => ⟨by cases b <;> rfl, Classical.byContradiction (fun n => ?_), Classical.byContradiction (fun n => ?_)⟩⟩
          · have := cf4 _ _ _ (wv.2.2.2.1 (Or.inr k)).1 (nv.2.1 (Or.inr k)).1 n
            omega
          · have := cf4 _ _ _ (wv.2.2.2.1 (Or.inr k)).2 (nv.2.1 (Or.inr k)).2 n
            omega
      refine nu2 ⟨fun c => Classical.byContradiction (fun n => ?_), fun c => Classical.byContradiction (fun n => ?_), fun c => Classical.byContradiction (fun n => ?_), fun c i hi hb => Classical.byContradiction (fun n => ?_), fun c => ⟨by cases b <;> rfl, Classical.byContradiction (fun n => ?_), Classical.byContradiction (fun n => ?_)⟩⟩
      · have := bnd6 g u _ wu c n
        simp only [List.tail_cons, List.length_nil] at this
        omega
      · rcases c with c | c
        · have e := e7 g u wu c
          obtain ⟨R1, h1⟩ := sub7 g u R c hR
          by_cases k : nKd (nX u) = 12
          · exact cho _ (wu.2.2.2.1 (Or.inl c)).1 (nu.2.1 (Or.inl c)).1 k (by omega) n
          · exact lev2 g _ R1 false b (wu.2.2.2.1 (Or.inl c)).1 (nu.2.1 (Or.inl c)).1 n (by omega) k h1
        · have e := e11 g u wu c
          obtain ⟨R1, h1⟩ := sub11 g u R c hR
          by_cases k : nKd (nX u) = 12
          · exact cho _ (wu.2.2.2.2.2.2.2.1 c).2 (nu.2.2.1 (Or.inr c)) k (by omega) n
          · exact lev2 g _ R1 false b (wu.2.2.2.2.2.2.2.1 c).2 (nu.2.2.1 (Or.inr c)) n (by omega) k h1
      · have e := e9 g u wu c
        obtain ⟨R1, h1⟩ := sub9 g u R wu c hR
        by_cases k : nKd (nX u) = 12
        · exact ins_cho3 he hv hI wu nu c k m9 hR
        · exact lev2 g _ R1 true b (wu.2.2.2.2.2.1 c).1 (nu.2.2.1 (Or.inl c)) n (by omega) k h1
      · have := fld g u _ wu c i hi hb n
        simp only [List.tail_cons, List.length_nil] at this
        omega
      · have e := e12 g u wu c
        have := cho_min9 _ _ _ _ _ (wu.2.2.2.1 (Or.inr c)).1 (nu.2.1 (Or.inr c)).1 n
        simp only [List.length_cons, List.length_nil] at this
        omega
      · have e := e12 g u wu c
        have := cho_min9 _ _ _ _ _ (wu.2.2.2.1 (Or.inr c)).2 (nu.2.1 (Or.inr c)).2 n
        simp only [List.length_cons, List.length_nil] at this
        omega
  cases f with
  | zero => exact w.elim
  | succ f =>
    refine nc ⟨fun c => Classical.byContradiction (fun n => ?_), fun c => Classical.byContradiction (fun n => ?_), fun c => Classical.byContradiction (fun n => ?_), fun c i hi hb => Classical.byContradiction (fun n => ?_), fun c => ⟨rfl, Classical.byContradiction (fun n => ?_), Classical.byContradiction (fun n => ?_)⟩⟩
    · have := bnd6 f t _ w c n
      simp only [List.tail_nil, List.length_nil] at this
      omega
    · rcases c with c | c
      · have e := e7 f t w c
        obtain ⟨R1, h1⟩ := sub7 f t S c hS
        exact lev1 f _ R1 false (w.2.2.2.1 (Or.inl c)).1 (tn.2.1 (Or.inl c)).1 n (by omega) h1
      · have e := e11 f t w c
        obtain ⟨R1, h1⟩ := sub11 f t S c hS
        exact lev1 f _ R1 false (w.2.2.2.2.2.2.2.1 c).2 (tn.2.2.1 (Or.inr c)) n (by omega) h1
    · have e := e9 f t w c
      obtain ⟨R1, h1⟩ := sub9 f t S w c hS
      exact lev1 f _ R1 true (w.2.2.2.2.2.1 c).1 (tn.2.2.1 (Or.inl c)) n (by omega) h1
    · have := fld f t _ w c i hi hb n
      simp only [List.tail_nil, List.length_nil] at this
      omega
    · have e := e12 f t w c
      have := cho_min9 _ _ _ _ _ (w.2.2.2.1 (Or.inr c)).1 (tn.2.1 (Or.inr c)).1 n
      simp only [List.length_nil] at this
      omega
    · have e := e12 f t w c
      have := cho_min9 _ _ _ _ _ (w.2.2.2.1 (Or.inr c)).2 (tn.2.1 (Or.inr c)).2 n
      simp only [List.length_nil] at this
      omega
end PmZG3
