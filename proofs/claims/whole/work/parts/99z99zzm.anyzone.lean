/-! A ZONE, choices anywhere: what the bounds of schemes are worth is within the table. -/
def gkc (F W : FrT) (K Y y E0 p : Nat) : Bool := (List.range (K + 1)).all (fun n => Nat.ble (Zx F (gyw W Y n) (K - n + 2)) (E0 + p * y) && (frg F n).all (fun u => Nat.ble u.1 p && Nat.ble u.2 E0))
def gqx (F W : FrT) (hv K La : Nat) (s : T6) : Bool := gkc F W K (Zx F s.1 (max La 3 + 2)) s.1 s.2.2.1 s.2.2.2.1 && (Nat.ble s.1 (Zx F s.1 (max La 3 + 2)) && (Nat.ble (Zx F (Zx F s.1 (max La 3 + 2)) 5) (Zx F s.1 (max La 3 + 2)) && (Nat.ble La 4 || Nat.ble (hv + max 1 (Zx F s.1 6)) (Zx F s.1 (max La 3 + 2)))))
theorem Zx_fold9 {x M : Nat} : ∀ (l : List (Nat × Nat)), (∀ u ∈ l, u.2 + u.1 * x ≤ M) → l.foldr (fun u a => max (u.2 + u.1 * x) a) 0 ≤ M
  | [], _ => Nat.zero_le _
  | a :: l, h => by
    rw [List.foldr_cons]
    exact Nat.max_le.mpr ⟨h a (List.mem_cons_self ..), Zx_fold9 l (fun u hu => h u (List.mem_cons_of_mem _ hu))⟩
section PmZm1
variable {t0 fn s2 hv r0 r1 r2 r3 x0 : Nat} {n1 h : Nat → Nat} {P Q : List (List Nat)} {F G W : FrT} {X : List Nat} {K Y y E0 p X7 La : Nat} {eb e2 : Nat → Nat}
/-- a text under what waits -/
theorem gq_E (T : TBs 58 t0 fn s2 hv r0 r1 r2 r3 x0 n1 h P Q F G X) (hm : ∀ y y', y ≤ y' → h y ≤ h y') (hFm : frm F = true) (hW0 : ∀ b, Y ≤ gyw W Y b) (he : ∀ z z', z ≤ z' → eb z ≤ eb z') (he2 : ∀ z z', z ≤ z' → e2 z ≤ e2 z') (hb : ∀ z, E0 + p * max z y ≤ eb z) (hK : gkc F W K Y y E0 p = true) (K30 : K ≤ 30) (y01 : x0 ≤ Y) (A : Ty) (ω : List Nat) (b : Nat) (o : ok ω.length A = true) (hk : tch A + b ≤ K) (hw : ∀ j, j < ω.length → vw ω j ≤ gyw W Y b) : ∀ ρ : Stk, ρ ≠ [] → vz t0 n1 s2 h (E2 (max X7 (eb 0)) eb e2) A ρ ω ≤ E2 (max X7 (eb 0)) eb e2 ρ := by
  intro ρ hρ
  have q := vz_upE (t0 := t0) (n1 := n1) (s2 := s2) (h := h) (E := E2 (max X7 (eb 0)) eb e2) (fun q ρ => E2_m he he2 q ρ) hm _ A ρ ω (Nat.le_refl _) o
  refine Nat.le_trans q (Nat.max_le.mpr ⟨Nat.le_refl _, ?_⟩)
  have q2 := Zx_leh T (x := max (gyw W Y b) (zm ρ)) (z := zm ρ) (ω := ω) (A := A) o (by omega) (Nat.le_trans y01 (Nat.le_trans (hW0 b) (Nat.le_max_left _ _))) (Nat.le_max_right _ _) (fun j hj => Nat.le_trans (hw j hj) (Nat.le_max_left _ _))
  refine Nat.le_trans q2 ?_
  have e0 : eb 0 ≤ E2 (max X7 (eb 0)) eb e2 ρ := Nat.le_trans (Nat.le_max_right _ _) (E2_0 ρ)
  have b0 := hb 0
  have m0 : max 0 y = y := Nat.max_eq_right (Nat.zero_le _)
  rw [m0] at b0
  unfold gkc at hK
  have c1 := rng_all hK (i := b) (by omega)
  have c2 := rng_all hK (i := tch A) (by omega)
  rw [Bool.and_eq_true] at c1 c2
  have c1 := Nat.le_of_ble_eq_true c1.1
  have q3 : Zx F (gyw W Y b) (tch A + 2) ≤ Zx F (gyw W Y b) (K - b + 2) := Zx_ms hFm (by omega) (by omega)
  by_cases g : zm ρ ≤ gyw W Y b
  · rw [Nat.max_eq_left g]
    omega
  · rw [Nat.max_eq_right (by omega)]
    have hs' : hs ρ = true := by
      cases e : hs ρ with
      | true => rfl
      | false => exact absurd (zm_hs ρ e) (by omega)
    refine Nat.le_trans ?_ (E2_e ρ hs')
    refine Nat.le_trans ?_ (hb (zm ρ))
    show (frg F (tch A)).foldr (fun u a => max (u.2 + u.1 * zm ρ) a) 0 ≤ _
    refine Zx_fold9 _ (fun u hu => ?_)
    have d := List.all_eq_true.mp c2.2 u hu
    rw [Bool.and_eq_true] at d
    have d1 := Nat.le_of_ble_eq_true d.1
    have d2 := Nat.le_of_ble_eq_true d.2
    have d3 := Nat.mul_le_mul d1 (Nat.le_max_left (zm ρ) y)
    omega
theorem HUB_of {E : Stk → Nat} : ∀ {Γ : List Ty}, okc Γ → (∀ (Δ' : List Ty) (b' : Ty) (Γ' : List Ty), Γ = Δ' ++ b' :: Γ' → ok Γ'.length b' = true → UB t0 n1 s2 h E Y b' (onz t0 n1 s2 h Γ')) → HUB t0 n1 s2 h E Y Γ (onz t0 n1 s2 h Γ)
  | [], _, _ => trivial
  | b :: Γ, hc, hp => ⟨hp [] b Γ rfl hc.1, HUB_of hc.2 (fun Δ' b' Γ' e o => hp (b :: Δ') b' Γ' (by rw [e]; rfl) o)⟩
theorem UB_is2 {E : Stk → Nat} : ∀ (f : Nat) (t : Ty) (ω : List Nat), (flat t).length ≤ f → ok ω.length t = true → IS2 (fun s => UB t0 n1 s2 h E Y s ω) t → UB t0 n1 s2 h E Y t ω
  | 0, t, ω, hf, o, _ => by have := flat_pos o; omega
  | f + 1, t, ω, hf, o, hi => by
    rcases ok_cases o with rfl | ⟨j, hj, rfl⟩ | ⟨a, c, rfl, ha, hb⟩ | ⟨a, c, rfl, ha, hb⟩ | ⟨m, x, y, z, hm, rfl, h0, h1, h2⟩
    · exact UB_top _
    · exact UB_var _ _
    · rw [flat_fun, List.length_cons, List.length_append] at hf
      exact UB_fun.mpr (UB_is2 f c ω (by omega) hb (IS2_fun hi))
    · exact IS2_all hi
    · rw [flat_rec, List.length_cons, List.length_append, List.length_append] at hf
      obtain ⟨i0, i1, i2⟩ := IS2_rec hi
      have key : ∀ (i : Nat) (p : Ty), (flat p).length ≤ f → okl ω.length m i p → IS2 (fun s => UB t0 n1 s2 h E Y s ω) p → UB t0 n1 s2 h E Y p ω := by
        intro i p hp ho ip
        unfold okl at ho
        by_cases hb : bit m i = true
        · rw [if_pos hb] at ho
          exact UB_is2 f p ω hp ho ip
        · rw [if_neg hb] at ho
          rw [ho]; exact UB_nil _
      exact UB_rec.mpr ⟨key 0 x (by omega) h0 i0, key 1 y (by omega) h1 i1, key 2 z (by omega) h2 i2⟩
end PmZm1
section PmZm2
variable {t0 fn s2 hv r0 r1 r2 r3 x0 : Nat} {n1 h : Nat → Nat} {P Q : List (List Nat)} {F G W : FrT} {X : List Nat}
theorem gen_zjqo (hn : NC t0 n1 s2 h) (hm : ∀ y y', y ≤ y' → h y ≤ h y') (hh : ∀ y δ, h (y + δ) ≤ h y + δ) (T : TBs 58 t0 fn s2 hv r0 r1 r2 r3 x0 n1 h P Q F G X) (hFm : frm F = true) (hgr : fgc F W hv = true) (hWm : fgm W = true) (hW1 : fg1s W = true) (hW : (1, 0) ∈ frg W 0) (H1 : ∀ y, h y ≤ hv + max 1 y) (s21 : 1 ≤ s2) {f : Nat} {t S b b' B C : Ty} {Γ0 Δ1 : List Ty} {Δ : List (Nat × Ty × Nat)} {a5 ob cd Bd y1 κ wB : Nat} {v : Nat × Nat} (ds : DSp Γ0.length (tAll B C) b' b) (w : TWf f (cxs Δ1 Γ0 b).length (Δ.map (fun a => a.1)) t) (he : TE (cxs Δ1 Γ0 b) Δ) (cu : TNo f t) (hΔ1 : Δ.length ≤ 1) (nD : Δ ≠ []) (hm30 : mch t ≤ 30) (hdc : dch Δ ≤ cd) (hcd : cd ≤ 56) (a55 : a5 ≤ 5) (ha5 : Δ ≠ [] → a5 = 0) (hb0 : ∀ a ∈ Γ0, OBs ob a) (hb1 : ∀ a ∈ Δ1, OBs ob a) (hbs : ∀ B' C', ok Γ0.length (tAll B' C') = true → tch C' ≤ tch C → tch (tAll B' C') + tch (tAll B C) + 5 ≤ tch b → tch C' ≤ 40 ∧ lmx xr1 (tch C') ≤ ob ∧ lmx fr1 (tch C') ≤ ob) (q38 : cch Δ1 ≤ 38) (q56 : cch Γ0 ≤ 56) (e1 : max x0 (X.getD (cch Γ0) 0) ≤ y1) (hκ : nz t0 n1 s2 h (onz t0 n1 s2 h Γ0) b' ≤ κ) (hwB : h (nz t0 n1 s2 h (onz t0 n1 s2 h Γ0) B) ≤ wB) (hv1 : xt (Γ0.length + 1) C ≤ v.1) (hv2 : xa t0 n1 s2 hv (Γ0.length + 1) C ≤ v.2) {K La : Nat} (hLK : La ≤ K) (K30 : K ≤ 30) (kB : tch B ≤ K) (kC : tch C ≤ K + 5) (kq1 : cch Γ0 ≤ K + 9) (kq2 : cch Δ1 ≤ K + 9) (kov : tch b ≤ tch (tAll B C) + K + 10) (kcd : dch Δ ≤ K + 9) (hM : mch t ≤ La + 8) (hM16 : mch t ≤ 16) (hLa : 13 ≤ mch t → 5 ≤ La) (hT : ∀ p, p ≤ v.1 → ∀ u ∈ frg W (cch Δ1), ∃ s : T6, (TiD hv s2 κ wB y1 ob (tch C) p v u s ∧ ∃ w0 ∈ frg F s.2.2.2.2.2, ob + 1 ≤ w0.1) ∧ gqx F W hv K La s = true ∧ dpDo F W a5 hv fn s2 r0 r1 r2 r3 s.2.2.1 s.2.2.2.1 s.1 s.2.2.2.2.1 s.2.2.2.2.2 s.1 cd (mch t) ≤ Bd) (hS : tyF f t (cxs Δ1 Γ0 b) Δ = .inr S) : nz t0 n1 s2 h (onz t0 n1 s2 h (cxs Δ1 Γ0 b)) S ≤ Bd := by
  obtain ⟨oc0, oB⟩ := okc_low Δ1 he.1
  obtain ⟨ob', oσ, cσ, nσ, iσ⟩ := ds
  have oC := (ok_all.mp oσ).2
  have l0 := onz_len t0 n1 s2 h Γ0
  have l1 := onz_len t0 n1 s2 h (cxs Δ1 Γ0 b)
  have x01 : x0 ≤ y1 := Nat.le_trans (Nat.le_max_left _ _) e1
  have hω : ∀ j, j < (onz t0 n1 s2 h Γ0).length → vw (onz t0 n1 s2 h Γ0) j ≤ y1 := fun j hj => Nat.le_trans (onz_chars T.1 T.2.1 T.2.2.1 T.2.2.2.1 T.2.2.2.2.1 Γ0 oc0 q56 j (by rw [l0] at hj; exact hj)) (Nat.le_trans (Nat.le_max_right _ _) e1)
  rw [xt_xo] at hv1
  have vC : ∀ z, nz t0 n1 s2 h (z :: onz t0 n1 s2 h Γ0) C ≤ v.2 + (v.1 - xf (Γ0.length + 1) Γ0.length C) * y1 + xf (Γ0.length + 1) Γ0.length C * z := by
    intro z
    have q := nz_xo (t0 := t0) (n1 := n1) (s2 := s2) H1 (t := C) (ω := onz t0 n1 s2 h Γ0) (z := z) (by rw [l0]; exact oC) hω
    rw [l0] at q
    have q2 := Nat.mul_le_mul_right y1 (show xo Γ0.length C ≤ v.1 - xf (Γ0.length + 1) Γ0.length C by omega)
    omega
  have hp : xf (Γ0.length + 1) Γ0.length C ≤ v.1 := by omega
  generalize xf (Γ0.length + 1) Γ0.length C = p at *
  have vA : nz t0 n1 s2 h (onz t0 n1 s2 h Γ0) (tAll B C) ≤ s2 + (v.2 + (v.1 - p) * y1 + p * wB) := by
    rw [nz_all]
    have q := vC (h (nz t0 n1 s2 h (onz t0 n1 s2 h Γ0) B))
    have q2 := Nat.mul_le_mul_left p hwB
    omega
  have vZ : ∀ z, nz t0 n1 s2 h (hzx h z (nz t0 n1 s2 h (onz t0 n1 s2 h Γ0) B) :: onz t0 n1 s2 h Γ0) C ≤ v.2 + (v.1 - p) * y1 + p * max z wB := by
    intro z
    have q := vC (hzx h z (nz t0 n1 s2 h (onz t0 n1 s2 h Γ0) B))
    have q2 : hzx h z (nz t0 n1 s2 h (onz t0 n1 s2 h Γ0) B) ≤ max z wB := by
      unfold hzx
      omega
    have q3 := Nat.mul_le_mul_left p q2
    omega
  have vb : nz t0 n1 s2 h (onz t0 n1 s2 h Γ0) b ≤ κ + (s2 + (v.2 + (v.1 - p) * y1 + p * wB)) := by
    have := nσ t0 n1 s2 h (onz t0 n1 s2 h Γ0)
    omega
  have EA1 : 1 ≤ κ + (s2 + (v.2 + (v.1 - p) * y1 + p * wB)) := by omega
  have h0' : ∀ j, j < (b :: Γ0).length → vw (onz t0 n1 s2 h (b :: Γ0)) j ≤ max y1 (hv + (κ + (s2 + (v.2 + (v.1 - p) * y1 + p * wB)))) := by
    intro j hj
    show vw (h (nz t0 n1 s2 h (onz t0 n1 s2 h Γ0) b) :: onz t0 n1 s2 h Γ0) j ≤ _
    rw [vw_cons, l0]
    by_cases e : j = Γ0.length
    · rw [if_pos e]
      have := H1 (nz t0 n1 s2 h (onz t0 n1 s2 h Γ0) b)
      omega
    · rw [if_neg e]
      rw [List.length_cons] at hj
      exact Nat.le_trans (hω j (by rw [l0]; omega)) (Nat.le_max_left _ _)
  obtain ⟨u, hu, u1, hw⟩ := onz_gr T hgr hW (Nat.le_trans x01 (Nat.le_max_left _ _)) h0' Δ1 he.1 q38
  obtain ⟨s, ⟨⟨k1, k2, k3, k4, k5, k6, k7⟩, k8⟩, gq, R⟩ := hT p hp u hu
  have hw' : ∀ j, j < (cxs Δ1 Γ0 b).length → vw (onz t0 n1 s2 h (cxs Δ1 Γ0 b)) j ≤ s.1 := fun j hj => Nat.le_trans (hw j hj) k1
  have y01 : x0 ≤ s.1 := by
    have a1 := Nat.mul_le_mul_right (max y1 (hv + (κ + (s2 + (v.2 + (v.1 - p) * y1 + p * wB))))) u1
    have a2 := Nat.le_max_left y1 (hv + (κ + (s2 + (v.2 + (v.1 - p) * y1 + p * wB))))
    omega
  have hA2 : HS2 t0 n1 s2 h (ebw F W hv s.1 cd (mch t) s.2.2.1 s.2.2.2.1 s.1 s.2.2.2.2.1) (e2w F W hv s.1 cd (mch t) s.2.2.2.2.2) (onz t0 n1 s2 h Γ0) (tAll B C) := by
    refine ⟨B, C, rfl, fun z => ?_, fun z => ?_⟩
    · refine Nat.le_trans (vZ z) ?_
      have a1 : p * max z wB ≤ s.2.2.2.1 * max z s.1 := Nat.mul_le_mul k3 (by omega)
      unfold ebw
      exact le_mx (Or.inl (le_mx (Or.inl (by omega))))
    · have q4 := Zx_leh T (x := max z s.1) (z := z) (ω := hzx h z (nz t0 n1 s2 h (onz t0 n1 s2 h Γ0) B) :: onz t0 n1 s2 h Γ0) (A := C) (by rw [List.length_cons, l0]; exact oC) (by omega) (by omega) (by omega) (fun j hj => by
        rw [vw_cons]
        by_cases e : j = (onz t0 n1 s2 h Γ0).length
        · rw [if_pos e]
          unfold hzx
          omega
        · rw [if_neg e]
          rw [List.length_cons] at hj
          have q := onz_low (t0 := t0) (n1 := n1) (s2 := s2) (h := h) (Γ0 := Γ0) (β := b) Δ1 (j := j) (by rw [l0] at hj e; omega)
          have q2 := hw' j (by rw [cxs_len]; rw [l0] at hj e; omega)
          rw [q] at q2
          omega)
      have q5 := Zx_ms hFm (x := max z s.1) (s := tch C + 2) (s' := s.2.2.2.2.2 + 2) (by omega) (by omega)
      unfold e2w
      exact le_mx (Or.inl (Nat.le_trans q4 q5))
  have few : ∀ (Γ' : List Ty) (B' C' : Ty), ok Γ'.length (tAll B' C') = true → nz t0 n1 s2 h (onz t0 n1 s2 h Γ') (tAll B' C') ≤ s.1 → tch C' ≤ 40 → lmx xr1 (tch C') ≤ ob → lmx fr1 (tch C') ≤ ob → HS2 t0 n1 s2 h (ebw F W hv s.1 cd (mch t) s.2.2.1 s.2.2.2.1 s.1 s.2.2.2.2.1) (e2w F W hv s.1 cd (mch t) s.2.2.2.2.2) (onz t0 n1 s2 h Γ') (tAll B' C') := by
    intro Γ' B' C' o' q c1 c2 c3
    have l2 := onz_len t0 n1 s2 h Γ'
    have oC' := (ok_all.mp o').2
    refine ⟨B', C', rfl, fun z => ?_, fun z => ?_⟩
    · have a1 := sch_rse (t0 := t0) (n1 := n1) (s2 := s2) hm hh (B := B') (C := C') (ω := onz t0 n1 s2 h Γ') (by rw [l2]; exact o') z
      rw [l2] at a1
      have a2 := Nat.mul_le_mul_right z (Nat.le_trans (xf_lx oC' (by omega)) (Nat.le_trans c2 k4))
      unfold ebw
      omega
    · have q4 := nz_flv (t0 := t0) (n1 := n1) (s2 := s2) hm hh (z := z) _ C' (h (nz t0 n1 s2 h (onz t0 n1 s2 h Γ') B') :: onz t0 n1 s2 h Γ') (hzx h z (nz t0 n1 s2 h (onz t0 n1 s2 h Γ') B') :: onz t0 n1 s2 h Γ') z (Nat.le_refl _) (by rw [List.length_cons, List.length_cons]) (by rw [List.length_cons, l2]; exact oC') (Nat.le_refl _) (fun j hj => by
        rw [vw_cons, vw_cons]
        by_cases e : j = (onz t0 n1 s2 h Γ').length
        · rw [if_pos e, if_pos e]
          unfold hzx
          omega
        · rw [if_neg e, if_neg e]
          omega)
      obtain ⟨w0, hw0, hw1⟩ := k8
      have q5 := Zx_mem (x := max z s.1) (frg F s.2.2.2.2.2) w0 hw0
      have q6 : (frg F s.2.2.2.2.2).foldr (fun u a => max (u.2 + u.1 * max z s.1) a) 0 = Zx F (max z s.1) (s.2.2.2.2.2 + 2) := rfl
      rw [q6] at q5
      have q7 : (flv C' + 1) * max z s.1 ≤ w0.1 * max z s.1 := Nat.mul_le_mul_right _ (by have := flv_lmx oC' (Nat.le_refl _) (by omega); omega)
      have q8 : flv C' * z ≤ flv C' * max z s.1 := Nat.mul_le_mul_left _ (Nat.le_max_left _ _)
      have q9 := Nat.le_max_right z s.1
      rw [Nat.add_mul, Nat.one_mul] at q7
      rw [nz_all] at q
      unfold e2w
      exact le_mx (Or.inl (by omega))
  unfold gqx at gq
  rw [Bool.and_eq_true, Bool.and_eq_true, Bool.and_eq_true, Bool.or_eq_true] at gq
  obtain ⟨gk, gy1, gy2, gy3⟩ := gq
  have gy1 := Nat.le_of_ble_eq_true gy1
  have gy2 := Nat.le_of_ble_eq_true gy2
  generalize hYq : Zx F s.1 (max La 3 + 2) = Yq at gk gy1 gy2 gy3
  have go : ∀ Z, AQh t0 n1 s2 h (E2 (X7q F W hv s.1 cd (mch t) s.2.2.1 s.2.2.2.1 s.1 s.2.2.2.2.1) (ebw F W hv s.1 cd (mch t) s.2.2.1 s.2.2.2.1 s.1 s.2.2.2.2.1) (e2w F W hv s.1 cd (mch t) s.2.2.2.2.2)) Z f t [] (onz t0 n1 s2 h (cxs Δ1 Γ0 b)) → HEk t0 n1 s2 h (E2 (X7q F W hv s.1 cd (mch t) s.2.2.1 s.2.2.2.1 s.1 s.2.2.2.2.1) (ebw F W hv s.1 cd (mch t) s.2.2.1 s.2.2.2.1 s.1 s.2.2.2.2.1) (e2w F W hv s.1 cd (mch t) s.2.2.2.2.2)) (cxs Δ1 Γ0 b) (onz t0 n1 s2 h (cxs Δ1 Γ0 b)) → GOk t0 n1 s2 h (E2 (X7q F W hv s.1 cd (mch t) s.2.2.1 s.2.2.2.1 s.1 s.2.2.2.2.1) (ebw F W hv s.1 cd (mch t) s.2.2.1 s.2.2.2.1 s.1 s.2.2.2.2.1) (e2w F W hv s.1 cd (mch t) s.2.2.2.2.2)) f t [] (onz t0 n1 s2 h (cxs Δ1 Γ0 b)) (cxs Δ1 Γ0 b) Δ := by
    intro Z aq hk
    have Yg : ∀ bb, Yq ≤ gyw W Yq bb := by
      intro bb
      have a0 := Zx_mem (x := Yq) (frg W 0) (1, 0) hW
      simp only at a0
      have a1 : Yq ≤ gyw W Yq 0 := by
        show Yq ≤ (frg W 0).foldr (fun u a => max (u.2 + u.1 * Yq) a) 0
        omega
      exact Nat.le_trans a1 (gyw_mono hWm (Nat.zero_le _))
    have xY : x0 ≤ Yq := Nat.le_trans y01 gy1
    have ebb : ∀ z, s.2.2.1 + s.2.2.2.1 * max z s.1 ≤ ebw F W hv s.1 cd (mch t) s.2.2.1 s.2.2.2.1 s.1 s.2.2.2.2.1 z := fun z => by
      unfold ebw
      exact le_mx (Or.inl (le_mx (Or.inl (Nat.le_refl _))))
    have hG := fun A ω bb => gq_E (t0 := t0) (n1 := n1) (s2 := s2) (h := h) (X7 := X7w F W s.1 cd (mch t)) (e2 := e2w F W hv s.1 cd (mch t) s.2.2.2.2.2) T hm hFm Yg ebw_mono e2w_mono ebb gk K30 xY A ω bb
    have hgr' : ∀ (A : Ty) (ω : List Nat) (bb : Nat), ok ω.length A = true → tch A + bb ≤ K → (∀ j, j < ω.length → vw ω j ≤ gyw W Yq bb) → h (nz t0 n1 s2 h ω A) ≤ gyw W Yq (bb + tch A + 4) := fun A ω bb o hk' hw'' => ((dh_ok (un := true) (a5 := 0) (ob := 0) (cd := 0) (wB := 0) (y := Yq) (E0 := 0) (p := 0) (k := 0) (mt := 0) hn hm T hFm hgr hWm hW1 hW H1 (by omega) (by omega) xY).gr A ω bb o (by omega) hw'').1
    have tx := fun (A : Ty) (ω : List Nat) (o : ok ω.length A = true) (hk' : tch A ≤ K + 5) (hw'' : ∀ j, j < ω.length → vw ω j ≤ Yq) => txt_UB (t0 := t0) (n1 := n1) (s2 := s2) (h := h) (E := (E2 (X7q F W hv s.1 cd (mch t) s.2.2.1 s.2.2.2.1 s.1 s.2.2.2.2.1) (ebw F W hv s.1 cd (mch t) s.2.2.1 s.2.2.2.1 s.1 s.2.2.2.2.1) (e2w F W hv s.1 cd (mch t) s.2.2.2.2.2))) (Y := Yq) (K := K) (g := gyw W Yq) (fun b1 b2 hb => gyw_mono hWm hb) (Yg 0) hgr' hG _ A ω 0 (Nat.le_refl _) o (by omega) (fun j hj => Nat.le_trans (hw'' j hj) (Yg 0))
    have wY : ∀ j, j < (cxs Δ1 Γ0 b).length → vw (onz t0 n1 s2 h (cxs Δ1 Γ0 b)) j ≤ Yq := fun j hj => Nat.le_trans (hw' j hj) gy1
    have low : ∀ (Δ' : List Ty) (b1 : Ty) (Γ' : List Ty), cxs Δ1 Γ0 b = Δ' ++ b1 :: Γ' → ∀ j, j < (onz t0 n1 s2 h Γ').length → vw (onz t0 n1 s2 h Γ') j ≤ Yq := by
      intro Δ' b1 Γ' e j hj
      have lo := onz_len t0 n1 s2 h Γ'
      have q := onz_low (t0 := t0) (n1 := n1) (s2 := s2) (h := h) (Γ0 := Γ') (β := b1) Δ' (j := j) (by rw [lo] at hj; exact hj)
      have e' : cxs Δ1 Γ0 b = cxs Δ' Γ' b1 := e
      have q2 := wY j (by rw [e', cxs_len]; rw [lo] at hj; omega)
      rw [e', q] at q2
      exact q2
    have hU : HUB t0 n1 s2 h (E2 (X7q F W hv s.1 cd (mch t) s.2.2.1 s.2.2.2.1 s.1 s.2.2.2.2.1) (ebw F W hv s.1 cd (mch t) s.2.2.1 s.2.2.2.1 s.1 s.2.2.2.2.1) (e2w F W hv s.1 cd (mch t) s.2.2.2.2.2)) Yq (cxs Δ1 Γ0 b) (onz t0 n1 s2 h (cxs Δ1 Γ0 b)) := by
      refine HUB_of he.1 (fun Δ' b1 Γ' e o => ?_)
      have lo := onz_len t0 n1 s2 h Γ'
      have o' : ok (onz t0 n1 s2 h Γ').length b1 = true := by rw [lo]; exact o
      have lw := low Δ' b1 Γ' e
      rcases app_cut Δ1 Δ' e with m | ⟨m1, m2⟩ | m
      · obtain ⟨d, o1, o2⟩ := okc_top Δ1 he.1 b1 m
        exact tx b1 _ o' (by omega) lw
      · subst m1
        subst m2
        refine UB_is2 _ b1 _ (Nat.le_refl _) o' ?_
        have hh' : IS2 (fun s' => UB t0 n1 s2 h (E2 (X7q F W hv s.1 cd (mch t) s.2.2.1 s.2.2.2.1 s.1 s.2.2.2.2.1) (ebw F W hv s.1 cd (mch t) s.2.2.1 s.2.2.2.1 s.1 s.2.2.2.2.1) (e2w F W hv s.1 cd (mch t) s.2.2.2.2.2)) Yq s' (onz t0 n1 s2 h Γ')) b1 := by
          refine IS2_okt _ Γ'.length b1 (Nat.le_refl _) oB (fun s' o3 t3 n3 d3 => ?_) iσ
          rcases d3 with d3 | ⟨d4, d5, d6, d7⟩
          · rw [d3]
            obtain ⟨oBB, oCC⟩ := ok_all.mp oσ
            refine UB_all.mpr ⟨hG B _ 0 (by rw [lo]; exact oBB) (by omega) (fun j hj => Nat.le_trans (lw j hj) (Yg 0)), tx B _ (by rw [lo]; exact oBB) (by omega) lw, fun z hz => ?_⟩
            refine tx C _ (by rw [List.length_cons, lo]; exact oCC) (by omega) (vw_hz lw ?_)
            unfold hzx
            omega
          · exact tx s' _ (by rw [lo]; exact d4) (by omega) lw
        exact hh'
      · obtain ⟨d, o1, o2⟩ := okc_mch oc0 m
        exact tx b1 _ o' (by omega) lw
    have dU : DU t0 n1 s2 h (E2 (X7q F W hv s.1 cd (mch t) s.2.2.1 s.2.2.2.1 s.1 s.2.2.2.2.1) (ebw F W hv s.1 cd (mch t) s.2.2.1 s.2.2.2.1 s.1 s.2.2.2.2.1) (e2w F W hv s.1 cd (mch t) s.2.2.2.2.2)) Yq (onz t0 n1 s2 h (cxs Δ1 Γ0 b)) Δ := by
      intro a ha
      obtain ⟨a1, a2, a3⟩ := he.2.2 a ha
      have ad := dch_mem ha
      have al : a.2.2 ≤ (onz t0 n1 s2 h (cxs Δ1 Γ0 b)).length := by rw [l1]; exact a1
      have ll : ((onz t0 n1 s2 h (cxs Δ1 Γ0 b)).drop ((onz t0 n1 s2 h (cxs Δ1 Γ0 b)).length - a.2.2)).length = a.2.2 := by rw [List.length_drop]; omega
      refine ⟨(onz t0 n1 s2 h (cxs Δ1 Γ0 b)).take ((onz t0 n1 s2 h (cxs Δ1 Γ0 b)).length - a.2.2), (onz t0 n1 s2 h (cxs Δ1 Γ0 b)).drop ((onz t0 n1 s2 h (cxs Δ1 Γ0 b)).length - a.2.2), (List.take_append_drop _ _).symm, ll, ?_⟩
      refine tx a.2.1 _ (by rw [ll]; exact a2) (by omega) (fun j hj => ?_)
      have q := vw_app_lo ((onz t0 n1 s2 h (cxs Δ1 Γ0 b)).take ((onz t0 n1 s2 h (cxs Δ1 Γ0 b)).length - a.2.2)) _ j hj
      rw [List.take_append_drop] at q
      rw [← q]
      exact wY j (by rw [ll] at hj; rw [l1] at al; omega)
    have P0 : TxP t0 n1 s2 h (E2 (X7q F W hv s.1 cd (mch t) s.2.2.1 s.2.2.2.1 s.1 s.2.2.2.2.1) (ebw F W hv s.1 cd (mch t) s.2.2.1 s.2.2.2.1 s.1 s.2.2.2.2.1) (e2w F W hv s.1 cd (mch t) s.2.2.2.2.2)) Yq La s.1 := fun A ω o hk' hw'' => by
      have wq : ∀ j, j < ω.length → vw ω j ≤ Yq := fun j hj => Nat.le_trans (hw'' j hj) gy1
      refine ⟨hG A ω 0 o (by omega) (fun j hj => Nat.le_trans (wq j hj) (Yg 0)), tx A ω o (by omega) wq, ?_⟩
      rw [← hYq]
      exact Nat.le_trans (Zx_le T o (by omega) y01 hw'') (Zx_ms hFm (by omega) (by omega))
    have P1 : TxP t0 n1 s2 h (E2 (X7q F W hv s.1 cd (mch t) s.2.2.1 s.2.2.2.1 s.1 s.2.2.2.2.1) (ebw F W hv s.1 cd (mch t) s.2.2.1 s.2.2.2.1 s.1 s.2.2.2.2.1) (e2w F W hv s.1 cd (mch t) s.2.2.2.2.2)) Yq 3 Yq := fun A ω o hk' hw'' => by
      refine ⟨fun ρ hρ => ?_, tx A ω o (by omega) hw'', Nat.le_trans (Zx_le T o (by omega) xY hw'') (Nat.le_trans (Zx_ms hFm (by omega) (by omega)) gy2)⟩
      rcases two_txt o (by omega) with e | ⟨j, hj, e⟩ | e
      · rw [e]
        cases ρ with
        | nil => exact absurd rfl hρ
        | cons p9 ρ => rw [vz_top]; exact Nat.zero_le _
      · rw [e]
        cases ρ with
        | nil => exact absurd rfl hρ
        | cons p9 ρ => rw [vz_var]; exact Nat.le_refl _
      · rw [e]
        unfold tR0
        cases ρ with
        | nil => exact absurd rfl hρ
        | cons p9 ρ =>
          cases p9 with
          | none => rw [vz_recN, vz_nil]; exact Nat.zero_le _
          | some z9 => rw [vz_recS]; exact Nat.zero_le _
    have h8 : 13 ≤ mch t → ∀ (B : Ty) (ω : List Nat), ok ω.length B = true → tch B ≤ 4 → (∀ j, j < ω.length → vw ω j ≤ s.1) → h (nz t0 n1 s2 h ω B) ≤ Yq := fun m13 B9 ω o hk' hw'' => by
      have l5 := hLa m13
      have g3 := gy3.resolve_left (by intro q; have := Nat.le_of_ble_eq_true q; omega)
      have g3 := Nat.le_of_ble_eq_true g3
      have q1 := H1 (nz t0 n1 s2 h ω B9)
      have q2 := Nat.le_trans (Zx_le T o (by omega) y01 hw'') (Zx_ms hFm (x := s.1) (s := tch B9 + 2) (s' := 6) (by omega) (by omega))
      omega
    obtain ⟨a0, ea⟩ : ∃ a0, Δ = [a0] := by
      match Δ, nD, hΔ1 with
      | [], nD, _ => exact absurd rfl nD
      | [a], _, _ => exact ⟨a, rfl⟩
      | a :: b :: l, _, h1 => rw [List.length_cons, List.length_cons] at h1; omega
    have w9 : TWf f (cxs Δ1 Γ0 b).length [a0.1] t := by
      have q := w
      rw [ea] at q
      exact q
    have nq := NQ_zero9 (t0 := t0) (n1 := n1) (s2 := s2) (h := h) (E := (E2 (X7q F W hv s.1 cd (mch t) s.2.2.1 s.2.2.2.1 s.1 s.2.2.2.2.1) (ebw F W hv s.1 cd (mch t) s.2.2.1 s.2.2.2.1 s.1 s.2.2.2.2.1) (e2w F W hv s.1 cd (mch t) s.2.2.2.2.2))) (Y := Yq) (M0 := mch t) gy1 P0 P1 h8 f (cxs Δ1 Γ0 b).length a0.1 t (onz t0 n1 s2 h (cxs Δ1 Γ0 b)) [] (mch t) w9 cu l1 (by simp) hM hM16 (Nat.le_refl _) hM16 (fun j hj => hw' j (by rw [l1] at hj; exact hj))
    exact GH_nq hn hm f t [] _ _ Δ w he trivial aq nq dU (onz_cv hn he.1) hk hU
  refine gen_fin6qo (a5 := a5) (cd := cd) (wB := s.1) (E0 := s.2.2.1) (p := s.2.2.2.1) (ob := s.2.2.2.2.1) (k := s.2.2.2.2.2) (y := s.1) hn hm T hFm hgr hWm hW1 hW H1 w he l1 cu hΔ1 hm30 hdc hcd a55 ha5 y01 (fun j hj => hw' j (by rw [l1] at hj; exact hj)) (HE_sfy ebw_mono e2w_mono hm hh hn (Nat.le_trans (Nat.le_max_left _ _) (Nat.le_max_left _ _)) he.1 hw' (fun Δ' b1 Γ' e' o9 w9 q => ?_)) go R hS
  have oth : OBs ob b1 → IS2 (fun s' => HS2 t0 n1 s2 h (ebw F W hv s.1 cd (mch t) s.2.2.1 s.2.2.2.1 s.1 s.2.2.2.2.1) (e2w F W hv s.1 cd (mch t) s.2.2.2.2.2) (onz t0 n1 s2 h Γ') s' ∨ ∀ z, nz t0 n1 s2 h (onz t0 n1 s2 h Γ') s' + flv s' * z ≤ ebw F W hv s.1 cd (mch t) s.2.2.1 s.2.2.2.1 s.1 s.2.2.2.2.1 z) b1 := fun c => by
    refine IS2_sch _ Γ'.length b1 (Nat.le_refl _) o9 (fun B' C' o3 n3 d3 => ?_) c
    obtain ⟨c1, c2, c3⟩ := d3 B' C' rfl
    exact Or.inl (few Γ' B' C' o3 (Nat.le_trans (n3 t0 n1 s2 h _) q) c1 c2 c3)
  rcases app_cut Δ1 Δ' e' with m | ⟨m1, m2⟩ | m
  · exact Or.inr (Or.inr (oth (hb1 b1 m)))
  · subst m1
    subst m2
    refine Or.inr (Or.inr (IS2_sch _ Γ'.length b1 (Nat.le_refl _) oB (fun B' C' o3 n3 d3 => ?_) iσ))
    rcases d3 with d3 | ⟨d4, d5, d6, d7⟩
    · rw [d3]
      exact Or.inl hA2
    · obtain ⟨c1, c2, c3⟩ := hbs B' C' d4 d5 d6
      exact Or.inl (few Γ' B' C' o3 (Nat.le_trans (n3 t0 n1 s2 h _) q) c1 c2 c3)
  · exact Or.inr (Or.inr (oth (hb0 b1 m)))
end PmZm2
section PmZm3
variable {t0 fn s2 hv r0 r1 r2 r3 x0 : Nat} {n1 h : Nat → Nat} {P Q : List (List Nat)} {F G W : FrT} {X : List Nat}
theorem gen_zjq (hn : NC t0 n1 s2 h) (hm : ∀ y y', y ≤ y' → h y ≤ h y') (hh : ∀ y δ, h (y + δ) ≤ h y + δ) (T : TBs 58 t0 fn s2 hv r0 r1 r2 r3 x0 n1 h P Q F G X) (hFm : frm F = true) (hgr : fgc F W hv = true) (hWm : fgm W = true) (hW1 : fg1s W = true) (hW : (1, 0) ∈ frg W 0) (H1 : ∀ y, h y ≤ hv + max 1 y) (s21 : 1 ≤ s2) {f : Nat} {t S b b' B C : Ty} {Γ0 Δ1 : List Ty} {Δ : List (Nat × Ty × Nat)} {a5 ob cd Bd y1 κ wB : Nat} {v : Nat × Nat} (ds : DSp Γ0.length (tAll B C) b' b) (w : TWf f (cxs Δ1 Γ0 b).length (Δ.map (fun a => a.1)) t) (he : TE (cxs Δ1 Γ0 b) Δ) (hm30 : mch t ≤ 30) (hdc : dch Δ ≤ cd) (hcd : cd ≤ 56) (a55 : a5 ≤ 5) (ha5 : Δ ≠ [] → a5 = 0) (hb0 : ∀ a ∈ Γ0, OBs ob a) (hb1 : ∀ a ∈ Δ1, OBs ob a) (hbs : ∀ B' C', ok Γ0.length (tAll B' C') = true → tch C' ≤ tch C → tch (tAll B' C') + tch (tAll B C) + 5 ≤ tch b → tch C' ≤ 40 ∧ lmx xr1 (tch C') ≤ ob ∧ lmx fr1 (tch C') ≤ ob) (q38 : cch Δ1 ≤ 38) (q56 : cch Γ0 ≤ 56) (e1 : max x0 (X.getD (cch Γ0) 0) ≤ y1) (hκ : nz t0 n1 s2 h (onz t0 n1 s2 h Γ0) b' ≤ κ) (hwB : h (nz t0 n1 s2 h (onz t0 n1 s2 h Γ0) B) ≤ wB) (hv1 : xt (Γ0.length + 1) C ≤ v.1) (hv2 : xa t0 n1 s2 hv (Γ0.length + 1) C ≤ v.2) {K La : Nat} (hLK : La ≤ K) (K30 : K ≤ 30) (kB : tch B ≤ K) (kC : tch C ≤ K + 5) (kq1 : cch Γ0 ≤ K + 9) (kq2 : cch Δ1 ≤ K + 9) (kov : tch b ≤ tch (tAll B C) + K + 10) (kcd : dch Δ ≤ K + 9) (hM : mch t ≤ La + 7) (hM16 : mch t ≤ 15) (hLa : 13 ≤ mch t → 5 ≤ La) (hT : ∀ p, p ≤ v.1 → ∀ u ∈ frg W (cch Δ1), ∃ s : T6, (TiD hv s2 κ wB y1 ob (tch C) p v u s ∧ ∃ w0 ∈ frg F s.2.2.2.2.2, ob + 1 ≤ w0.1) ∧ gqx F W hv K La s = true ∧ dpD true F W a5 hv fn s2 r0 r1 r2 r3 s.2.2.1 s.2.2.2.1 s.1 s.2.2.2.2.1 s.2.2.2.2.2 s.1 cd (mch t) ≤ Bd) (hS : tyF f t (cxs Δ1 Γ0 b) Δ = .inr S) : nz t0 n1 s2 h (onz t0 n1 s2 h (cxs Δ1 Γ0 b)) S ≤ Bd := by
  obtain ⟨oc0, oB⟩ := okc_low Δ1 he.1
  obtain ⟨ob', oσ, cσ, nσ, iσ⟩ := ds
  have oC := (ok_all.mp oσ).2
  have l0 := onz_len t0 n1 s2 h Γ0
  have l1 := onz_len t0 n1 s2 h (cxs Δ1 Γ0 b)
  have x01 : x0 ≤ y1 := Nat.le_trans (Nat.le_max_left _ _) e1
  have hω : ∀ j, j < (onz t0 n1 s2 h Γ0).length → vw (onz t0 n1 s2 h Γ0) j ≤ y1 := fun j hj => Nat.le_trans (onz_chars T.1 T.2.1 T.2.2.1 T.2.2.2.1 T.2.2.2.2.1 Γ0 oc0 q56 j (by rw [l0] at hj; exact hj)) (Nat.le_trans (Nat.le_max_right _ _) e1)
  rw [xt_xo] at hv1
  have vC : ∀ z, nz t0 n1 s2 h (z :: onz t0 n1 s2 h Γ0) C ≤ v.2 + (v.1 - xf (Γ0.length + 1) Γ0.length C) * y1 + xf (Γ0.length + 1) Γ0.length C * z := by
    intro z
    have q := nz_xo (t0 := t0) (n1 := n1) (s2 := s2) H1 (t := C) (ω := onz t0 n1 s2 h Γ0) (z := z) (by rw [l0]; exact oC) hω
    rw [l0] at q
    have q2 := Nat.mul_le_mul_right y1 (show xo Γ0.length C ≤ v.1 - xf (Γ0.length + 1) Γ0.length C by omega)
    omega
  have hp : xf (Γ0.length + 1) Γ0.length C ≤ v.1 := by omega
  generalize xf (Γ0.length + 1) Γ0.length C = p at *
  have vA : nz t0 n1 s2 h (onz t0 n1 s2 h Γ0) (tAll B C) ≤ s2 + (v.2 + (v.1 - p) * y1 + p * wB) := by
    rw [nz_all]
    have q := vC (h (nz t0 n1 s2 h (onz t0 n1 s2 h Γ0) B))
    have q2 := Nat.mul_le_mul_left p hwB
    omega
  have vZ : ∀ z, nz t0 n1 s2 h (hzx h z (nz t0 n1 s2 h (onz t0 n1 s2 h Γ0) B) :: onz t0 n1 s2 h Γ0) C ≤ v.2 + (v.1 - p) * y1 + p * max z wB := by
    intro z
    have q := vC (hzx h z (nz t0 n1 s2 h (onz t0 n1 s2 h Γ0) B))
    have q2 : hzx h z (nz t0 n1 s2 h (onz t0 n1 s2 h Γ0) B) ≤ max z wB := by
      unfold hzx
      omega
    have q3 := Nat.mul_le_mul_left p q2
    omega
  have vb : nz t0 n1 s2 h (onz t0 n1 s2 h Γ0) b ≤ κ + (s2 + (v.2 + (v.1 - p) * y1 + p * wB)) := by
    have := nσ t0 n1 s2 h (onz t0 n1 s2 h Γ0)
    omega
  have EA1 : 1 ≤ κ + (s2 + (v.2 + (v.1 - p) * y1 + p * wB)) := by omega
  have h0' : ∀ j, j < (b :: Γ0).length → vw (onz t0 n1 s2 h (b :: Γ0)) j ≤ max y1 (hv + (κ + (s2 + (v.2 + (v.1 - p) * y1 + p * wB)))) := by
    intro j hj
    show vw (h (nz t0 n1 s2 h (onz t0 n1 s2 h Γ0) b) :: onz t0 n1 s2 h Γ0) j ≤ _
    rw [vw_cons, l0]
    by_cases e : j = Γ0.length
    · rw [if_pos e]
      have := H1 (nz t0 n1 s2 h (onz t0 n1 s2 h Γ0) b)
      omega
    · rw [if_neg e]
      rw [List.length_cons] at hj
      exact Nat.le_trans (hω j (by rw [l0]; omega)) (Nat.le_max_left _ _)
  obtain ⟨u, hu, u1, hw⟩ := onz_gr T hgr hW (Nat.le_trans x01 (Nat.le_max_left _ _)) h0' Δ1 he.1 q38
  obtain ⟨s, ⟨⟨k1, k2, k3, k4, k5, k6, k7⟩, k8⟩, gq, R⟩ := hT p hp u hu
  have hw' : ∀ j, j < (cxs Δ1 Γ0 b).length → vw (onz t0 n1 s2 h (cxs Δ1 Γ0 b)) j ≤ s.1 := fun j hj => Nat.le_trans (hw j hj) k1
  have y01 : x0 ≤ s.1 := by
    have a1 := Nat.mul_le_mul_right (max y1 (hv + (κ + (s2 + (v.2 + (v.1 - p) * y1 + p * wB))))) u1
    have a2 := Nat.le_max_left y1 (hv + (κ + (s2 + (v.2 + (v.1 - p) * y1 + p * wB))))
    omega
  have hA2 : HS2 t0 n1 s2 h (ebw F W hv s.1 cd (mch t) s.2.2.1 s.2.2.2.1 s.1 s.2.2.2.2.1) (e2w F W hv s.1 cd (mch t) s.2.2.2.2.2) (onz t0 n1 s2 h Γ0) (tAll B C) := by
    refine ⟨B, C, rfl, fun z => ?_, fun z => ?_⟩
    · refine Nat.le_trans (vZ z) ?_
      have a1 : p * max z wB ≤ s.2.2.2.1 * max z s.1 := Nat.mul_le_mul k3 (by omega)
      unfold ebw
      exact le_mx (Or.inl (le_mx (Or.inl (by omega))))
    · have q4 := Zx_leh T (x := max z s.1) (z := z) (ω := hzx h z (nz t0 n1 s2 h (onz t0 n1 s2 h Γ0) B) :: onz t0 n1 s2 h Γ0) (A := C) (by rw [List.length_cons, l0]; exact oC) (by omega) (by omega) (by omega) (fun j hj => by
        rw [vw_cons]
        by_cases e : j = (onz t0 n1 s2 h Γ0).length
        · rw [if_pos e]
          unfold hzx
          omega
        · rw [if_neg e]
          rw [List.length_cons] at hj
          have q := onz_low (t0 := t0) (n1 := n1) (s2 := s2) (h := h) (Γ0 := Γ0) (β := b) Δ1 (j := j) (by rw [l0] at hj e; omega)
          have q2 := hw' j (by rw [cxs_len]; rw [l0] at hj e; omega)
          rw [q] at q2
          omega)
      have q5 := Zx_ms hFm (x := max z s.1) (s := tch C + 2) (s' := s.2.2.2.2.2 + 2) (by omega) (by omega)
      unfold e2w
      exact le_mx (Or.inl (Nat.le_trans q4 q5))
  have few : ∀ (Γ' : List Ty) (B' C' : Ty), ok Γ'.length (tAll B' C') = true → nz t0 n1 s2 h (onz t0 n1 s2 h Γ') (tAll B' C') ≤ s.1 → tch C' ≤ 40 → lmx xr1 (tch C') ≤ ob → lmx fr1 (tch C') ≤ ob → HS2 t0 n1 s2 h (ebw F W hv s.1 cd (mch t) s.2.2.1 s.2.2.2.1 s.1 s.2.2.2.2.1) (e2w F W hv s.1 cd (mch t) s.2.2.2.2.2) (onz t0 n1 s2 h Γ') (tAll B' C') := by
    intro Γ' B' C' o' q c1 c2 c3
    have l2 := onz_len t0 n1 s2 h Γ'
    have oC' := (ok_all.mp o').2
    refine ⟨B', C', rfl, fun z => ?_, fun z => ?_⟩
    · have a1 := sch_rse (t0 := t0) (n1 := n1) (s2 := s2) hm hh (B := B') (C := C') (ω := onz t0 n1 s2 h Γ') (by rw [l2]; exact o') z
      rw [l2] at a1
      have a2 := Nat.mul_le_mul_right z (Nat.le_trans (xf_lx oC' (by omega)) (Nat.le_trans c2 k4))
      unfold ebw
      omega
    · have q4 := nz_flv (t0 := t0) (n1 := n1) (s2 := s2) hm hh (z := z) _ C' (h (nz t0 n1 s2 h (onz t0 n1 s2 h Γ') B') :: onz t0 n1 s2 h Γ') (hzx h z (nz t0 n1 s2 h (onz t0 n1 s2 h Γ') B') :: onz t0 n1 s2 h Γ') z (Nat.le_refl _) (by rw [List.length_cons, List.length_cons]) (by rw [List.length_cons, l2]; exact oC') (Nat.le_refl _) (fun j hj => by
        rw [vw_cons, vw_cons]
        by_cases e : j = (onz t0 n1 s2 h Γ').length
        · rw [if_pos e, if_pos e]
          unfold hzx
          omega
        · rw [if_neg e, if_neg e]
          omega)
      obtain ⟨w0, hw0, hw1⟩ := k8
      have q5 := Zx_mem (x := max z s.1) (frg F s.2.2.2.2.2) w0 hw0
      have q6 : (frg F s.2.2.2.2.2).foldr (fun u a => max (u.2 + u.1 * max z s.1) a) 0 = Zx F (max z s.1) (s.2.2.2.2.2 + 2) := rfl
      rw [q6] at q5
      have q7 : (flv C' + 1) * max z s.1 ≤ w0.1 * max z s.1 := Nat.mul_le_mul_right _ (by have := flv_lmx oC' (Nat.le_refl _) (by omega); omega)
      have q8 : flv C' * z ≤ flv C' * max z s.1 := Nat.mul_le_mul_left _ (Nat.le_max_left _ _)
      have q9 := Nat.le_max_right z s.1
      rw [Nat.add_mul, Nat.one_mul] at q7
      rw [nz_all] at q
      unfold e2w
      exact le_mx (Or.inl (by omega))
  unfold gqx at gq
  rw [Bool.and_eq_true, Bool.and_eq_true, Bool.and_eq_true, Bool.or_eq_true] at gq
  obtain ⟨gk, gy1, gy2, gy3⟩ := gq
  have gy1 := Nat.le_of_ble_eq_true gy1
  have gy2 := Nat.le_of_ble_eq_true gy2
  generalize hYq : Zx F s.1 (max La 3 + 2) = Yq at gk gy1 gy2 gy3
  have go : ∀ Z, AQh t0 n1 s2 h (E2 (X7q F W hv s.1 cd (mch t) s.2.2.1 s.2.2.2.1 s.1 s.2.2.2.2.1) (ebw F W hv s.1 cd (mch t) s.2.2.1 s.2.2.2.1 s.1 s.2.2.2.2.1) (e2w F W hv s.1 cd (mch t) s.2.2.2.2.2)) Z f t [] (onz t0 n1 s2 h (cxs Δ1 Γ0 b)) → HEk t0 n1 s2 h (E2 (X7q F W hv s.1 cd (mch t) s.2.2.1 s.2.2.2.1 s.1 s.2.2.2.2.1) (ebw F W hv s.1 cd (mch t) s.2.2.1 s.2.2.2.1 s.1 s.2.2.2.2.1) (e2w F W hv s.1 cd (mch t) s.2.2.2.2.2)) (cxs Δ1 Γ0 b) (onz t0 n1 s2 h (cxs Δ1 Γ0 b)) → GOk t0 n1 s2 h (E2 (X7q F W hv s.1 cd (mch t) s.2.2.1 s.2.2.2.1 s.1 s.2.2.2.2.1) (ebw F W hv s.1 cd (mch t) s.2.2.1 s.2.2.2.1 s.1 s.2.2.2.2.1) (e2w F W hv s.1 cd (mch t) s.2.2.2.2.2)) f t [] (onz t0 n1 s2 h (cxs Δ1 Γ0 b)) (cxs Δ1 Γ0 b) Δ := by
    intro Z aq hk
    have Yg : ∀ bb, Yq ≤ gyw W Yq bb := by
      intro bb
      have a0 := Zx_mem (x := Yq) (frg W 0) (1, 0) hW
      simp only at a0
      have a1 : Yq ≤ gyw W Yq 0 := by
        show Yq ≤ (frg W 0).foldr (fun u a => max (u.2 + u.1 * Yq) a) 0
        omega
      exact Nat.le_trans a1 (gyw_mono hWm (Nat.zero_le _))
    have xY : x0 ≤ Yq := Nat.le_trans y01 gy1
    have ebb : ∀ z, s.2.2.1 + s.2.2.2.1 * max z s.1 ≤ ebw F W hv s.1 cd (mch t) s.2.2.1 s.2.2.2.1 s.1 s.2.2.2.2.1 z := fun z => by
      unfold ebw
      exact le_mx (Or.inl (le_mx (Or.inl (Nat.le_refl _))))
    have hG := fun A ω bb => gq_E (t0 := t0) (n1 := n1) (s2 := s2) (h := h) (X7 := X7w F W s.1 cd (mch t)) (e2 := e2w F W hv s.1 cd (mch t) s.2.2.2.2.2) T hm hFm Yg ebw_mono e2w_mono ebb gk K30 xY A ω bb
    have hgr' : ∀ (A : Ty) (ω : List Nat) (bb : Nat), ok ω.length A = true → tch A + bb ≤ K → (∀ j, j < ω.length → vw ω j ≤ gyw W Yq bb) → h (nz t0 n1 s2 h ω A) ≤ gyw W Yq (bb + tch A + 4) := fun A ω bb o hk' hw'' => ((dh_ok (un := true) (a5 := 0) (ob := 0) (cd := 0) (wB := 0) (y := Yq) (E0 := 0) (p := 0) (k := 0) (mt := 0) hn hm T hFm hgr hWm hW1 hW H1 (by omega) (by omega) xY).gr A ω bb o (by omega) hw'').1
    have tx := fun (A : Ty) (ω : List Nat) (o : ok ω.length A = true) (hk' : tch A ≤ K + 5) (hw'' : ∀ j, j < ω.length → vw ω j ≤ Yq) => txt_UB (t0 := t0) (n1 := n1) (s2 := s2) (h := h) (E := (E2 (X7q F W hv s.1 cd (mch t) s.2.2.1 s.2.2.2.1 s.1 s.2.2.2.2.1) (ebw F W hv s.1 cd (mch t) s.2.2.1 s.2.2.2.1 s.1 s.2.2.2.2.1) (e2w F W hv s.1 cd (mch t) s.2.2.2.2.2))) (Y := Yq) (K := K) (g := gyw W Yq) (fun b1 b2 hb => gyw_mono hWm hb) (Yg 0) hgr' hG _ A ω 0 (Nat.le_refl _) o (by omega) (fun j hj => Nat.le_trans (hw'' j hj) (Yg 0))
    have wY : ∀ j, j < (cxs Δ1 Γ0 b).length → vw (onz t0 n1 s2 h (cxs Δ1 Γ0 b)) j ≤ Yq := fun j hj => Nat.le_trans (hw' j hj) gy1
    have low : ∀ (Δ' : List Ty) (b1 : Ty) (Γ' : List Ty), cxs Δ1 Γ0 b = Δ' ++ b1 :: Γ' → ∀ j, j < (onz t0 n1 s2 h Γ').length → vw (onz t0 n1 s2 h Γ') j ≤ Yq := by
      intro Δ' b1 Γ' e j hj
      have lo := onz_len t0 n1 s2 h Γ'
      have q := onz_low (t0 := t0) (n1 := n1) (s2 := s2) (h := h) (Γ0 := Γ') (β := b1) Δ' (j := j) (by rw [lo] at hj; exact hj)
      have e' : cxs Δ1 Γ0 b = cxs Δ' Γ' b1 := e
      have q2 := wY j (by rw [e', cxs_len]; rw [lo] at hj; omega)
      rw [e', q] at q2
      exact q2
    have hU : HUB t0 n1 s2 h (E2 (X7q F W hv s.1 cd (mch t) s.2.2.1 s.2.2.2.1 s.1 s.2.2.2.2.1) (ebw F W hv s.1 cd (mch t) s.2.2.1 s.2.2.2.1 s.1 s.2.2.2.2.1) (e2w F W hv s.1 cd (mch t) s.2.2.2.2.2)) Yq (cxs Δ1 Γ0 b) (onz t0 n1 s2 h (cxs Δ1 Γ0 b)) := by
      refine HUB_of he.1 (fun Δ' b1 Γ' e o => ?_)
      have lo := onz_len t0 n1 s2 h Γ'
      have o' : ok (onz t0 n1 s2 h Γ').length b1 = true := by rw [lo]; exact o
      have lw := low Δ' b1 Γ' e
      rcases app_cut Δ1 Δ' e with m | ⟨m1, m2⟩ | m
      · obtain ⟨d, o1, o2⟩ := okc_top Δ1 he.1 b1 m
        exact tx b1 _ o' (by omega) lw
      · subst m1
        subst m2
        refine UB_is2 _ b1 _ (Nat.le_refl _) o' ?_
        have hh' : IS2 (fun s' => UB t0 n1 s2 h (E2 (X7q F W hv s.1 cd (mch t) s.2.2.1 s.2.2.2.1 s.1 s.2.2.2.2.1) (ebw F W hv s.1 cd (mch t) s.2.2.1 s.2.2.2.1 s.1 s.2.2.2.2.1) (e2w F W hv s.1 cd (mch t) s.2.2.2.2.2)) Yq s' (onz t0 n1 s2 h Γ')) b1 := by
          refine IS2_okt _ Γ'.length b1 (Nat.le_refl _) oB (fun s' o3 t3 n3 d3 => ?_) iσ
          rcases d3 with d3 | ⟨d4, d5, d6, d7⟩
          · rw [d3]
            obtain ⟨oBB, oCC⟩ := ok_all.mp oσ
            refine UB_all.mpr ⟨hG B _ 0 (by rw [lo]; exact oBB) (by omega) (fun j hj => Nat.le_trans (lw j hj) (Yg 0)), tx B _ (by rw [lo]; exact oBB) (by omega) lw, fun z hz => ?_⟩
            refine tx C _ (by rw [List.length_cons, lo]; exact oCC) (by omega) (vw_hz lw ?_)
            unfold hzx
            omega
          · exact tx s' _ (by rw [lo]; exact d4) (by omega) lw
        exact hh'
      · obtain ⟨d, o1, o2⟩ := okc_mch oc0 m
        exact tx b1 _ o' (by omega) lw
    have dU : DU t0 n1 s2 h (E2 (X7q F W hv s.1 cd (mch t) s.2.2.1 s.2.2.2.1 s.1 s.2.2.2.2.1) (ebw F W hv s.1 cd (mch t) s.2.2.1 s.2.2.2.1 s.1 s.2.2.2.2.1) (e2w F W hv s.1 cd (mch t) s.2.2.2.2.2)) Yq (onz t0 n1 s2 h (cxs Δ1 Γ0 b)) Δ := by
      intro a ha
      obtain ⟨a1, a2, a3⟩ := he.2.2 a ha
      have ad := dch_mem ha
      have al : a.2.2 ≤ (onz t0 n1 s2 h (cxs Δ1 Γ0 b)).length := by rw [l1]; exact a1
      have ll : ((onz t0 n1 s2 h (cxs Δ1 Γ0 b)).drop ((onz t0 n1 s2 h (cxs Δ1 Γ0 b)).length - a.2.2)).length = a.2.2 := by rw [List.length_drop]; omega
      refine ⟨(onz t0 n1 s2 h (cxs Δ1 Γ0 b)).take ((onz t0 n1 s2 h (cxs Δ1 Γ0 b)).length - a.2.2), (onz t0 n1 s2 h (cxs Δ1 Γ0 b)).drop ((onz t0 n1 s2 h (cxs Δ1 Γ0 b)).length - a.2.2), (List.take_append_drop _ _).symm, ll, ?_⟩
      refine tx a.2.1 _ (by rw [ll]; exact a2) (by omega) (fun j hj => ?_)
      have q := vw_app_lo ((onz t0 n1 s2 h (cxs Δ1 Γ0 b)).take ((onz t0 n1 s2 h (cxs Δ1 Γ0 b)).length - a.2.2)) _ j hj
      rw [List.take_append_drop] at q
      rw [← q]
      exact wY j (by rw [ll] at hj; rw [l1] at al; omega)
    have P0 : TxP t0 n1 s2 h (E2 (X7q F W hv s.1 cd (mch t) s.2.2.1 s.2.2.2.1 s.1 s.2.2.2.2.1) (ebw F W hv s.1 cd (mch t) s.2.2.1 s.2.2.2.1 s.1 s.2.2.2.2.1) (e2w F W hv s.1 cd (mch t) s.2.2.2.2.2)) Yq La s.1 := fun A ω o hk' hw'' => by
      have wq : ∀ j, j < ω.length → vw ω j ≤ Yq := fun j hj => Nat.le_trans (hw'' j hj) gy1
      refine ⟨hG A ω 0 o (by omega) (fun j hj => Nat.le_trans (wq j hj) (Yg 0)), tx A ω o (by omega) wq, ?_⟩
      rw [← hYq]
      exact Nat.le_trans (Zx_le T o (by omega) y01 hw'') (Zx_ms hFm (by omega) (by omega))
    have P1 : TxP t0 n1 s2 h (E2 (X7q F W hv s.1 cd (mch t) s.2.2.1 s.2.2.2.1 s.1 s.2.2.2.2.1) (ebw F W hv s.1 cd (mch t) s.2.2.1 s.2.2.2.1 s.1 s.2.2.2.2.1) (e2w F W hv s.1 cd (mch t) s.2.2.2.2.2)) Yq 3 Yq := fun A ω o hk' hw'' => by
      refine ⟨fun ρ hρ => ?_, tx A ω o (by omega) hw'', Nat.le_trans (Zx_le T o (by omega) xY hw'') (Nat.le_trans (Zx_ms hFm (by omega) (by omega)) gy2)⟩
      rcases two_txt o (by omega) with e | ⟨j, hj, e⟩ | e
      · rw [e]
        cases ρ with
        | nil => exact absurd rfl hρ
        | cons p9 ρ => rw [vz_top]; exact Nat.zero_le _
      · rw [e]
        cases ρ with
        | nil => exact absurd rfl hρ
        | cons p9 ρ => rw [vz_var]; exact Nat.le_refl _
      · rw [e]
        unfold tR0
        cases ρ with
        | nil => exact absurd rfl hρ
        | cons p9 ρ =>
          cases p9 with
          | none => rw [vz_recN, vz_nil]; exact Nat.zero_le _
          | some z9 => rw [vz_recS]; exact Nat.zero_le _
    have h8 : 13 ≤ mch t → ∀ (B : Ty) (ω : List Nat), ok ω.length B = true → tch B ≤ 4 → (∀ j, j < ω.length → vw ω j ≤ s.1) → h (nz t0 n1 s2 h ω B) ≤ Yq := fun m13 B9 ω o hk' hw'' => by
      have l5 := hLa m13
      have g3 := gy3.resolve_left (by intro q; have := Nat.le_of_ble_eq_true q; omega)
      have g3 := Nat.le_of_ble_eq_true g3
      have q1 := H1 (nz t0 n1 s2 h ω B9)
      have q2 := Nat.le_trans (Zx_le T o (by omega) y01 hw'') (Zx_ms hFm (x := s.1) (s := tch B9 + 2) (s' := 6) (by omega) (by omega))
      omega
    have nq := NQ_zero8 (t0 := t0) (n1 := n1) (s2 := s2) (h := h) (E := (E2 (X7q F W hv s.1 cd (mch t) s.2.2.1 s.2.2.2.1 s.1 s.2.2.2.2.1) (ebw F W hv s.1 cd (mch t) s.2.2.1 s.2.2.2.1 s.1 s.2.2.2.2.1) (e2w F W hv s.1 cd (mch t) s.2.2.2.2.2))) (Y := Yq) (M0 := mch t) gy1 P0 P1 h8 f (cxs Δ1 Γ0 b).length _ t (onz t0 n1 s2 h (cxs Δ1 Γ0 b)) [] (mch t) w l1 (by simp) hM hM16 (Nat.le_refl _) (by omega) (fun j hj => hw' j (by rw [l1] at hj; exact hj))
    exact GH_nq hn hm f t [] _ _ Δ w he trivial aq nq dU (onz_cv hn he.1) hk hU
  refine gen_fin6q (un := true) (a5 := a5) (cd := cd) (wB := s.1) (E0 := s.2.2.1) (p := s.2.2.2.1) (ob := s.2.2.2.2.1) (k := s.2.2.2.2.2) (y := s.1) hn hm T hFm hgr hWm hW1 hW H1 w he l1 (Or.inl rfl) hm30 hdc hcd a55 ha5 y01 (fun j hj => hw' j (by rw [l1] at hj; exact hj)) (HE_sfy ebw_mono e2w_mono hm hh hn (Nat.le_trans (Nat.le_max_left _ _) (Nat.le_max_left _ _)) he.1 hw' (fun Δ' b1 Γ' e' o9 w9 q => ?_)) go R hS
  have oth : OBs ob b1 → IS2 (fun s' => HS2 t0 n1 s2 h (ebw F W hv s.1 cd (mch t) s.2.2.1 s.2.2.2.1 s.1 s.2.2.2.2.1) (e2w F W hv s.1 cd (mch t) s.2.2.2.2.2) (onz t0 n1 s2 h Γ') s' ∨ ∀ z, nz t0 n1 s2 h (onz t0 n1 s2 h Γ') s' + flv s' * z ≤ ebw F W hv s.1 cd (mch t) s.2.2.1 s.2.2.2.1 s.1 s.2.2.2.2.1 z) b1 := fun c => by
    refine IS2_sch _ Γ'.length b1 (Nat.le_refl _) o9 (fun B' C' o3 n3 d3 => ?_) c
    obtain ⟨c1, c2, c3⟩ := d3 B' C' rfl
    exact Or.inl (few Γ' B' C' o3 (Nat.le_trans (n3 t0 n1 s2 h _) q) c1 c2 c3)
  rcases app_cut Δ1 Δ' e' with m | ⟨m1, m2⟩ | m
  · exact Or.inr (Or.inr (oth (hb1 b1 m)))
  · subst m1
    subst m2
    refine Or.inr (Or.inr (IS2_sch _ Γ'.length b1 (Nat.le_refl _) oB (fun B' C' o3 n3 d3 => ?_) iσ))
    rcases d3 with d3 | ⟨d4, d5, d6, d7⟩
    · rw [d3]
      exact Or.inl hA2
    · obtain ⟨c1, c2, c3⟩ := hbs B' C' d4 d5 d6
      exact Or.inl (few Γ' B' C' o3 (Nat.le_trans (n3 t0 n1 s2 h _) q) c1 c2 c3)
  · exact Or.inr (Or.inr (oth (hb0 b1 m)))
end PmZm3
