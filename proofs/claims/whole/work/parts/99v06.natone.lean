/-! BY NATURE, ONE SCHEME COUNTED EXACTLY. -/
theorem Zx_mono {F : FrT} {x x' : Nat} (h : x ≤ x') (s : Nat) : Zx F x s ≤ Zx F x' s := by
  unfold Zx
  generalize frg F (s - 2) = l
  induction l with
  | nil => exact Nat.le_refl _
  | cons u l ih =>
    rw [List.foldr_cons, List.foldr_cons]
    have := Nat.mul_le_mul_left u.1 h
    omega
theorem mxl_mono {f g : Nat → Nat} (h : ∀ s, f s ≤ g s) : ∀ n : Nat, mxl f n ≤ mxl g n
  | 0 => Nat.le_refl _
  | n + 1 => by
    have h1 := h n
    have h2 := mxl_mono h n
    show max (f n) (mxl f n) ≤ max (g n) (mxl g n)
    omega
/-- a scheme that is an argument -/
def ebA (F : FrT) (hv y m z : Nat) : Nat := mxl (Zx F (max (max z y) (hv + max 1 (mxl (Zx F y) (m - 4))))) (m - 4)
/-- any scheme: the long one, the others, arguments -/
def ebx (F : FrT) (hv y m E0 p wB ob z : Nat) : Nat := max (max (E0 + p * max z wB) (y + ob * z)) (ebA F hv y m z)
theorem ebA_mono {F : FrT} {hv y m z z' : Nat} (h : z ≤ z') : ebA F hv y m z ≤ ebA F hv y m z' := by
  unfold ebA
  exact mxl_mono (fun s => Zx_mono (by omega) s) _
theorem ebx_mono {F : FrT} {hv y m E0 p wB ob : Nat} (z z' : Nat) (h : z ≤ z') : ebx F hv y m E0 p wB ob z ≤ ebx F hv y m E0 p wB ob z' := by
  have h1 := ebA_mono (F := F) (hv := hv) (y := y) (m := m) h
  have h2 := Nat.mul_le_mul_left p (show max z wB ≤ max z' wB by omega)
  have h3 := Nat.mul_le_mul_left ob h
  unfold ebx
  omega
def smX1 (P : List (List Nat)) (F : FrT) (X : List Nat) (hv E0 p wB ob y b cd m Bd : Nat) : Bool := Nat.ble (lstX X y + cd + 2 * m) 58 && natH P (hdg (max y (mxl (Zx F y) (m - 2))) (ebx F hv y m E0 p wB ob) (Zx F y)) b (lstX X y + cd) m Bd
section PmVi
variable {t0 s2 X7 EP pb y : Nat} {n1 h eb : Nat → Nat} {B C : Ty} {Γ0 : List Ty}
theorem BEg_onz (hn : NC t0 n1 s2 h) (h7 : y ≤ X7) : ∀ {Γ : List Ty}, (∀ j, j < Γ.length → vw (onz t0 n1 s2 h Γ) j ≤ y) → (∀ b ∈ Γ, nsch b = true ∨ ∀ z, y + flv b * z ≤ eb z) → BEg t0 n1 s2 h X7 eb EP pb Γ (onz t0 n1 s2 h Γ)
  | [], _, _ => trivial
  | b :: Γ, hv, hp => by
    have l1 := onz_len t0 n1 s2 h Γ
    have q := hv Γ.length (by rw [List.length_cons]; omega)
    have e : vw (onz t0 n1 s2 h (b :: Γ)) Γ.length = h (nz t0 n1 s2 h (onz t0 n1 s2 h Γ) b) := by
      show vw (h (nz t0 n1 s2 h (onz t0 n1 s2 h Γ) b) :: onz t0 n1 s2 h Γ) Γ.length = _
      rw [vw_cons, l1, if_pos rfl]
    rw [e] at q
    have q := Nat.le_trans (hn.2.2.1 _) q
    refine ⟨Or.inl ⟨Nat.le_trans q h7, (hp b (List.mem_cons_self ..)).imp id (fun c z => Nat.le_trans (Nat.add_le_add_right q _) (c z))⟩, BEg_onz hn h7 (fun j hj => ?_) (fun c hc => hp c (List.mem_cons_of_mem _ hc))⟩
    have q2 := hv j (by rw [List.length_cons]; omega)
    have e2 : vw (onz t0 n1 s2 h (b :: Γ)) j = vw (onz t0 n1 s2 h Γ) j := by
      show vw (h (nz t0 n1 s2 h (onz t0 n1 s2 h Γ) b) :: onz t0 n1 s2 h Γ) j = _
      rw [vw_cons, l1, if_neg (by omega)]
    rw [e2] at q2
    exact q2
theorem BEg_cx (hn : NC t0 n1 s2 h) (h7 : y ≤ X7) (hA : HSg t0 n1 s2 h eb EP pb (onz t0 n1 s2 h Γ0) (tAll B C)) (hp0 : ∀ b ∈ Γ0, nsch b = true ∨ ∀ z, y + flv b * z ≤ eb z) : ∀ (Δ1 : List Ty), (∀ j, j < (cxs Δ1 Γ0 (tAll B C)).length → vw (onz t0 n1 s2 h (cxs Δ1 Γ0 (tAll B C))) j ≤ y) → (∀ b ∈ Δ1, nsch b = true ∨ ∀ z, y + flv b * z ≤ eb z) → BEg t0 n1 s2 h X7 eb EP pb (cxs Δ1 Γ0 (tAll B C)) (onz t0 n1 s2 h (cxs Δ1 Γ0 (tAll B C)))
  | [], hv, _ => by
    refine ⟨Or.inr hA, BEg_onz hn h7 (fun j hj => ?_) hp0⟩
    have l1 := onz_len t0 n1 s2 h Γ0
    have q2 := hv j (by rw [cxs_len]; omega)
    have e2 : vw (onz t0 n1 s2 h (cxs [] Γ0 (tAll B C))) j = vw (onz t0 n1 s2 h Γ0) j := by
      show vw (h (nz t0 n1 s2 h (onz t0 n1 s2 h Γ0) (tAll B C)) :: onz t0 n1 s2 h Γ0) j = _
      rw [vw_cons, l1, if_neg (by omega)]
    rw [e2] at q2
    exact q2
  | a :: Δ1, hv, hp => by
    have l1 := onz_len t0 n1 s2 h (cxs Δ1 Γ0 (tAll B C))
    have q := hv (cxs Δ1 Γ0 (tAll B C)).length (by show _ < (a :: cxs Δ1 Γ0 (tAll B C)).length; rw [List.length_cons]; omega)
    have e : vw (onz t0 n1 s2 h (cxs (a :: Δ1) Γ0 (tAll B C))) (cxs Δ1 Γ0 (tAll B C)).length = h (nz t0 n1 s2 h (onz t0 n1 s2 h (cxs Δ1 Γ0 (tAll B C))) a) := by
      show vw (h (nz t0 n1 s2 h (onz t0 n1 s2 h (cxs Δ1 Γ0 (tAll B C))) a) :: onz t0 n1 s2 h (cxs Δ1 Γ0 (tAll B C))) (cxs Δ1 Γ0 (tAll B C)).length = _
      rw [vw_cons, l1, if_pos rfl]
    rw [e] at q
    have q := Nat.le_trans (hn.2.2.1 _) q
    refine ⟨Or.inl ⟨Nat.le_trans q h7, (hp a (List.mem_cons_self ..)).imp id (fun c z => Nat.le_trans (Nat.add_le_add_right q _) (c z))⟩, BEg_cx hn h7 hA hp0 Δ1 (fun j hj => ?_) (fun c hc => hp c (List.mem_cons_of_mem _ hc))⟩
    have q2 := hv j (by show j < (a :: cxs Δ1 Γ0 (tAll B C)).length; rw [List.length_cons]; omega)
    have e2 : vw (onz t0 n1 s2 h (cxs (a :: Δ1) Γ0 (tAll B C))) j = vw (onz t0 n1 s2 h (cxs Δ1 Γ0 (tAll B C))) j := by
      show vw (h (nz t0 n1 s2 h (onz t0 n1 s2 h (cxs Δ1 Γ0 (tAll B C))) a) :: onz t0 n1 s2 h (cxs Δ1 Γ0 (tAll B C))) j = _
      rw [vw_cons, l1, if_neg (by omega)]
    rw [e2] at q2
    exact q2
end PmVi
/-- rows of the growth table go up -/
def fgm (W : FrT) : Bool := (List.range 38).all (fun r => (frg W r).all (fun e => dom e.1 e.2 (frg W (r + 1))))
theorem fgm_le {W : FrT} (h : fgm W = true) {r : Nat} : ∀ {q : Nat} {e : Nat × Nat}, r ≤ q → q ≤ 38 → e ∈ frg W r → ∃ e' ∈ frg W q, e.1 ≤ e'.1 ∧ e.2 ≤ e'.2
  | 0, e, h1, _, he => by
    have : r = 0 := by omega
    subst this
    exact ⟨e, he, Nat.le_refl _, Nat.le_refl _⟩
  | q + 1, e, h1, h2, he => by
    by_cases c : r = q + 1
    · subst c
      exact ⟨e, he, Nat.le_refl _, Nat.le_refl _⟩
    · obtain ⟨e', he', g1, g2⟩ := fgm_le h (q := q) (by omega) (by omega) he
      unfold fgm at h
      obtain ⟨e2, he2, k1, k2⟩ := dom_ex (List.all_eq_true.mp (rng_all h (i := q) (by omega)) e' he')
      exact ⟨e2, he2, by omega, by omega⟩
theorem fg1_m : fgm fg1 = true := by decide +kernel
theorem fgq_m : fgm fgq = true := by decide +kernel
section PmVj
variable {t0 fn s2 hv r0 r1 r2 r3 x0 : Nat} {n1 h : Nat → Nat} {P Q : List (List Nat)} {F G W : FrT} {X : List Nat} {B C : Ty} {Γ0 : List Ty}
/-- values at most y, the long scheme an E0 + p * z -/
theorem nat_fin (hn : NC t0 n1 s2 h) (hm : ∀ y y', y ≤ y' → h y ≤ h y') (hh : ∀ y δ, h (y + δ) ≤ h y + δ) (T : TBs 58 t0 fn s2 hv r0 r1 r2 r3 x0 n1 h P Q F G X) (hx : PXk 58 P F X fn s2 r1 = true) (h21 : r2 ≤ r1) (h32 : r3 ≤ r2) (H1 : ∀ y, h y ≤ hv + max 1 y) {f : Nat} {t S : Ty} {Δ1 : List Ty} {Δ : List (Nat × Ty × Nat)} {ob cd wB Bd y E0 p : Nat} (w : TWf f (cxs Δ1 Γ0 (tAll B C)).length (Δ.map (fun a => a.1)) t) (he : TE (cxs Δ1 Γ0 (tAll B C)) Δ) (co : COk f t 0) (nq : NQk f t 0) (hg : hasq f t = true → gqk f t = 0) (hm17 : mch t ≤ 17) (hb0 : ∀ b ∈ Γ0, nsch b = true ∨ flv b ≤ ob) (hb1 : ∀ b ∈ Δ1, nsch b = true ∨ flv b ≤ ob) (hdc : dch Δ ≤ cd) (hcd : 2 ≤ cd) (y01 : x0 ≤ y) (hw : ∀ j, j < (cxs Δ1 Γ0 (tAll B C)).length → vw (onz t0 n1 s2 h (cxs Δ1 Γ0 (tAll B C))) j ≤ y) (vZ : ∀ z, nz t0 n1 s2 h (hzx h z (nz t0 n1 s2 h (onz t0 n1 s2 h Γ0) B) :: onz t0 n1 s2 h Γ0) C ≤ E0 + p * max z wB) (R1 : smX1 P F X hv E0 p wB ob y 0 cd (mch t) Bd = true) (hS : tyF f t (cxs Δ1 Γ0 (tAll B C)) Δ = .inr S) : nz t0 n1 s2 h (onz t0 n1 s2 h (cxs Δ1 Γ0 (tAll B C))) S ≤ Bd := by
  have lk := lstX_ok (X := X) (y := y)
  unfold smX1 at R1
  rw [Bool.and_eq_true] at R1
  obtain ⟨n2', n4'⟩ := R1
  have n2' := Nat.le_of_ble_eq_true n2'
  generalize lstX X y = cv at *
  have lk := lk (by omega)
  have hm1 : mch t ≤ 56 := by omega
  generalize hEA : nz t0 n1 s2 h (onz t0 n1 s2 h Γ0) (tAll B C) = EA
  have hω2 : ∀ j, j < (onz t0 n1 s2 h (cxs Δ1 Γ0 (tAll B C))).length → vw (onz t0 n1 s2 h (cxs Δ1 Γ0 (tAll B C))) j ≤ y := fun j hj => hw j (by rw [onz_len] at hj; exact hj)
  have hSc : ∀ (A : Ty) (ω : List Nat), hd A = 2 → ok ω.length A = true → tch A + 2 ≤ mch t → (∀ j, j < ω.length → vw ω j ≤ y) → HSg t0 n1 s2 h (ebx F hv y (mch t) E0 p wB ob) (max EA (mxl (Zx F y) (mch t + 1))) (max (flv (tAll B C)) (lmx fr1 (mch t - 2))) ω A := by
    intro A ω h2 o ht hw
    have e1 := Zx_le T o (by omega) y01 hw
    have e2 := mxl_ge (f := Zx F y) (n := mch t + 1) (s := tch A + 2) (by omega)
    have e3 := flv_lmx (k := mch t - 2) o (by omega) (by omega)
    rcases ok_cases o with rfl | ⟨j, hj, rfl⟩ | ⟨a, b, rfl, ha, hb⟩ | ⟨a, b, rfl, ha, hb⟩ | ⟨c, u, v, w, hc, rfl, h0, h1, h2'⟩
    · exact absurd h2 (by decide)
    · rw [hd_var] at h2; omega
    · rw [hd_fun] at h2; omega
    · refine ⟨a, b, rfl, by omega, by omega, fun z => ?_⟩
      rw [tch_all] at ht
      have pa := tch_pos ha
      have pc := tch_pos hb
      have q1 := Zx_le T ha (by omega) y01 hw
      have q2 := mxl_ge (f := Zx F y) (n := mch t - 4) (s := tch a + 2) (by omega)
      have q3 := H1 (nz t0 n1 s2 h ω a)
      have q4 : nz t0 n1 s2 h (hzx h z (nz t0 n1 s2 h ω a) :: ω) b ≤ Zx F (max (max z y) (hv + max 1 (mxl (Zx F y) (mch t - 4)))) (tch b + 2) := by
        refine Zx_le T (by rw [List.length_cons]; exact hb) (by omega) (by omega) (fun j hj => ?_)
        rw [vw_cons]
        by_cases e : j = ω.length
        · rw [if_pos e]
          unfold hzx
          omega
        · rw [if_neg e]
          have := hw j (by rw [List.length_cons] at hj; omega)
          omega
      have q5 := mxl_ge (f := Zx F (max (max z y) (hv + max 1 (mxl (Zx F y) (mch t - 4))))) (n := mch t - 4) (s := tch b + 2) (by omega)
      unfold ebx ebA
      exact Nat.le_trans q4 (Nat.le_trans q5 (Nat.le_max_right _ _))
    · rw [hd_rec] at h2; omega
  have hA : ∀ (A : Ty), ok (onz t0 n1 s2 h (cxs Δ1 Γ0 (tAll B C))).length A = true → tch A + 2 ≤ mch t → (∀ ρ, ρ ≠ [] → vz t0 n1 s2 h (Eg (max y (mxl (Zx F y) (mch t - 2))) (ebx F hv y (mch t) E0 p wB ob) (max EA (mxl (Zx F y) (mch t + 1))) (max (flv (tAll B C)) (lmx fr1 (mch t - 2)))) A ρ (onz t0 n1 s2 h (cxs Δ1 Γ0 (tAll B C))) ≤ Eg (max y (mxl (Zx F y) (mch t - 2))) (ebx F hv y (mch t) E0 p wB ob) (max EA (mxl (Zx F y) (mch t + 1))) (max (flv (tAll B C)) (lmx fr1 (mch t - 2))) ρ) ∧ nz t0 n1 s2 h (onz t0 n1 s2 h (cxs Δ1 Γ0 (tAll B C))) A ≤ Zx F y (tch A + 2) := fun A o ht => ⟨arg_g ebx_mono hm hh T y01 hm1 (fun s hs => Nat.le_trans (mxl_ge (f := Zx F y) (n := mch t - 2) (by omega)) (Nat.le_max_right _ _)) hSc _ A _ (Nat.le_refl _) o ht hω2, Zx_le T o (by omega) y01 hω2⟩
  have aq := AH_0 (m0 := mch t) hA f t [] (cxs Δ1 Γ0 (tAll B C)) _ w (onz_len ..) hg (Nat.le_refl _)
  have bg := nat_BGa hn ebx_mono hm hh T hx h21 h32 w he co nq hS hdc hcd n2' aq (fun j hj => Nat.le_trans (hw j hj) lk) (BEg_cx hn (Nat.le_max_left _ _) ⟨B, C, rfl, Nat.le_trans (Nat.le_of_eq hEA) (Nat.le_max_left _ _), Nat.le_max_left _ _, fun z => Nat.le_trans (vZ z) (by unfold ebx; exact Nat.le_trans (Nat.le_max_left _ _) (Nat.le_max_left _ _))⟩ (fun b hb => (hb0 b hb).imp id (fun c z => by have := Nat.mul_le_mul_right z c; unfold ebx; omega)) Δ1 hw (fun b hb => (hb1 b hb).imp id (fun c z => by have := Nat.mul_le_mul_right z c; unfold ebx; omega)))
  obtain ⟨n, s, V, hl, a1, a2⟩ := bg
  exact natH_le n4' hm17 ⟨n, s, V, hl, by omega, a2⟩
/-- the values of a context with one long scheme, and what its body is worth -/
theorem nat_ctx (T : TBs 58 t0 fn s2 hv r0 r1 r2 r3 x0 n1 h P Q F G X) (hgr : fgc F W hv = true) (hW : (1, 0) ∈ frg W 0) (hWm : fgm W = true) (H1 : ∀ y, h y ≤ hv + max 1 y) (s21 : 1 ≤ s2) {Δ1 : List Ty} {wB q1 q2 : Nat} {v : Nat × Nat} (hc : okc (cxs Δ1 Γ0 (tAll B C))) (hv1 : xt (Γ0.length + 1) C ≤ v.1) (hv2 : xa t0 n1 s2 hv (Γ0.length + 1) C ≤ v.2) (hwB : h (nz t0 n1 s2 h (onz t0 n1 s2 h Γ0) B) ≤ wB) (hr : cch Γ0 ≤ q1) (hr' : q1 ≤ 56) (hr2 : cch Δ1 ≤ q2) (hr2' : q2 ≤ 38) : ∃ p, p ≤ v.1 ∧ ∃ e ∈ frg W q2, x0 ≤ e.2 + e.1 * max (max x0 (X.getD q1 0)) (hv + (s2 + (v.2 + (v.1 - p) * max x0 (X.getD q1 0) + p * wB))) ∧ (∀ j, j < (cxs Δ1 Γ0 (tAll B C)).length → vw (onz t0 n1 s2 h (cxs Δ1 Γ0 (tAll B C))) j ≤ e.2 + e.1 * max (max x0 (X.getD q1 0)) (hv + (s2 + (v.2 + (v.1 - p) * max x0 (X.getD q1 0) + p * wB)))) ∧ ∀ z, nz t0 n1 s2 h (hzx h z (nz t0 n1 s2 h (onz t0 n1 s2 h Γ0) B) :: onz t0 n1 s2 h Γ0) C ≤ v.2 + (v.1 - p) * max x0 (X.getD q1 0) + p * max z wB := by
  obtain ⟨oc0, oA⟩ := okc_low Δ1 hc
  have oB := (ok_all.mp oA).1
  have oC := (ok_all.mp oA).2
  have l0 := onz_len t0 n1 s2 h Γ0
  have hω : ∀ j, j < (onz t0 n1 s2 h Γ0).length → vw (onz t0 n1 s2 h Γ0) j ≤ max x0 (X.getD q1 0) := fun j hj => Nat.le_trans (onz_chars T.1 T.2.1 T.2.2.1 T.2.2.2.1 T.2.2.2.2.1 Γ0 oc0 (Nat.le_trans hr hr') j (by rw [l0] at hj; exact hj)) (Nat.le_trans (fxc_le T.2.1 hr hr') (Nat.le_max_right _ _))
  have x01 : x0 ≤ max x0 (X.getD q1 0) := Nat.le_max_left _ _
  generalize max x0 (X.getD q1 0) = y1 at *
  rw [xt_xo] at hv1
  have vC : ∀ z, nz t0 n1 s2 h (z :: onz t0 n1 s2 h Γ0) C ≤ v.2 + (v.1 - xf (Γ0.length + 1) Γ0.length C) * y1 + xf (Γ0.length + 1) Γ0.length C * z := by
    intro z
    have q := nz_xo (t0 := t0) (n1 := n1) (s2 := s2) H1 (t := C) (ω := onz t0 n1 s2 h Γ0) (z := z) (by rw [l0]; exact oC) hω
    rw [l0] at q
    have q2 := Nat.mul_le_mul_right y1 (show xo Γ0.length C ≤ v.1 - xf (Γ0.length + 1) Γ0.length C by omega)
    omega
  have hp : xf (Γ0.length + 1) Γ0.length C ≤ v.1 := by omega
  refine ⟨xf (Γ0.length + 1) Γ0.length C, hp, ?_⟩
  generalize xf (Γ0.length + 1) Γ0.length C = p at *
  have vA : nz t0 n1 s2 h (onz t0 n1 s2 h Γ0) (tAll B C) ≤ s2 + (v.2 + (v.1 - p) * y1 + p * wB) := by
    rw [nz_all]
    have q := vC (h (nz t0 n1 s2 h (onz t0 n1 s2 h Γ0) B))
    have q2 := Nat.mul_le_mul_left p hwB
    omega
  have vZ : ∀ z, nz t0 n1 s2 h (hzx h z (nz t0 n1 s2 h (onz t0 n1 s2 h Γ0) B) :: onz t0 n1 s2 h Γ0) C ≤ v.2 + (v.1 - p) * y1 + p * max z wB := by
    intro z
    have q := vC (hzx h z (nz t0 n1 s2 h (onz t0 n1 s2 h Γ0) B))
    have q2 : hzx h z (nz t0 n1 s2 h (onz t0 n1 s2 h Γ0) B) ≤ max z wB := by
      unfold hzx
      omega
    have q3 := Nat.mul_le_mul_left p q2
    omega
  have EA1 : 1 ≤ s2 + (v.2 + (v.1 - p) * y1 + p * wB) := by omega
  generalize s2 + (v.2 + (v.1 - p) * y1 + p * wB) = EA at *
  have h0' : ∀ j, j < (tAll B C :: Γ0).length → vw (onz t0 n1 s2 h (tAll B C :: Γ0)) j ≤ max y1 (hv + EA) := by
    intro j hj
    show vw (h (nz t0 n1 s2 h (onz t0 n1 s2 h Γ0) (tAll B C)) :: onz t0 n1 s2 h Γ0) j ≤ _
    rw [vw_cons, l0]
    by_cases e : j = Γ0.length
    · rw [if_pos e]
      have := H1 (nz t0 n1 s2 h (onz t0 n1 s2 h Γ0) (tAll B C))
      omega
    · rw [if_neg e]
      rw [List.length_cons] at hj
      exact Nat.le_trans (hω j (by rw [l0]; omega)) (Nat.le_max_left _ _)
  obtain ⟨e, he', e1, hw⟩ := onz_gr T hgr hW (Nat.le_trans x01 (Nat.le_max_left _ _)) h0' Δ1 hc (by omega)
  obtain ⟨e', he2, g1, g2⟩ := fgm_le hWm hr2 hr2' he'
  have m1 := Nat.mul_le_mul_right (max y1 (hv + EA)) g1
  refine ⟨e', he2, ?_, fun j hj => ?_, vZ⟩
  · have := Nat.mul_le_mul_right (max y1 (hv + EA)) e1
    omega
  · have := hw j hj
    omega
end PmVj
