/-! CONTEXTS WITHOUT A LONG SCHEME, by nature. -/
section PmWo
variable {t0 fn s2 hv r0 r1 r2 r3 x0 : Nat} {n1 h : Nat → Nat} {P Q : List (List Nat)} {F G W : FrT} {X : List Nat}
theorem nat_fin5 (hn : NC t0 n1 s2 h) (hm : ∀ y y', y ≤ y' → h y ≤ h y') (hh : ∀ y δ, h (y + δ) ≤ h y + δ) (T : TBs 58 t0 fn s2 hv r0 r1 r2 r3 x0 n1 h P Q F G X) (hx : PXk 58 P F X fn s2 r1 = true) (hFm : frm F = true) (hgr : fgc F W hv = true) (hW : (1, 0) ∈ frg W 0) (hWm : fgm W = true) (h21 : r2 ≤ r1) (h32 : r3 ≤ r2) (H1 : ∀ y, h y ≤ hv + max 1 y) {f : Nat} {t S : Ty} {Γ : List Ty} {Δ : List (Nat × Ty × Nat)} {ob cd Bd y cv : Nat} (w : TWf f Γ.length (Δ.map (fun a => a.1)) t) (he : TE Γ Δ) (co : COk f t 0) (hg : hasq f t = true → g3k f t + 3 ≤ mch t ∧ (mch t ≤ 11 ∨ g3k f t = 0)) (hm3 : 3 ≤ mch t) (hm17 : mch t ≤ 17) (hb0 : ∀ b ∈ Γ, nsch b = true ∨ flv b ≤ ob) (hdc : dch Δ ≤ cd) (hcd : 2 ≤ cd) (y01 : x0 ≤ y) (hw : ∀ j, j < Γ.length → vw (onz t0 n1 s2 h Γ) j ≤ y) (R1 : smZ1 P F W X hv 0 0 0 ob 0 y cv cd (mch t) Bd = true) (hS : tyF f t Γ Δ = .inr S) : nz t0 n1 s2 h (onz t0 n1 s2 h Γ) S ≤ Bd := by
  unfold smZ1 at R1
  rw [Bool.and_eq_true, Bool.and_eq_true, Bool.and_eq_true] at R1
  obtain ⟨lk, n1', n2', n4'⟩ := R1
  have lk := Nat.le_of_ble_eq_true lk
  have n1' := Nat.le_of_ble_eq_true n1'
  have n2' := Nat.le_of_ble_eq_true n2'
  have hm1 : mch t ≤ 56 := by omega
  obtain ⟨g, hg1, hg3, hg0, hg4⟩ : ∃ g, (hasq f t = true → 0 + g3k f t ≤ g) ∧ g + 3 ≤ mch t ∧ (g = 0 ∨ 5 ≤ g) ∧ (mch t ≤ 11 ∨ g = 0) := by
    by_cases c : hasq f t = true
    · exact ⟨g3k f t, fun _ => by omega, (hg c).1, g3k_z f t _ _ w, (hg c).2⟩
    · exact ⟨0, fun c' => absurd c' c, by omega, Or.inl rfl, Or.inr rfl⟩
  have n5 := rng_all n4' (i := g) (by
    by_cases c : Nat.ble (mch t) 11 = true
    · rw [if_pos c]; omega
    · rw [if_neg c]
      have c2 : ¬ mch t ≤ 11 := fun e => c (Nat.ble_eq_true_of_le e)
      omega)
  rw [Bool.or_eq_true, Bool.and_eq_true] at n5
  have n6 : natL P (hd2 (max y (Zx F (Zx W y (g + 2)) (mch t - 3))) (ebz F hv y (Zx W y (g + 2)) (mch t) 0 0 0 ob) (e2z F hv y (Zx W y (g + 2)) (mch t) 0) (Zx F (Zx W y (g + 2)))) (cv + cd) (mch t) Bd = true := by
    rcases n5 with ⟨c1, c2⟩ | c
    · have c1 : Nat.ble (0 + 1) g = true := c1
      have c2 : Nat.ble (g + 1) 5 = true := c2
      have c1 := Nat.le_of_ble_eq_true c1
      have c2 := Nat.le_of_ble_eq_true c2
      omega
    · exact c
  clear n4' n5
  have hyg : ∀ r, r ≤ g → ∀ e ∈ frg W r, e.2 + e.1 * y ≤ Zx W y (g + 2) := by
    intro r hr e he'
    obtain ⟨e', h1, h2, h3⟩ := fgm_le hWm hr (by omega) he'
    have := Nat.mul_le_mul_right y h2
    exact Nat.le_trans (by omega) (Zx_mem (frg W g) e' h1)
  have yy : y ≤ Zx W y (g + 2) := by
    have := hyg 0 (Nat.zero_le _) (1, 0) hW
    simp only at this
    omega
  generalize Zx W y (g + 2) = yg at *
  have hω2 : ∀ j, j < (onz t0 n1 s2 h Γ).length → vw (onz t0 n1 s2 h Γ) j ≤ y := fun j hj => hw j (by rw [onz_len] at hj; exact hj)
  have l1 : (onz t0 n1 s2 h Γ).length = Γ.length := onz_len ..
  have hSc : ∀ (A : Ty) (ω : List Nat), hd A = 2 → ok ω.length A = true → tch A + 2 ≤ mch t → (∀ j, j < ω.length → vw ω j ≤ yg) → HS2 t0 n1 s2 h (ebz F hv y yg (mch t) 0 0 0 ob) (e2z F hv y yg (mch t) 0) ω A := by
    intro A ω h2 o ht hw
    rcases ok_cases o with rfl | ⟨j, hj, rfl⟩ | ⟨a, b, rfl, ha, hb⟩ | ⟨a, b, rfl, ha, hb⟩ | ⟨c, u, v, w, hc, rfl, h0, h1, h2'⟩
    · exact absurd h2 (by decide)
    · rw [hd_var] at h2; omega
    · rw [hd_fun] at h2; omega
    · rw [tch_all] at ht
      have pa := tch_pos ha
      have pc := tch_pos hb
      have q1 := Zx_le T ha (by omega) (Nat.le_trans y01 yy) hw
      have q2 := Zx_ms hFm (x := yg) (s := tch a + 2) (s' := mch t - 5) (by omega) (by omega)
      have q3 := H1 (nz t0 n1 s2 h ω a)
      have vals : ∀ z j, j < (hzx h z (nz t0 n1 s2 h ω a) :: ω).length → vw (hzx h z (nz t0 n1 s2 h ω a) :: ω) j ≤ max (max z yg) (hv + max 1 (Zx F yg (mch t - 5))) := by
        intro z j hj
        rw [vw_cons]
        by_cases e : j = ω.length
        · rw [if_pos e]
          unfold hzx
          omega
        · rw [if_neg e]
          have := hw j (by rw [List.length_cons] at hj; omega)
          omega
      refine ⟨a, b, rfl, fun z => ?_, fun z => ?_⟩
      · have q4 := Zx_le T (x := max (max z yg) (hv + max 1 (Zx F yg (mch t - 5)))) (ω := hzx h z (nz t0 n1 s2 h ω a) :: ω) (A := b) (by rw [List.length_cons]; exact hb) (by omega) (by omega) (vals z)
        have q5 := Zx_ms hFm (x := max (max z yg) (hv + max 1 (Zx F yg (mch t - 5)))) (s := tch b + 2) (s' := mch t - 5) (by omega) (by omega)
        unfold ebz
        exact Nat.le_trans q4 (Nat.le_trans q5 (Nat.le_max_right _ _))
      · have q4 := Zx_leh T (x := max (max z yg) (hv + max 1 (Zx F yg (mch t - 5)))) (z := z) (ω := hzx h z (nz t0 n1 s2 h ω a) :: ω) (A := b) (by rw [List.length_cons]; exact hb) (by omega) (by omega) (by omega) (vals z)
        have q5 := Zx_ms hFm (x := max (max z yg) (hv + max 1 (Zx F yg (mch t - 5)))) (s := tch b + 2) (s' := mch t - 5) (by omega) (by omega)
        unfold e2z
        exact Nat.le_trans q4 (Nat.le_trans q5 (Nat.le_max_right _ _))
    · rw [hd_rec] at h2; omega
  have hZ : ∀ s s', s ≤ s' → (fun s => Zx F yg (min s 58)) s ≤ (fun s => Zx F yg (min s 58)) s' := fun s s' hs => Zx_ms hFm (x := yg) (s := min s 58) (s' := min s' 58) (by omega) (by omega)
  have hA : ∀ (A : Ty) (ω : List Nat), ok ω.length A = true → tch A + 2 ≤ mch t → (∀ j, j < ω.length → vw ω j ≤ yg) → (∀ ρ, ρ ≠ [] → vz t0 n1 s2 h (E2 (max y (Zx F yg (mch t - 3))) (ebz F hv y yg (mch t) 0 0 0 ob) (e2z F hv y yg (mch t) 0)) A ρ ω ≤ E2 (max y (Zx F yg (mch t - 3))) (ebz F hv y yg (mch t) 0 0 0 ob) (e2z F hv y yg (mch t) 0) ρ) ∧ nz t0 n1 s2 h ω A ≤ (fun s => Zx F yg (min s 58)) (tch A + 2) := by
    intro A ω o ht hw'
    refine ⟨arg_2 ebz_mono e2z_mono hm T (Nat.le_trans y01 yy) hm1 (fun s hs => Nat.le_trans (Zx_ms hFm (x := yg) (s := s) (s' := mch t - 3) (by omega) (by omega)) (Nat.le_max_right _ _)) hSc _ A _ (Nat.le_refl _) o ht hw', ?_⟩
    show nz t0 n1 s2 h ω A ≤ Zx F yg (min (tch A + 2) 58)
    rw [Nat.min_eq_left (by omega)]
    exact Zx_le T o (by omega) (Nat.le_trans y01 yy) hw'
  have aq := AH_x (Z := fun s => Zx F yg (min s 58)) (E := E2 (max y (Zx F yg (mch t - 3))) (ebz F hv y yg (mch t) 0 0 0 ob) (e2z F hv y yg (mch t) 0)) T.2.2.2.2.2.2.2 hn hm T hgr y01 (g := g) (yg := yg) (m0 := mch t) (by omega) hyg hA f t [] (onz t0 n1 s2 h Γ) Γ _ 0 (1, 0) w l1 hW (Nat.le_refl _) (fun j hj => by
    have := hω2 j hj
    show _ ≤ 0 + 1 * y
    omega) (fun _ => Nat.zero_le _) hg1 (Nat.le_refl _)
  have bg := gen_BG2 ebz_mono e2z_mono hZ hm hh T hx h21 h32 w he co hS hdc hcd n2' l1 aq (GH_nat hn hm f t [] (onz t0 n1 s2 h Γ) Γ Δ w he co aq (onz_cv hn he.1)) (fun j hj => Nat.le_trans (hω2 j hj) lk) (BE2_onz hn (Nat.le_max_left _ _) hw (fun b hb => (hb0 b hb).imp id (fun c z => by have := Nat.mul_le_mul_right z c; unfold ebz; omega)))
  refine natL_le n6 hm17 (bg.hdc (fun s hs => ?_))
  unfold hd2
  show (if s < 5 then max _ (ebz F hv y yg (mch t) 0 0 0 ob (Zx F yg (min s 58))) else max (max _ (ebz F hv y yg (mch t) 0 0 0 ob (Zx F yg (min s 58)))) (e2z F hv y yg (mch t) 0 (Zx F yg (min (s - 2) 58)))) = _
  rw [Nat.min_eq_left (show s ≤ 58 by omega), Nat.min_eq_left (show s - 2 ≤ 58 by omega)]
end PmWo
/-- leaves of the schemes that may stand in a context of so many characters -/
def obt : List Nat := [12, 12, 12, 12, 12, 12, 12, 12, 12, 12, 12, 12, 12, 12, 12, 12, 12, 9, 9, 8, 6, 6, 6, 5, 4, 4, 4, 3, 4, 4, 3, 3, 3, 2, 2, 2, 2, 1, 3, 2, 2, 2, 2, 1, 3, 2, 2, 2]
def fwc (P : List (List Nat)) (F W : FrT) (X : List Nat) (hv Bd : Nat) : Bool := (List.range 48).all (fun c => (List.range 16).all (fun m => Nat.blt m 3 || (Nat.blt 58 (c + 5 + 2 * m) || smZ1 P F W X hv 0 0 0 (obt.getD c 0) 0 (X.getD c 0) c (58 - 2 * m - c) m Bd)))
theorem fw1_ok : fwc pp1 fr1 fg1 fx1 1 887 = true := by decide +kernel
theorem fwq_ok : fwc ppq frq fgq fxq 0 597 = true := by decide +kernel
theorem fwc_get {P : List (List Nat)} {F W : FrT} {X : List Nat} {hv Bd c m : Nat} (h : fwc P F W X hv Bd = true) (hc : c < 48) (hm3 : 3 ≤ m) (hm : m ≤ 15) (h5 : c + 5 + 2 * m ≤ 58) : smZ1 P F W X hv 0 0 0 (obt.getD c 0) 0 (X.getD c 0) c (58 - 2 * m - c) m Bd = true := by
  unfold fwc at h
  have q := rng_all (rng_all h (i := c) hc) (i := m) (by omega)
  rw [Bool.or_eq_true, Bool.or_eq_true] at q
  rcases q with q | q | q
  · exact (blt_no hm3 q).elim
  · exact (blt_no h5 q).elim
  · exact q
section PmWp
variable {f : Nat} {t x y : Ty} {Γ : List Ty} {Δ : List (Nat × Ty × Nat)}
theorem few_v (w : TWf f Γ.length (Δ.map (fun a => a.1)) t) (he : TE Γ Δ) (hs : smq f t) (ho : ∀ b ∈ Γ, nsch b = true ∨ flv b ≤ obt.getD (cch Γ) 0) (hb : cch Γ + dch Δ + 2 * mch t ≤ 58) (h5 : cch Γ + 5 + 2 * mch t ≤ 58) (h47 : cch Γ ≤ 47) : NtV Γ Δ f t 887 597 := by
  obtain ⟨co, hm3, h15, hg⟩ := hs
  refine fun S hS => ⟨fun b => ?_, ?_⟩
  · exact nat_fin5 (NC_rows b 1) (vlr_mono b 1) (vlr_lip b 1) (tbs1 b) px1_ok fr1_m fg1_ok (by decide) fg1_m (Nat.le_refl _) (Nat.le_refl _) (vlr_one b) w he co hg hm3 (by omega) ho (by omega) (by omega) (fxc_x0 (tbs1 b).2.1 (c := cch Γ) (by omega)) (fun j hj => onz_chars (n1 := fun _ => 1 + 1) (tbs1 b).1 (tbs1 b).2.1 (tbs1 b).2.2.1 (tbs1 b).2.2.2.1 (tbs1 b).2.2.2.2.1 Γ he.1 (by omega) j hj) (fwc_get fw1_ok (by omega) hm3 h15 h5) hS
  · exact nat_fin5 NC_goals (fun y y' hy => hy) (fun y δ => Nat.le_refl _) tbsq pxq_ok frq_m fgq_ok (by decide) fgq_m (by decide) (by decide) (fun y => by show y ≤ 0 + max 1 y; omega) w he co hg hm3 (by omega) ho (by omega) (by omega) (fxc_x0 tbsq.2.1 (c := cch Γ) (by omega)) (fun j hj => onz_chars (n1 := ngc) tbsq.1 tbsq.2.1 tbsq.2.2.1 tbsq.2.2.2.1 tbsq.2.2.2.2.1 Γ he.1 (by omega) j hj) (fwc_get fwq_ok (by omega) hm3 h15 h5) hS
/-- pairs in a context without a long scheme -/
theorem pair_few (x1 : TWf f Γ.length (Δ.map (fun a => a.1)) x) (x2 : TWf f Γ.length (Δ.map (fun a => a.1)) y) (he : TE Γ Δ) (y1 : NAt f x) (y2 : NAt f y) (hv : noac Γ) (hd' : ∀ a ∈ Δ, noal a.2.1 = true) (hs : (mch x ≤ mch y ∧ smq f x) ∨ (mch y ≤ mch x ∧ smq f y)) (ho : ∀ b ∈ Γ, nsch b = true ∨ flv b ≤ obt.getD (cch Γ) 0) (h5 : 5 ≤ dch Δ) (hb : cch Γ + dch Δ + (2 + (mch x + mch y)) ≤ 60) (h47 : cch Γ ≤ 47) : PRn f x y Γ Δ := by
  refine pair_ntv x1 x2 he y1 y2 hv hd' (by omega) ?_
  rcases hs with ⟨m, hs⟩ | ⟨m, hs⟩
  · exact Or.inl (few_v x1 he hs ho (by omega) (by omega) h47)
  · exact Or.inr (few_v x2 he hs ho (by omega) (by omega) h47)
end PmWp
