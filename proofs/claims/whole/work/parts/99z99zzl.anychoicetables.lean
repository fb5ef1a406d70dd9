/-! THE TABLES, choices anywhere: what waits without an argument is worth no more than with one. -/
def X7q (F W : FrT) (hv y cd mt E0 p wB ob : Nat) : Nat := max (X7w F W y cd mt) (ebw F W hv y cd mt E0 p wB ob 0)
theorem Hdw_q {X7 : Nat} {eb e2 Z : Nat → Nat} (he : ∀ z z', z ≤ z' → eb z ≤ eb z') (w : Nat) : Hdw (max X7 (eb 0)) eb e2 Z w ≤ Hdw X7 eb e2 Z w := by
  unfold Hdw
  have := he 0 (Z (w - 1)) (Nat.zero_le _)
  omega
section PmZl1
variable {t0 fn s2 hv r0 r1 r2 r3 x0 : Nat} {n1 h : Nat → Nat} {P Q : List (List Nat)} {F G W : FrT} {X : List Nat} {B C β' : Ty} {Γ0 : List Ty}
/-- the numbers are as asked -/
theorem dh_okqo (hn : NC t0 n1 s2 h) (hm : ∀ y y', y ≤ y' → h y ≤ h y') (T : TBs 58 t0 fn s2 hv r0 r1 r2 r3 x0 n1 h P Q F G X) (hFm : frm F = true) (hgr : fgc F W hv = true) (hWm : fgm W = true) (hW1 : fg1s W = true) (hW : (1, 0) ∈ frg W 0) (H1 : ∀ y, h y ≤ hv + max 1 y) {a5 ob cd wB y E0 p k mt : Nat} (m30 : mt ≤ 30) (a55 : a5 ≤ 5) (y01 : x0 ≤ y) : DHy false a5 t0 fn s2 r0 r1 r2 r3 mt n1 h (Vbw F W y cd) (gyw W y) (Zbw F W y) (fun b => Hdw (X7w F W y cd mt) (ebw F W hv y cd mt E0 p wB ob) (e2w F W hv y cd mt k) (Zbw F W y b)) (E2 (X7q F W hv y cd mt E0 p wB ob) (ebw F W hv y cd mt E0 p wB ob) (e2w F W hv y cd mt k)) (DTo a5 fn s2 r0 r1 r2 r3 (Vbw F W y cd) (Zbw F W y) (fun b => Hdw (X7w F W y cd mt) (ebw F W hv y cd mt E0 p wB ob) (e2w F W hv y cd mt k) (Zbw F W y b)) mt) := by
  have yy : ∀ b, y ≤ gyw W y b := by
    intro b
    have a0 := Zx_mem (x := y) (frg W 0) (1, 0) hW
    simp only at a0
    have a1 : y ≤ gyw W y 0 := by
      show y ≤ (frg W 0).foldr (fun u a => max (u.2 + u.1 * y) a) 0
      omega
    exact Nat.le_trans a1 (gyw_mono hWm (Nat.zero_le _))
  refine ⟨⟨m30, a55⟩, T.2.2.2.1, T.2.2.2.2.1, DTo_ok.1, fun b π w hπ sk hw' => Nat.le_trans (E2_w ebw_mono e2w_mono (fun s s' hs => Zbw_mono hWm hFm (Nat.le_refl _) hs) π w sk) (Hdw_q ebw_mono w), fun A ω b o ht hw' => ⟨?_, ?_⟩, fun b j j1 hj hb => ?_, fun b b' hb => ?_, fun b b' hb => gyw_mono hWm hb, fun b b' s s' hb hs => Zbw_mono hWm hFm hb hs, fun A ω b o hb hw' => ?_⟩
  · have tp := tch_pos o
    have c1 : Zx F (gyw W y b) (mt - 3 - b) ≤ X7w F W y cd mt := by
      have := mxr_le (k := mt - 2) (f := fun b => Zx F (gyw W y b) (mt - 3 - b)) (i := b) (by omega)
      unfold X7w
      exact le_mx (Or.inr (le_mx (Or.inr this)))
    have c2 : ∀ z, cpw F hv (gyw W y b) (mt - b) z ≤ cpo F W hv y cd mt z := by
      intro z
      have := mxr_le (k := mt - 2) (f := fun b => cpw F hv (gyw W y b) (mt - b) z) (i := b) (by omega)
      unfold cpo
      exact le_mx (Or.inr this)
    exact txt_cp hm T hFm H1 ebw_mono e2w_mono (Nat.le_trans y01 (yy b)) (show mt - b ≤ 56 by omega) (by rw [show mt - b - 3 = mt - 3 - b by omega]; exact Nat.le_trans c1 (Nat.le_max_left _ _)) (fun z => ⟨by unfold ebw; exact le_mx (Or.inr (c2 z)), by unfold e2w; exact le_mx (Or.inr (c2 z))⟩) o (by omega) hw'
  · show _ ≤ Zx F (gyw W y b) (min (tch A + 2) 58)
    rw [Nat.min_eq_left (by omega)]
    exact Zx_le T o (by omega) (Nat.le_trans y01 (yy b)) hw'
  · unfold Vbw
    rw [if_pos (Nat.ble_eq_true_of_le (show 5 ≤ b by omega))]
    exact le_mx (Or.inr (Zbw_mono hWm hFm (Nat.le_refl _) (by omega)))
  · unfold Vbw
    by_cases c : 5 ≤ b
    · rw [if_pos (Nat.ble_eq_true_of_le c), if_pos (Nat.ble_eq_true_of_le (show 5 ≤ b' by omega))]
      have := Zbw_mono hWm hFm (y := y) hb (show b - 4 ≤ b' - 4 by omega)
      omega
    · have e : Nat.ble 5 b = false := by
        cases e : Nat.ble 5 b with
        | false => rfl
        | true => exact absurd (Nat.le_of_ble_eq_true e) c
      rw [e]
      exact Nat.max_le.mpr ⟨Nat.le_max_left _ _, Nat.zero_le _⟩
  · have eb : min b 38 = b := by omega
    have eb2 : min (b + tch A + 4) 38 = b + tch A + 4 := by omega
    obtain ⟨e, e0, e1, e2⟩ := fg1s_at hW1 (r := b) (by omega) y
    obtain ⟨u, u0, u1, u2, u3, u4⟩ := gr_step hn T hgr y01 e0 e1 o (fun j hj => by
      have := hw' j hj
      unfold gyw at this
      rw [eb, e2] at this
      exact this) hb
    have u5 : u.2 + u.1 * y ≤ gyw W y (b + tch A + 4) := by
      unfold gyw
      rw [eb2]
      exact Zx_mem (frg W (b + tch A + 4)) u u0
    exact ⟨Nat.le_trans u3 u5, Nat.le_trans u4 u5⟩
end PmZl1

section PmZl2
variable {t0 fn s2 hv r0 r1 r2 r3 x0 : Nat} {n1 h : Nat → Nat} {P Q : List (List Nat)} {F G W : FrT} {X : List Nat}
theorem gen_fin6qo (hn : NC t0 n1 s2 h) (hm : ∀ y y', y ≤ y' → h y ≤ h y') (T : TBs 58 t0 fn s2 hv r0 r1 r2 r3 x0 n1 h P Q F G X) (hFm : frm F = true) (hgr : fgc F W hv = true) (hWm : fgm W = true) (hW1 : fg1s W = true) (hW : (1, 0) ∈ frg W 0) (H1 : ∀ y, h y ≤ hv + max 1 y) {f : Nat} {t S : Ty} {Γ : List Ty} {ω : List Nat} {Δ : List (Nat × Ty × Nat)} {a5 ob cd wB Bd y E0 p k : Nat} (w : TWf f Γ.length (Δ.map (fun a => a.1)) t) (he : TE Γ Δ) (l1 : ω.length = Γ.length) (cu : TNo f t) (hΔ1 : Δ.length ≤ 1) (hm30 : mch t ≤ 30) (hdc : dch Δ ≤ cd) (hcd : cd ≤ 56) (a55 : a5 ≤ 5) (ha5 : Δ ≠ [] → a5 = 0) (y01 : x0 ≤ y) (hω2 : ∀ j, j < ω.length → vw ω j ≤ y) (hk1 : HEk t0 n1 s2 h (E2 (X7q F W hv y cd (mch t) E0 p wB ob) (ebw F W hv y cd (mch t) E0 p wB ob) (e2w F W hv y cd (mch t) k)) Γ ω) (go : ∀ Z, AQh t0 n1 s2 h (E2 (X7q F W hv y cd (mch t) E0 p wB ob) (ebw F W hv y cd (mch t) E0 p wB ob) (e2w F W hv y cd (mch t) k)) Z f t [] ω → HEk t0 n1 s2 h (E2 (X7q F W hv y cd (mch t) E0 p wB ob) (ebw F W hv y cd (mch t) E0 p wB ob) (e2w F W hv y cd (mch t) k)) Γ ω → GOk t0 n1 s2 h (E2 (X7q F W hv y cd (mch t) E0 p wB ob) (ebw F W hv y cd (mch t) E0 p wB ob) (e2w F W hv y cd (mch t) k)) f t [] ω Γ Δ) (R1 : dpDo F W a5 hv fn s2 r0 r1 r2 r3 E0 p wB ob k y cd (mch t) ≤ Bd) (hS : tyF f t Γ Δ = .inr S) : nz t0 n1 s2 h ω S ≤ Bd := by
  have dh := dh_okqo (a5 := a5) (ob := ob) (cd := cd) (wB := wB) (y := y) (E0 := E0) (p := p) (k := k) (mt := mch t) hn hm T hFm hgr hWm hW1 hW H1 hm30 a55 y01
  have gy0 : y ≤ gyw W y 0 := by
    have a0 := Zx_mem (x := y) (frg W 0) (1, 0) hW
    simp only at a0
    show y ≤ (frg W 0).foldr (fun u a => max (u.2 + u.1 * y) a) 0
    omega
  have aq := DQa dh f t [] ω Γ _ 0 0 w l1 (fun j hj => Nat.le_trans (hω2 j hj) gy0) (by omega) (fun e => absurd rfl e)
  have dv : DVn t0 n1 s2 h (E2 (X7q F W hv y cd (mch t) E0 p wB ob) (ebw F W hv y cd (mch t) E0 p wB ob) (e2w F W hv y cd (mch t) k)) (Vbw F W y cd 0) ω Δ := by
    intro a ha
    obtain ⟨a1, a2, a3⟩ := he.2.2 a ha
    have ad := dch_mem ha
    have al : a.2.2 ≤ ω.length := by rw [l1]; exact a1
    have ll : (ω.drop (ω.length - a.2.2)).length = a.2.2 := by rw [List.length_drop]; omega
    have vv : ∀ j, j < (ω.drop (ω.length - a.2.2)).length → vw (ω.drop (ω.length - a.2.2)) j ≤ y := by
      intro j hj
      have q := vw_app_lo (ω.take (ω.length - a.2.2)) _ j hj
      rw [List.take_append_drop] at q
      rw [← q]
      exact hω2 j (by rw [ll] at hj; omega)
    refine ⟨ω.take (ω.length - a.2.2), ω.drop (ω.length - a.2.2), (List.take_append_drop _ _).symm, ll, by rw [ll]; exact a2, ?_, ?_⟩
    · have q1 := Zx_le T (x := y) (A := a.2.1) (by rw [ll]; exact a2) (by omega) y01 vv
      have q2 := Zx_ms hFm (x := y) (s := tch a.2.1 + 2) (s' := cd - 2) (by omega) (by omega)
      exact Nat.le_trans q1 (Nat.le_trans q2 (Nat.le_max_left _ _))
    · have c1 : Zx F y (cd - 2 - 3) ≤ X7w F W y cd (mch t) := by
        unfold X7w
        exact le_mx (Or.inr (Nat.le_max_left _ _))
      have c2 : ∀ z, cpw F hv y (cd - 2) z ≤ cpo F W hv y cd (mch t) z := fun z => Nat.le_max_left _ _
      exact txt_cp hm T hFm H1 ebw_mono e2w_mono y01 (show cd - 2 ≤ 56 by omega) (Nat.le_trans c1 (Nat.le_max_left _ _)) (fun z => ⟨by unfold ebw; exact le_mx (Or.inr (c2 z)), by unfold e2w; exact le_mx (Or.inr (c2 z))⟩) (by rw [ll]; exact a2) (by omega) vv
  have q1 := tyF_vz hm f t Γ Δ S [] ω w he hk1 (go _ aq hk1) hS
  rw [vz_no (tyF_ok f t _ Δ S w he hS).1] at q1
  have q2 := (DQo_all DTo_ok.2 dh f t [] ω Γ Δ 0 0 w l1 dv (fun j hj => Nat.le_trans (hω2 j hj) gy0) (by omega) (fun e => by have := ha5 e; omega) (fun e => absurd rfl e) ⟨cu, fun _ => hΔ1⟩).1 rfl
  exact Nat.le_trans q1 (Nat.le_trans q2 R1)
end PmZl2
section PmZl3
variable {t0 fn s2 hv r0 r1 r2 r3 x0 : Nat} {n1 h : Nat → Nat} {P Q : List (List Nat)} {F G W : FrT} {X : List Nat} {B C β' : Ty} {Γ0 : List Ty}
/-- the numbers are as asked -/
theorem dh_okq (hn : NC t0 n1 s2 h) (hm : ∀ y y', y ≤ y' → h y ≤ h y') (T : TBs 58 t0 fn s2 hv r0 r1 r2 r3 x0 n1 h P Q F G X) (hFm : frm F = true) (hgr : fgc F W hv = true) (hWm : fgm W = true) (hW1 : fg1s W = true) (hW : (1, 0) ∈ frg W 0) (H1 : ∀ y, h y ≤ hv + max 1 y) {un : Bool} {a5 ob cd wB y E0 p k mt : Nat} (m30 : mt ≤ 30) (a55 : a5 ≤ 5) (y01 : x0 ≤ y) : DHy un a5 t0 fn s2 r0 r1 r2 r3 mt n1 h (Vbw F W y cd) (gyw W y) (Zbw F W y) (fun b => Hdw (X7w F W y cd mt) (ebw F W hv y cd mt E0 p wB ob) (e2w F W hv y cd mt k) (Zbw F W y b)) (E2 (X7q F W hv y cd mt E0 p wB ob) (ebw F W hv y cd mt E0 p wB ob) (e2w F W hv y cd mt k)) (DT un a5 fn s2 r0 r1 r2 r3 (Vbw F W y cd) (Zbw F W y) (fun b => Hdw (X7w F W y cd mt) (ebw F W hv y cd mt E0 p wB ob) (e2w F W hv y cd mt k) (Zbw F W y b)) mt) := by
  have yy : ∀ b, y ≤ gyw W y b := by
    intro b
    have a0 := Zx_mem (x := y) (frg W 0) (1, 0) hW
    simp only at a0
    have a1 : y ≤ gyw W y 0 := by
      show y ≤ (frg W 0).foldr (fun u a => max (u.2 + u.1 * y) a) 0
      omega
    exact Nat.le_trans a1 (gyw_mono hWm (Nat.zero_le _))
  refine ⟨⟨m30, a55⟩, T.2.2.2.1, T.2.2.2.2.1, DT_ok, fun b π w hπ sk hw' => Nat.le_trans (E2_w ebw_mono e2w_mono (fun s s' hs => Zbw_mono hWm hFm (Nat.le_refl _) hs) π w sk) (Hdw_q ebw_mono w), fun A ω b o ht hw' => ⟨?_, ?_⟩, fun b j j1 hj hb => ?_, fun b b' hb => ?_, fun b b' hb => gyw_mono hWm hb, fun b b' s s' hb hs => Zbw_mono hWm hFm hb hs, fun A ω b o hb hw' => ?_⟩
  · have tp := tch_pos o
    have c1 : Zx F (gyw W y b) (mt - 3 - b) ≤ X7w F W y cd mt := by
      have := mxr_le (k := mt - 2) (f := fun b => Zx F (gyw W y b) (mt - 3 - b)) (i := b) (by omega)
      unfold X7w
      exact le_mx (Or.inr (le_mx (Or.inr this)))
    have c2 : ∀ z, cpw F hv (gyw W y b) (mt - b) z ≤ cpo F W hv y cd mt z := by
      intro z
      have := mxr_le (k := mt - 2) (f := fun b => cpw F hv (gyw W y b) (mt - b) z) (i := b) (by omega)
      unfold cpo
      exact le_mx (Or.inr this)
    exact txt_cp hm T hFm H1 ebw_mono e2w_mono (Nat.le_trans y01 (yy b)) (show mt - b ≤ 56 by omega) (by rw [show mt - b - 3 = mt - 3 - b by omega]; exact Nat.le_trans c1 (Nat.le_max_left _ _)) (fun z => ⟨by unfold ebw; exact le_mx (Or.inr (c2 z)), by unfold e2w; exact le_mx (Or.inr (c2 z))⟩) o (by omega) hw'
  · show _ ≤ Zx F (gyw W y b) (min (tch A + 2) 58)
    rw [Nat.min_eq_left (by omega)]
    exact Zx_le T o (by omega) (Nat.le_trans y01 (yy b)) hw'
  · unfold Vbw
    rw [if_pos (Nat.ble_eq_true_of_le (show 5 ≤ b by omega))]
    exact le_mx (Or.inr (Zbw_mono hWm hFm (Nat.le_refl _) (by omega)))
  · unfold Vbw
    by_cases c : 5 ≤ b
    · rw [if_pos (Nat.ble_eq_true_of_le c), if_pos (Nat.ble_eq_true_of_le (show 5 ≤ b' by omega))]
      have := Zbw_mono hWm hFm (y := y) hb (show b - 4 ≤ b' - 4 by omega)
      omega
    · have e : Nat.ble 5 b = false := by
        cases e : Nat.ble 5 b with
        | false => rfl
        | true => exact absurd (Nat.le_of_ble_eq_true e) c
      rw [e]
      exact Nat.max_le.mpr ⟨Nat.le_max_left _ _, Nat.zero_le _⟩
  · have eb : min b 38 = b := by omega
    have eb2 : min (b + tch A + 4) 38 = b + tch A + 4 := by omega
    obtain ⟨e, e0, e1, e2⟩ := fg1s_at hW1 (r := b) (by omega) y
    obtain ⟨u, u0, u1, u2, u3, u4⟩ := gr_step hn T hgr y01 e0 e1 o (fun j hj => by
      have := hw' j hj
      unfold gyw at this
      rw [eb, e2] at this
      exact this) hb
    have u5 : u.2 + u.1 * y ≤ gyw W y (b + tch A + 4) := by
      unfold gyw
      rw [eb2]
      exact Zx_mem (frg W (b + tch A + 4)) u u0
    exact ⟨Nat.le_trans u3 u5, Nat.le_trans u4 u5⟩
end PmZl3
section PmZl4
variable {t0 fn s2 hv r0 r1 r2 r3 x0 : Nat} {n1 h : Nat → Nat} {P Q : List (List Nat)} {F G W : FrT} {X : List Nat}
theorem gen_fin6q (hn : NC t0 n1 s2 h) (hm : ∀ y y', y ≤ y' → h y ≤ h y') (T : TBs 58 t0 fn s2 hv r0 r1 r2 r3 x0 n1 h P Q F G X) (hFm : frm F = true) (hgr : fgc F W hv = true) (hWm : fgm W = true) (hW1 : fg1s W = true) (hW : (1, 0) ∈ frg W 0) (H1 : ∀ y, h y ≤ hv + max 1 y) {f : Nat} {t S : Ty} {Γ : List Ty} {ω : List Nat} {Δ : List (Nat × Ty × Nat)} {un : Bool} {a5 ob cd wB Bd y E0 p k : Nat} (w : TWf f Γ.length (Δ.map (fun a => a.1)) t) (he : TE Γ Δ) (l1 : ω.length = Γ.length) (cu : un = true ∨ COk f t 0) (hm30 : mch t ≤ 30) (hdc : dch Δ ≤ cd) (hcd : cd ≤ 56) (a55 : a5 ≤ 5) (ha5 : Δ ≠ [] → a5 = 0) (y01 : x0 ≤ y) (hω2 : ∀ j, j < ω.length → vw ω j ≤ y) (hk1 : HEk t0 n1 s2 h (E2 (X7q F W hv y cd (mch t) E0 p wB ob) (ebw F W hv y cd (mch t) E0 p wB ob) (e2w F W hv y cd (mch t) k)) Γ ω) (go : ∀ Z, AQh t0 n1 s2 h (E2 (X7q F W hv y cd (mch t) E0 p wB ob) (ebw F W hv y cd (mch t) E0 p wB ob) (e2w F W hv y cd (mch t) k)) Z f t [] ω → HEk t0 n1 s2 h (E2 (X7q F W hv y cd (mch t) E0 p wB ob) (ebw F W hv y cd (mch t) E0 p wB ob) (e2w F W hv y cd (mch t) k)) Γ ω → GOk t0 n1 s2 h (E2 (X7q F W hv y cd (mch t) E0 p wB ob) (ebw F W hv y cd (mch t) E0 p wB ob) (e2w F W hv y cd (mch t) k)) f t [] ω Γ Δ) (R1 : dpD un F W a5 hv fn s2 r0 r1 r2 r3 E0 p wB ob k y cd (mch t) ≤ Bd) (hS : tyF f t Γ Δ = .inr S) : nz t0 n1 s2 h ω S ≤ Bd := by
  have dh := dh_okq (un := un) (a5 := a5) (ob := ob) (cd := cd) (wB := wB) (y := y) (E0 := E0) (p := p) (k := k) (mt := mch t) hn hm T hFm hgr hWm hW1 hW H1 hm30 a55 y01
  have gy0 : y ≤ gyw W y 0 := by
    have a0 := Zx_mem (x := y) (frg W 0) (1, 0) hW
    simp only at a0
    show y ≤ (frg W 0).foldr (fun u a => max (u.2 + u.1 * y) a) 0
    omega
  have aq := DQa dh f t [] ω Γ _ 0 0 w l1 (fun j hj => Nat.le_trans (hω2 j hj) gy0) (by omega) (fun e => absurd rfl e)
  have dv : DVn t0 n1 s2 h (E2 (X7q F W hv y cd (mch t) E0 p wB ob) (ebw F W hv y cd (mch t) E0 p wB ob) (e2w F W hv y cd (mch t) k)) (Vbw F W y cd 0) ω Δ := by
    intro a ha
    obtain ⟨a1, a2, a3⟩ := he.2.2 a ha
    have ad := dch_mem ha
    have al : a.2.2 ≤ ω.length := by rw [l1]; exact a1
    have ll : (ω.drop (ω.length - a.2.2)).length = a.2.2 := by rw [List.length_drop]; omega
    have vv : ∀ j, j < (ω.drop (ω.length - a.2.2)).length → vw (ω.drop (ω.length - a.2.2)) j ≤ y := by
      intro j hj
      have q := vw_app_lo (ω.take (ω.length - a.2.2)) _ j hj
      rw [List.take_append_drop] at q
      rw [← q]
      exact hω2 j (by rw [ll] at hj; omega)
    refine ⟨ω.take (ω.length - a.2.2), ω.drop (ω.length - a.2.2), (List.take_append_drop _ _).symm, ll, by rw [ll]; exact a2, ?_, ?_⟩
    · have q1 := Zx_le T (x := y) (A := a.2.1) (by rw [ll]; exact a2) (by omega) y01 vv
      have q2 := Zx_ms hFm (x := y) (s := tch a.2.1 + 2) (s' := cd - 2) (by omega) (by omega)
      exact Nat.le_trans q1 (Nat.le_trans q2 (Nat.le_max_left _ _))
    · have c1 : Zx F y (cd - 2 - 3) ≤ X7w F W y cd (mch t) := by
        unfold X7w
        exact le_mx (Or.inr (Nat.le_max_left _ _))
      have c2 : ∀ z, cpw F hv y (cd - 2) z ≤ cpo F W hv y cd (mch t) z := fun z => Nat.le_max_left _ _
      exact txt_cp hm T hFm H1 ebw_mono e2w_mono y01 (show cd - 2 ≤ 56 by omega) (Nat.le_trans c1 (Nat.le_max_left _ _)) (fun z => ⟨by unfold ebw; exact le_mx (Or.inr (c2 z)), by unfold e2w; exact le_mx (Or.inr (c2 z))⟩) (by rw [ll]; exact a2) (by omega) vv
  have q1 := tyF_vz hm f t Γ Δ S [] ω w he hk1 (go _ aq hk1) hS
  rw [vz_no (tyF_ok f t _ Δ S w he hS).1] at q1
  have q2 := (DQ_all dh f t [] ω Γ Δ 0 0 w l1 dv (fun j hj => Nat.le_trans (hω2 j hj) gy0) (by omega) (fun e => by have := ha5 e; omega) (fun e => absurd rfl e) cu).1 rfl
  exact Nat.le_trans q1 (Nat.le_trans q2 R1)
end PmZl4
