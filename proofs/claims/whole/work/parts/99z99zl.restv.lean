/-! ONE NAME AROUND, two arguments counted by parts of the body. -/
section PmZjo
variable {t0 s2 : Nat} {n1 h : Nat → Nat}
variable {X7 : Nat} {eb es e2 : Nat → Nat}
theorem DHy5o {a5 fn r0 r1 r2 r3 mt : Nat} {V gy : Nat → Nat} {Z Ha Hb : Nat → Nat → Nat} {D D' : Nat → Nat → Nat → Nat} (he : ∀ z z', z ≤ z' → eb z ≤ eb z') (hes : ∀ z z', z ≤ z' → es z ≤ es z') (he2 : ∀ z z', z ≤ z' → e2 z ≤ e2 z') (les : ∀ z, es z ≤ e2 z) (ds : DHy false a5 t0 fn s2 r0 r1 r2 r3 mt n1 h V gy Z Ha (E2 X7 eb es) D) (db : DHy false a5 t0 fn s2 r0 r1 r2 r3 mt n1 h V gy Z Hb (E2 X7 eb e2) D') : DHy false a5 t0 fn s2 r0 r1 r2 r3 mt n1 h V gy Z (fun b => H5 X7 eb es e2 (Z b)) (E5 X7 eb es e2) (DTo a5 fn s2 r0 r1 r2 r3 V Z (fun b => H5 X7 eb es e2 (Z b)) mt) := by
  have zm' := ds.zm
  obtain ⟨d1, d2, d3, d4, d5, d6, d7⟩ := ds
  exact ⟨d1, d2, d3, DTo_ok.1, fun b π w hπ sk hw => E5_w he hes he2 (fun s s' hs => zm' b b s s' (Nat.le_refl _) hs) π w sk, fun A ω b o ht hw => ⟨fun ρ hρ => vz_E5 les o (fun _ => (d6 A ω b o ht hw).1 ρ hρ) ((db.tx A ω b o ht hw).1 ρ hρ), (d6 A ω b o ht hw).2⟩, d7⟩
end PmZjo
section PmZko
variable {t0 fn s2 hv r0 r1 r2 r3 x0 : Nat} {n1 h : Nat → Nat} {P Q : List (List Nat)} {F G W : FrT} {X : List Nat} {B C β' : Ty} {Γ0 : List Ty}
def dp5o (F W : FrT) (a5 hv fn s2 r0 r1 r2 r3 E0 p wB ob k y cd m : Nat) : Nat := DTo a5 fn s2 r0 r1 r2 r3 (Vbw F W y cd) (Zbw F W y) (fun b => H5 (X7w F W y cd m) (ebw F W hv y cd m E0 p wB ob) (e2w F W hv y cd m 0) (e2w F W hv y cd m k) (Zbw F W y b)) m m 0 0
/-- as gen_fin5, the body no scheme -/
theorem gen_fin7o (hn : NC t0 n1 s2 h) (hm : ∀ y y', y ≤ y' → h y ≤ h y') (hh : ∀ y δ, h (y + δ) ≤ h y + δ) (T : TBs 58 t0 fn s2 hv r0 r1 r2 r3 x0 n1 h P Q F G X) (hFm : frm F = true) (hgr : fgc F W hv = true) (hWm : fgm W = true) (hW1 : fg1s W = true) (hW : (1, 0) ∈ frg W 0) (H1 : ∀ y, h y ≤ hv + max 1 y) {f : Nat} {t S : Ty} {Δ1 : List Ty} {Δ : List (Nat × Ty × Nat)} {a5 ob cd wB Bd y E0 p k : Nat} (w : TWf f (cxs Δ1 Γ0 (tAll B C)).length (Δ.map (fun a => a.1)) t) (he : TE (cxs Δ1 Γ0 (tAll B C)) Δ) (cu : TNo f t) (hΔ1 : Δ.length ≤ 1) (hm30 : mch t ≤ 30) (hb0 : ∀ b ∈ Γ0, nsch b = true ∨ flv b ≤ ob) (hb1 : ∀ b ∈ Δ1, nsch b = true ∨ flv b ≤ ob) (hdc : dch Δ ≤ cd) (hcd : cd ≤ 56) (a55 : a5 ≤ 5) (ha5 : Δ ≠ [] → a5 = 0) (y01 : x0 ≤ y) (hw : ∀ j, j < (cxs Δ1 Γ0 β').length → vw (onz t0 n1 s2 h (cxs Δ1 Γ0 β')) j ≤ y) (go : ∀ E Z, AQh t0 n1 s2 h E Z f t [] (onz t0 n1 s2 h (cxs Δ1 Γ0 β')) → HEk t0 n1 s2 h E (cxs Δ1 Γ0 (tAll B C)) (onz t0 n1 s2 h (cxs Δ1 Γ0 β')) → GOk t0 n1 s2 h E f t [] (onz t0 n1 s2 h (cxs Δ1 Γ0 β')) (cxs Δ1 Γ0 (tAll B C)) Δ) (vZ : ∀ z, nz t0 n1 s2 h (hzx h z (nz t0 n1 s2 h (onz t0 n1 s2 h Γ0) B) :: onz t0 n1 s2 h Γ0) C ≤ E0 + p * max z wB) (hwB : h (nz t0 n1 s2 h (onz t0 n1 s2 h Γ0) B) ≤ wB) (wBy : wB ≤ y) (hC : hd C ≠ 2 ∧ hd C < 16) (hk : tch C ≤ k) (hk2 : k ≤ 50) (R1 : dp5o F W a5 hv fn s2 r0 r1 r2 r3 E0 p wB ob k y cd (mch t) ≤ Bd) (hS : tyF f t (cxs Δ1 Γ0 (tAll B C)) Δ = .inr S) : nz t0 n1 s2 h (onz t0 n1 s2 h (cxs Δ1 Γ0 β')) S ≤ Bd := by
  obtain ⟨oc0, oA⟩ := okc_low Δ1 he.1
  have oC := (ok_all.mp oA).2
  have l0 := onz_len t0 n1 s2 h Γ0
  have dhk := fun k => dh_oko (a5 := a5) (ob := ob) (cd := cd) (wB := wB) (y := y) (E0 := E0) (p := p) (k := k) (mt := mch t) hn hm T hFm hgr hWm hW1 hW H1 hm30 a55 y01
  have les : ∀ z, e2w F W hv y cd (mch t) 0 z ≤ e2w F W hv y cd (mch t) k z := by
    intro z
    have q5 := Zx_ms hFm (x := max z y) (s := 0 + 2) (s' := k + 2) (by omega) (by omega)
    unfold e2w
    omega
  have dh := DHy5o ebw_mono e2w_mono e2w_mono les (dhk 0) (dhk k)
  have y7 : y ≤ X7w F W y cd (mch t) := Nat.le_max_left _ _
  have gy0 : y ≤ gyw W y 0 := by
    have a0 := Zx_mem (x := y) (frg W 0) (1, 0) hW
    simp only at a0
    show y ≤ (frg W 0).foldr (fun u a => max (u.2 + u.1 * y) a) 0
    omega
  have hω2 : ∀ j, j < (onz t0 n1 s2 h (cxs Δ1 Γ0 β')).length → vw (onz t0 n1 s2 h (cxs Δ1 Γ0 β')) j ≤ y := fun j hj => hw j (by rw [onz_len] at hj; exact hj)
  have l1 : (onz t0 n1 s2 h (cxs Δ1 Γ0 β')).length = (cxs Δ1 Γ0 (tAll B C)).length := by rw [onz_len, cxs_ll β' (tAll B C)]
  have hA2 : HS2 t0 n1 s2 h (ebw F W hv y cd (mch t) E0 p wB ob) (e2w F W hv y cd (mch t) k) (onz t0 n1 s2 h Γ0) (tAll B C) := by
    refine ⟨B, C, rfl, fun z => ?_, fun z => ?_⟩
    · refine Nat.le_trans (vZ z) ?_
      unfold ebw
      exact le_mx (Or.inl (Nat.le_max_left _ _))
    · have q4 := Zx_leh T (x := max z y) (z := z) (ω := hzx h z (nz t0 n1 s2 h (onz t0 n1 s2 h Γ0) B) :: onz t0 n1 s2 h Γ0) (A := C) (by rw [List.length_cons, l0]; exact oC) (by omega) (by omega) (by omega) (fun j hj => by
        rw [vw_cons]
        by_cases e : j = (onz t0 n1 s2 h Γ0).length
        · rw [if_pos e]
          unfold hzx
          omega
        · rw [if_neg e]
          rw [List.length_cons] at hj
          have q := onz_low (t0 := t0) (n1 := n1) (s2 := s2) (h := h) (Γ0 := Γ0) (β := β') Δ1 (j := j) (by rw [l0] at hj e; omega)
          have q2 := hw j (by rw [cxs_len]; rw [l0] at hj e; omega)
          rw [q] at q2
          omega)
      have q5 := Zx_ms hFm (x := max z y) (s := tch C + 2) (s' := k + 2) (by omega) (by omega)
      unfold e2w
      exact le_mx (Or.inl (Nat.le_trans q4 q5))
  have aq := DQa dh f t [] (onz t0 n1 s2 h (cxs Δ1 Γ0 β')) (cxs Δ1 Γ0 (tAll B C)) _ 0 0 w l1 (fun j hj => Nat.le_trans (hω2 j hj) gy0) (by omega) (fun e => absurd rfl e)
  have hkb : HEk t0 n1 s2 h (E2 (X7w F W y cd (mch t)) (ebw F W hv y cd (mch t) E0 p wB ob) (e2w F W hv y cd (mch t) k)) (cxs Δ1 Γ0 (tAll B C)) (onz t0 n1 s2 h (cxs Δ1 Γ0 β')) := BE2.he ebw_mono e2w_mono hm hh he.1 l1 (BE2_cx (β' := β') (y := y) hn y7 hA2 (fun b hb => (hb0 b hb).imp id (fun c z => by have := Nat.mul_le_mul_right z c; unfold ebw; omega)) Δ1 hw (fun b hb => (hb1 b hb).imp id (fun c z => by have := Nat.mul_le_mul_right z c; unfold ebw; omega)))
  have hk1 : HEk t0 n1 s2 h (E5 (X7w F W y cd (mch t)) (ebw F W hv y cd (mch t) E0 p wB ob) (e2w F W hv y cd (mch t) 0) (e2w F W hv y cd (mch t) k)) (cxs Δ1 Γ0 (tAll B C)) (onz t0 n1 s2 h (cxs Δ1 Γ0 β')) := HEk5 les he.1 l1 hkb (HEs_cx hn hm hh ebw_mono e2w_mono y7 hC (fun z => by
    refine Nat.le_trans (vZ z) ?_
    unfold ebw
    exact le_mx (Or.inl (Nat.le_max_left _ _))) (fun b hb => (hb0 b hb).imp id (fun c z => by have := Nat.mul_le_mul_right z c; unfold ebw; omega)) Δ1 he.1 hw (fun b hb => (hb1 b hb).imp id (fun c z => by have := Nat.mul_le_mul_right z c; unfold ebw; omega)))
  have dvk : ∀ k, DVn t0 n1 s2 h (E2 (X7w F W y cd (mch t)) (ebw F W hv y cd (mch t) E0 p wB ob) (e2w F W hv y cd (mch t) k)) (Vbw F W y cd 0) (onz t0 n1 s2 h (cxs Δ1 Γ0 β')) Δ := by
    intro k a ha
    obtain ⟨a1, a2, a3⟩ := he.2.2 a ha
    have ad := dch_mem ha
    have al : a.2.2 ≤ (onz t0 n1 s2 h (cxs Δ1 Γ0 β')).length := by rw [l1]; exact a1
    have ll : ((onz t0 n1 s2 h (cxs Δ1 Γ0 β')).drop ((onz t0 n1 s2 h (cxs Δ1 Γ0 β')).length - a.2.2)).length = a.2.2 := by rw [List.length_drop]; omega
    have vv : ∀ j, j < ((onz t0 n1 s2 h (cxs Δ1 Γ0 β')).drop ((onz t0 n1 s2 h (cxs Δ1 Γ0 β')).length - a.2.2)).length → vw ((onz t0 n1 s2 h (cxs Δ1 Γ0 β')).drop ((onz t0 n1 s2 h (cxs Δ1 Γ0 β')).length - a.2.2)) j ≤ y := by
      intro j hj
      have q := vw_app_lo ((onz t0 n1 s2 h (cxs Δ1 Γ0 β')).take ((onz t0 n1 s2 h (cxs Δ1 Γ0 β')).length - a.2.2)) _ j hj
      rw [List.take_append_drop] at q
      rw [← q]
      exact hω2 j (by rw [ll] at hj; omega)
    refine ⟨(onz t0 n1 s2 h (cxs Δ1 Γ0 β')).take ((onz t0 n1 s2 h (cxs Δ1 Γ0 β')).length - a.2.2), (onz t0 n1 s2 h (cxs Δ1 Γ0 β')).drop ((onz t0 n1 s2 h (cxs Δ1 Γ0 β')).length - a.2.2), (List.take_append_drop _ _).symm, ll, by rw [ll]; exact a2, ?_, ?_⟩
    · have q1 := Zx_le T (x := y) (A := a.2.1) (by rw [ll]; exact a2) (by omega) y01 vv
      have q2 := Zx_ms hFm (x := y) (s := tch a.2.1 + 2) (s' := cd - 2) (by omega) (by omega)
      exact Nat.le_trans q1 (Nat.le_trans q2 (Nat.le_max_left _ _))
    · have c1 : Zx F y (cd - 2 - 3) ≤ X7w F W y cd (mch t) := by
        unfold X7w
        exact le_mx (Or.inr (Nat.le_max_left _ _))
      have c2 : ∀ z, cpw F hv y (cd - 2) z ≤ cpo F W hv y cd (mch t) z := fun z => Nat.le_max_left _ _
      exact txt_cp hm T hFm H1 ebw_mono e2w_mono y01 (show cd - 2 ≤ 56 by omega) c1 (fun z => ⟨by unfold ebw; exact le_mx (Or.inr (c2 z)), by unfold e2w; exact le_mx (Or.inr (c2 z))⟩) (by rw [ll]; exact a2) (by omega) vv
  have dv := DVn5 les (dvk 0) (dvk k)
  have q1 := tyF_vz hm f t (cxs Δ1 Γ0 (tAll B C)) Δ S [] (onz t0 n1 s2 h (cxs Δ1 Γ0 β')) w he hk1 (go _ _ aq hk1) hS
  rw [vz_no (tyF_ok f t _ Δ S w he hS).1] at q1
  have q2 := (DQo_all DTo_ok.2 dh f t [] (onz t0 n1 s2 h (cxs Δ1 Γ0 β')) (cxs Δ1 Γ0 (tAll B C)) Δ 0 0 w l1 dv (fun j hj => Nat.le_trans (hω2 j hj) gy0) (by omega) (fun e => by have := ha5 e; omega) (fun e => absurd rfl e) ⟨cu, fun _ => hΔ1⟩).1 rfl
  exact Nat.le_trans q1 (Nat.le_trans q2 R1)
end PmZko
section PmNko
variable {t0 fn s2 hv r0 r1 r2 r3 x0 : Nat} {n1 h : Nat → Nat} {P Q : List (List Nat)} {F G W : FrT} {X : List Nat} {B G9 D β' : Ty} {Γ0 : List Ty}
def dp9o (F W : FrT) (a5 hv fn s2 r0 r1 r2 r3 E0 p wB ob kd k y cd m : Nat) : Nat := DTo a5 fn s2 r0 r1 r2 r3 (Vbw F W y cd) (Zbw F W y) (fun b => H5 (X7w F W y cd m) (ebw F W hv y cd m E0 p wB ob) (e2w F W hv y cd m kd) (e2w F W hv y cd m k) (Zbw F W y b)) m m 0 0
/-- as gen_fin5, the body a scheme with any bound -/
theorem gen_fin9o (hn : NC t0 n1 s2 h) (hm : ∀ y y', y ≤ y' → h y ≤ h y') (hh : ∀ y δ, h (y + δ) ≤ h y + δ) (T : TBs 58 t0 fn s2 hv r0 r1 r2 r3 x0 n1 h P Q F G X) (hFm : frm F = true) (hgr : fgc F W hv = true) (hWm : fgm W = true) (hW1 : fg1s W = true) (hW : (1, 0) ∈ frg W 0) (H1 : ∀ y, h y ≤ hv + max 1 y) {f : Nat} {t S : Ty} {Δ1 : List Ty} {Δ : List (Nat × Ty × Nat)} {a5 ob cd wB Bd y E0 p kd k : Nat} (w : TWf f (cxs Δ1 Γ0 (tAll B (tAll G9 D))).length (Δ.map (fun a => a.1)) t) (he : TE (cxs Δ1 Γ0 (tAll B (tAll G9 D))) Δ) (cu : TNo f t) (hΔ1 : Δ.length ≤ 1) (hm30 : mch t ≤ 30) (hb0 : ∀ b ∈ Γ0, nsch b = true ∨ flv b ≤ ob) (hb1 : ∀ b ∈ Δ1, nsch b = true ∨ flv b ≤ ob) (hdc : dch Δ ≤ cd) (hcd : cd ≤ 56) (a55 : a5 ≤ 5) (ha5 : Δ ≠ [] → a5 = 0) (y01 : x0 ≤ y) (hw : ∀ j, j < (cxs Δ1 Γ0 β').length → vw (onz t0 n1 s2 h (cxs Δ1 Γ0 β')) j ≤ y) (go : ∀ E Z, AQh t0 n1 s2 h E Z f t [] (onz t0 n1 s2 h (cxs Δ1 Γ0 β')) → HEk t0 n1 s2 h E (cxs Δ1 Γ0 (tAll B (tAll G9 D))) (onz t0 n1 s2 h (cxs Δ1 Γ0 β')) → GOk t0 n1 s2 h E f t [] (onz t0 n1 s2 h (cxs Δ1 Γ0 β')) (cxs Δ1 Γ0 (tAll B (tAll G9 D))) Δ) (vZ : ∀ z, nz t0 n1 s2 h (hzx h z (nz t0 n1 s2 h (onz t0 n1 s2 h Γ0) B) :: onz t0 n1 s2 h Γ0) (tAll G9 D) ≤ E0 + p * max z wB) (hwB : h (nz t0 n1 s2 h (onz t0 n1 s2 h Γ0) B) ≤ wB) (wBy : wB ≤ y) (hkd : tch D ≤ kd) (hkk : kd ≤ k) (hk : tch (tAll G9 D) ≤ k) (hk2 : k ≤ 50) (R1 : dp9o F W a5 hv fn s2 r0 r1 r2 r3 E0 p wB ob kd k y cd (mch t) ≤ Bd) (hS : tyF f t (cxs Δ1 Γ0 (tAll B (tAll G9 D))) Δ = .inr S) : nz t0 n1 s2 h (onz t0 n1 s2 h (cxs Δ1 Γ0 β')) S ≤ Bd := by
  obtain ⟨oc0, oA⟩ := okc_low Δ1 he.1
  have oC := (ok_all.mp oA).2
  have l0 := onz_len t0 n1 s2 h Γ0
  have dhk := fun k => dh_oko (a5 := a5) (ob := ob) (cd := cd) (wB := wB) (y := y) (E0 := E0) (p := p) (k := k) (mt := mch t) hn hm T hFm hgr hWm hW1 hW H1 hm30 a55 y01
  have les : ∀ z, e2w F W hv y cd (mch t) kd z ≤ e2w F W hv y cd (mch t) k z := by
    intro z
    have q5 := Zx_ms hFm (x := max z y) (s := kd + 2) (s' := k + 2) (by omega) (by omega)
    unfold e2w
    omega
  have dh := DHy5o ebw_mono e2w_mono e2w_mono les (dhk kd) (dhk k)
  have y7 : y ≤ X7w F W y cd (mch t) := Nat.le_max_left _ _
  have gy0 : y ≤ gyw W y 0 := by
    have a0 := Zx_mem (x := y) (frg W 0) (1, 0) hW
    simp only at a0
    show y ≤ (frg W 0).foldr (fun u a => max (u.2 + u.1 * y) a) 0
    omega
  have hω2 : ∀ j, j < (onz t0 n1 s2 h (cxs Δ1 Γ0 β')).length → vw (onz t0 n1 s2 h (cxs Δ1 Γ0 β')) j ≤ y := fun j hj => hw j (by rw [onz_len] at hj; exact hj)
  have l1 : (onz t0 n1 s2 h (cxs Δ1 Γ0 β')).length = (cxs Δ1 Γ0 (tAll B (tAll G9 D))).length := by rw [onz_len, cxs_ll β' (tAll B (tAll G9 D))]
  have hA2 : HS2 t0 n1 s2 h (ebw F W hv y cd (mch t) E0 p wB ob) (e2w F W hv y cd (mch t) k) (onz t0 n1 s2 h Γ0) (tAll B (tAll G9 D)) := by
    refine ⟨B, tAll G9 D, rfl, fun z => ?_, fun z => ?_⟩
    · refine Nat.le_trans (vZ z) ?_
      unfold ebw
      exact le_mx (Or.inl (Nat.le_max_left _ _))
    · have q4 := Zx_leh T (x := max z y) (z := z) (ω := hzx h z (nz t0 n1 s2 h (onz t0 n1 s2 h Γ0) B) :: onz t0 n1 s2 h Γ0) (A := tAll G9 D) (by rw [List.length_cons, l0]; exact oC) (by omega) (by omega) (by omega) (fun j hj => by
        rw [vw_cons]
        by_cases e : j = (onz t0 n1 s2 h Γ0).length
        · rw [if_pos e]
          unfold hzx
          omega
        · rw [if_neg e]
          rw [List.length_cons] at hj
          have q := onz_low (t0 := t0) (n1 := n1) (s2 := s2) (h := h) (Γ0 := Γ0) (β := β') Δ1 (j := j) (by rw [l0] at hj e; omega)
          have q2 := hw j (by rw [cxs_len]; rw [l0] at hj e; omega)
          rw [q] at q2
          omega)
      have q5 := Zx_ms hFm (x := max z y) (s := tch (tAll G9 D) + 2) (s' := k + 2) (by omega) (by omega)
      unfold e2w
      exact le_mx (Or.inl (Nat.le_trans q4 q5))
  have oD : ok (Γ0.length + 1 + 1) D = true := (ok_all.mp oC).2
  have hZ2 : ∀ z w, vz t0 n1 s2 h (E2 (X7w F W y cd (mch t)) (ebw F W hv y cd (mch t) E0 p wB ob) (e2w F W hv y cd (mch t) kd)) (tAll G9 D) [some w] (hzx h z (nz t0 n1 s2 h (onz t0 n1 s2 h Γ0) B) :: onz t0 n1 s2 h Γ0) ≤ max (ebw F W hv y cd (mch t) E0 p wB ob (max z w)) (e2w F W hv y cd (mch t) kd (max z w)) := by
    intro z w'
    have oD' : ok (hzx h w' (nz t0 n1 s2 h (hzx h z (nz t0 n1 s2 h (onz t0 n1 s2 h Γ0) B) :: onz t0 n1 s2 h Γ0) G9) :: hzx h z (nz t0 n1 s2 h (onz t0 n1 s2 h Γ0) B) :: onz t0 n1 s2 h Γ0).length D = true := by rw [List.length_cons, List.length_cons, l0]; exact oD
    rw [vz_allS, vz_no oD']
    by_cases c : w' ≤ h (nz t0 n1 s2 h (hzx h z (nz t0 n1 s2 h (onz t0 n1 s2 h Γ0) B) :: onz t0 n1 s2 h Γ0) G9)
    · have e1 : hzx h w' (nz t0 n1 s2 h (hzx h z (nz t0 n1 s2 h (onz t0 n1 s2 h Γ0) B) :: onz t0 n1 s2 h Γ0) G9) = h (nz t0 n1 s2 h (hzx h z (nz t0 n1 s2 h (onz t0 n1 s2 h Γ0) B) :: onz t0 n1 s2 h Γ0) G9) := Nat.max_eq_right c
      rw [e1]
      have q := vZ z
      rw [nz_all] at q
      have q2 : E0 + p * max z wB ≤ ebw F W hv y cd (mch t) E0 p wB ob z := by
        unfold ebw
        exact le_mx (Or.inl (Nat.le_max_left _ _))
      have q3 : ebw F W hv y cd (mch t) E0 p wB ob z ≤ ebw F W hv y cd (mch t) E0 p wB ob (max z w') := ebw_mono _ _ (Nat.le_max_left _ _)
      omega
    · have q4 := Zx_le T (x := max (max z w') y) (ω := hzx h w' (nz t0 n1 s2 h (hzx h z (nz t0 n1 s2 h (onz t0 n1 s2 h Γ0) B) :: onz t0 n1 s2 h Γ0) G9) :: hzx h z (nz t0 n1 s2 h (onz t0 n1 s2 h Γ0) B) :: onz t0 n1 s2 h Γ0) (A := D) oD' (by omega) (by omega) (fun j hj => by
        rw [vw_cons]
        by_cases e' : j = (hzx h z (nz t0 n1 s2 h (onz t0 n1 s2 h Γ0) B) :: onz t0 n1 s2 h Γ0).length
        · rw [if_pos e']
          exact Nat.max_le.mpr ⟨by omega, by omega⟩
        rw [if_neg e', vw_cons]
        by_cases e : j = (onz t0 n1 s2 h Γ0).length
        · rw [if_pos e]
          unfold hzx
          omega
        · rw [if_neg e]
          rw [List.length_cons, List.length_cons] at hj
          rw [List.length_cons] at e'
          have q := onz_low (t0 := t0) (n1 := n1) (s2 := s2) (h := h) (Γ0 := Γ0) (β := β') Δ1 (j := j) (by rw [l0] at hj e e'; omega)
          have q2 := hw j (by rw [cxs_len]; rw [l0] at hj e e'; omega)
          rw [q] at q2
          omega)
      have q5 := Zx_ms hFm (x := max (max z w') y) (s := tch D + 2) (s' := kd + 2) (by omega) (by omega)
      have q6 : Zx F (max (max z w') y) (kd + 2) ≤ e2w F W hv y cd (mch t) kd (max z w') := by
        unfold e2w
        exact Nat.le_max_left _ _
      omega
  have aq := DQa dh f t [] (onz t0 n1 s2 h (cxs Δ1 Γ0 β')) (cxs Δ1 Γ0 (tAll B (tAll G9 D))) _ 0 0 w l1 (fun j hj => Nat.le_trans (hω2 j hj) gy0) (by omega) (fun e => absurd rfl e)
  have hkb : HEk t0 n1 s2 h (E2 (X7w F W y cd (mch t)) (ebw F W hv y cd (mch t) E0 p wB ob) (e2w F W hv y cd (mch t) k)) (cxs Δ1 Γ0 (tAll B (tAll G9 D))) (onz t0 n1 s2 h (cxs Δ1 Γ0 β')) := BE2.he ebw_mono e2w_mono hm hh he.1 l1 (BE2_cx (β' := β') (y := y) hn y7 hA2 (fun b hb => (hb0 b hb).imp id (fun c z => by have := Nat.mul_le_mul_right z c; unfold ebw; omega)) Δ1 hw (fun b hb => (hb1 b hb).imp id (fun c z => by have := Nat.mul_le_mul_right z c; unfold ebw; omega)))
  have hk1 : HEk t0 n1 s2 h (E5 (X7w F W y cd (mch t)) (ebw F W hv y cd (mch t) E0 p wB ob) (e2w F W hv y cd (mch t) kd) (e2w F W hv y cd (mch t) k)) (cxs Δ1 Γ0 (tAll B (tAll G9 D))) (onz t0 n1 s2 h (cxs Δ1 Γ0 β')) := HEk5 les he.1 l1 hkb (HEs_c9 hn hm hh ebw_mono e2w_mono y7 hZ2 (fun z => by
    refine Nat.le_trans (vZ z) ?_
    unfold ebw
    exact le_mx (Or.inl (Nat.le_max_left _ _))) (fun b hb => (hb0 b hb).imp id (fun c z => by have := Nat.mul_le_mul_right z c; unfold ebw; omega)) Δ1 he.1 hw (fun b hb => (hb1 b hb).imp id (fun c z => by have := Nat.mul_le_mul_right z c; unfold ebw; omega)))
  have dvk : ∀ k, DVn t0 n1 s2 h (E2 (X7w F W y cd (mch t)) (ebw F W hv y cd (mch t) E0 p wB ob) (e2w F W hv y cd (mch t) k)) (Vbw F W y cd 0) (onz t0 n1 s2 h (cxs Δ1 Γ0 β')) Δ := by
    intro k a ha
    obtain ⟨a1, a2, a3⟩ := he.2.2 a ha
    have ad := dch_mem ha
    have al : a.2.2 ≤ (onz t0 n1 s2 h (cxs Δ1 Γ0 β')).length := by rw [l1]; exact a1
    have ll : ((onz t0 n1 s2 h (cxs Δ1 Γ0 β')).drop ((onz t0 n1 s2 h (cxs Δ1 Γ0 β')).length - a.2.2)).length = a.2.2 := by rw [List.length_drop]; omega
    have vv : ∀ j, j < ((onz t0 n1 s2 h (cxs Δ1 Γ0 β')).drop ((onz t0 n1 s2 h (cxs Δ1 Γ0 β')).length - a.2.2)).length → vw ((onz t0 n1 s2 h (cxs Δ1 Γ0 β')).drop ((onz t0 n1 s2 h (cxs Δ1 Γ0 β')).length - a.2.2)) j ≤ y := by
      intro j hj
      have q := vw_app_lo ((onz t0 n1 s2 h (cxs Δ1 Γ0 β')).take ((onz t0 n1 s2 h (cxs Δ1 Γ0 β')).length - a.2.2)) _ j hj
      rw [List.take_append_drop] at q
      rw [← q]
      exact hω2 j (by rw [ll] at hj; omega)
    refine ⟨(onz t0 n1 s2 h (cxs Δ1 Γ0 β')).take ((onz t0 n1 s2 h (cxs Δ1 Γ0 β')).length - a.2.2), (onz t0 n1 s2 h (cxs Δ1 Γ0 β')).drop ((onz t0 n1 s2 h (cxs Δ1 Γ0 β')).length - a.2.2), (List.take_append_drop _ _).symm, ll, by rw [ll]; exact a2, ?_, ?_⟩
    · have q1 := Zx_le T (x := y) (A := a.2.1) (by rw [ll]; exact a2) (by omega) y01 vv
      have q2 := Zx_ms hFm (x := y) (s := tch a.2.1 + 2) (s' := cd - 2) (by omega) (by omega)
      exact Nat.le_trans q1 (Nat.le_trans q2 (Nat.le_max_left _ _))
    · have c1 : Zx F y (cd - 2 - 3) ≤ X7w F W y cd (mch t) := by
        unfold X7w
        exact le_mx (Or.inr (Nat.le_max_left _ _))
      have c2 : ∀ z, cpw F hv y (cd - 2) z ≤ cpo F W hv y cd (mch t) z := fun z => Nat.le_max_left _ _
      exact txt_cp hm T hFm H1 ebw_mono e2w_mono y01 (show cd - 2 ≤ 56 by omega) c1 (fun z => ⟨by unfold ebw; exact le_mx (Or.inr (c2 z)), by unfold e2w; exact le_mx (Or.inr (c2 z))⟩) (by rw [ll]; exact a2) (by omega) vv
  have dv := DVn5 les (dvk kd) (dvk k)
  have q1 := tyF_vz hm f t (cxs Δ1 Γ0 (tAll B (tAll G9 D))) Δ S [] (onz t0 n1 s2 h (cxs Δ1 Γ0 β')) w he hk1 (go _ _ aq hk1) hS
  rw [vz_no (tyF_ok f t _ Δ S w he hS).1] at q1
  have q2 := (DQo_all DTo_ok.2 dh f t [] (onz t0 n1 s2 h (cxs Δ1 Γ0 β')) (cxs Δ1 Γ0 (tAll B (tAll G9 D))) Δ 0 0 w l1 dv (fun j hj => Nat.le_trans (hω2 j hj) gy0) (by omega) (fun e => by have := ha5 e; omega) (fun e => absurd rfl e) ⟨cu, fun _ => hΔ1⟩).1 rfl
  exact Nat.le_trans q1 (Nat.le_trans q2 R1)
end PmNko
def TpR7o (e : Bool) (wB cd m : Nat) (s : T6) : Prop := (s.2.2.2.2.2 ≤ 50 ∧ wB ≤ s.1) ∧ (e = false → 5 ≤ cd → dp5o fr1 fg1 0 1 2 3 2 2 2 2 s.2.2.1 s.2.2.2.1 wB s.2.2.2.2.1 s.2.2.2.2.2 s.1 cd m ≤ 887) ∧ (e = true → dp5o fr1 fg1 5 1 2 3 2 2 2 2 s.2.2.1 s.2.2.2.1 wB s.2.2.2.2.1 s.2.2.2.2.2 s.1 0 m ≤ 887)
def TpG7o (e : Bool) (wB cd m : Nat) (s : T6) : Prop := (s.2.2.2.2.2 ≤ 50 ∧ wB ≤ s.1) ∧ (e = false → 5 ≤ cd → dp5o frq fgq 0 0 1 1 1 3 2 1 s.2.2.1 s.2.2.2.1 wB s.2.2.2.2.1 s.2.2.2.2.2 s.1 cd m ≤ 597) ∧ (e = true → dp5o frq fgq 5 0 1 1 1 3 2 1 s.2.2.1 s.2.2.2.1 wB s.2.2.2.2.1 s.2.2.2.2.2 s.1 0 m ≤ 597)
section PmZmo
variable {f : Nat} {t B C : Ty} {Γ0 Δ1 : List Ty} {Δ : List (Nat × Ty × Nat)} {e : Bool} {cd ob wR wG yR yG : Nat} {VR VG WR WG : List (Nat × Nat)}
theorem zone_g7o (w : TWf f (cxs Δ1 Γ0 (tAll B C)).length (Δ.map (fun a => a.1)) t) (he : TE (cxs Δ1 Γ0 (tAll B C)) Δ) (hΔ : (e = true ∧ Δ = []) ∨ (e = false ∧ Δ ≠ [])) (cu : TNo f t) (hΔ1 : Δ.length ≤ 1) (hC : hd C ≠ 2 ∧ hd C < 16) (ch : CHo f t []) (m30 : mch t ≤ 30) (hdd : dch Δ ≤ cd) (hcd : cd ≤ 56) (hb0 : ∀ b ∈ Γ0, nsch b = true ∨ flv b ≤ ob) (hb1 : ∀ b ∈ Δ1, nsch b = true ∨ flv b ≤ ob) (wbR : ∀ b, vlr b 1 (nz 0 (fun _ => 1 + 1) (2 + 1) (vlr b 1) (onz 0 (fun _ => 1 + 1) (2 + 1) (vlr b 1) Γ0) B) ≤ wR) (wbG : nz 1 ngc 1 (fun x => x) (onz 1 ngc 1 (fun x => x) Γ0) B ≤ wG)
  (hVR : ∃ v ∈ VR, xt (Γ0.length + 1) C ≤ v.1 ∧ xa 0 (fun _ => 1 + 1) 3 1 (Γ0.length + 1) C ≤ v.2) (hVG : ∃ v ∈ VG, xt (Γ0.length + 1) C ≤ v.1 ∧ xa 1 ngc 1 0 (Γ0.length + 1) C ≤ v.2)
  (cR : ∀ (b : Bool) (v : Nat × Nat), xt (Γ0.length + 1) C ≤ v.1 → xa 0 (fun _ => 1 + 1) 3 1 (Γ0.length + 1) C ≤ v.2 → ∃ p, p ≤ v.1 ∧ ∃ w ∈ WR, 1 ≤ w.2 + w.1 * max yR (1 + (3 + (v.2 + (v.1 - p) * yR + p * wR))) ∧ (∀ j, j < (cxs Δ1 Γ0 (tAll B C)).length → vw (onz 0 (fun _ => 1 + 1) (2 + 1) (vlr b 1) (cxs Δ1 Γ0 (tAll B C))) j ≤ w.2 + w.1 * max yR (1 + (3 + (v.2 + (v.1 - p) * yR + p * wR)))) ∧ ∀ z, nz 0 (fun _ => 1 + 1) (2 + 1) (vlr b 1) (hzx (vlr b 1) z (nz 0 (fun _ => 1 + 1) (2 + 1) (vlr b 1) (onz 0 (fun _ => 1 + 1) (2 + 1) (vlr b 1) Γ0) B) :: onz 0 (fun _ => 1 + 1) (2 + 1) (vlr b 1) Γ0) C ≤ v.2 + (v.1 - p) * yR + p * max z wR)
  (cG : ∀ (v : Nat × Nat), xt (Γ0.length + 1) C ≤ v.1 → xa 1 ngc 1 0 (Γ0.length + 1) C ≤ v.2 → ∃ p, p ≤ v.1 ∧ ∃ w ∈ WG, 1 ≤ w.2 + w.1 * max yG (0 + (1 + (v.2 + (v.1 - p) * yG + p * wG))) ∧ (∀ j, j < (cxs Δ1 Γ0 (tAll B C)).length → vw (onz 1 ngc 1 (fun x => x) (cxs Δ1 Γ0 (tAll B C))) j ≤ w.2 + w.1 * max yG (0 + (1 + (v.2 + (v.1 - p) * yG + p * wG)))) ∧ ∀ z, nz 1 ngc 1 (fun x => x) (hzx (fun x => x) z (nz 1 ngc 1 (fun x => x) (onz 1 ngc 1 (fun x => x) Γ0) B) :: onz 1 ngc 1 (fun x => x) Γ0) C ≤ v.2 + (v.1 - p) * yG + p * max z wG)
  (hTR : ∀ v ∈ VR, ∀ p, p ≤ v.1 → ∀ w ∈ WR, ∃ s, TpD 1 3 wR yR ob (tch C) p v w s ∧ TpR7o e wR cd (mch t) s)
  (hTG : ∀ v ∈ VG, ∀ p, p ≤ v.1 → ∀ w ∈ WG, ∃ s, TpD 0 1 wG yG ob (tch C) p v w s ∧ TpG7o e wG cd (mch t) s) : NtV (cxs Δ1 Γ0 (tAll B C)) Δ f t 887 597 := by
  have d5 : Δ ≠ [] → 5 ≤ cd := fun e => Nat.le_trans (dch_five he e) hdd
  have hch : CHo f t (([] : Stk).map Option.isSome) := ch
  refine fun S hS => ⟨fun b => ?_, ?_⟩
  · obtain ⟨v, hv, x1, x2⟩ := hVR
    obtain ⟨p, hp, ew, he', g1, g2, g3⟩ := cR b v x1 x2
    obtain ⟨s, ⟨k1, k2, k3, k4, k5⟩, ⟨k50, wy⟩, R0, R5⟩ := hTR v hv p hp ew he'
    have hb0' : ∀ b ∈ Γ0, nsch b = true ∨ flv b ≤ s.2.2.2.2.1 := fun b hb => (hb0 b hb).imp id (fun h => Nat.le_trans h k4)
    have hb1' : ∀ b ∈ Δ1, nsch b = true ∨ flv b ≤ s.2.2.2.2.1 := fun b hb => (hb1 b hb).imp id (fun h => Nat.le_trans h k4)
    rcases hΔ with ⟨ee, cΔ⟩ | ⟨ee, cΔ⟩
    · exact gen_fin7o (β' := tAll B C) (a5 := 5) (cd := 0) (wB := wR) (E0 := s.2.2.1) (p := s.2.2.2.1) (ob := s.2.2.2.2.1) (k := s.2.2.2.2.2) (y := s.1) (NC_rows b 1) (vlr_mono b 1) (vlr_lip b 1) (tbs1 b) fr1_m fg1_ok fg1_m fg1s_1 (by decide) (vlr_one b) w he cu hΔ1 m30 hb0' hb1' (by rw [cΔ]; exact Nat.le_refl _) (Nat.zero_le _) (Nat.le_refl _) (fun e => absurd cΔ e) (Nat.le_trans g1 k1) (fun j hj => Nat.le_trans (g2 j hj) k1) (fun E Z aq hE => GH_natc (E := E) (Z := Z) (NC_rows b 1) (vlr_mono b 1) f t [] _ _ Δ w he hch aq (onz_cv (NC_rows b 1) he.1) hE) (fun z => Nat.le_trans (g3 z) (Nat.add_le_add k2 (Nat.mul_le_mul_right _ k3))) (wbR b) wy hC k5 k50 (R5 ee) hS
    · exact gen_fin7o (β' := tAll B C) (a5 := 0) (cd := cd) (wB := wR) (E0 := s.2.2.1) (p := s.2.2.2.1) (ob := s.2.2.2.2.1) (k := s.2.2.2.2.2) (y := s.1) (NC_rows b 1) (vlr_mono b 1) (vlr_lip b 1) (tbs1 b) fr1_m fg1_ok fg1_m fg1s_1 (by decide) (vlr_one b) w he cu hΔ1 m30 hb0' hb1' hdd hcd (Nat.zero_le _) (fun _ => rfl) (Nat.le_trans g1 k1) (fun j hj => Nat.le_trans (g2 j hj) k1) (fun E Z aq hE => GH_natc (E := E) (Z := Z) (NC_rows b 1) (vlr_mono b 1) f t [] _ _ Δ w he hch aq (onz_cv (NC_rows b 1) he.1) hE) (fun z => Nat.le_trans (g3 z) (Nat.add_le_add k2 (Nat.mul_le_mul_right _ k3))) (wbR b) wy hC k5 k50 (R0 ee (d5 cΔ)) hS
  · obtain ⟨v, hv, x1, x2⟩ := hVG
    obtain ⟨p, hp, ew, he', g1, g2, g3⟩ := cG v x1 x2
    obtain ⟨s, ⟨k1, k2, k3, k4, k5⟩, ⟨k50, wy⟩, R0, R5⟩ := hTG v hv p hp ew he'
    have hb0' : ∀ b ∈ Γ0, nsch b = true ∨ flv b ≤ s.2.2.2.2.1 := fun b hb => (hb0 b hb).imp id (fun h => Nat.le_trans h k4)
    have hb1' : ∀ b ∈ Δ1, nsch b = true ∨ flv b ≤ s.2.2.2.2.1 := fun b hb => (hb1 b hb).imp id (fun h => Nat.le_trans h k4)
    rcases hΔ with ⟨ee, cΔ⟩ | ⟨ee, cΔ⟩
    · exact gen_fin7o (β' := tAll B C) (a5 := 5) (cd := 0) (wB := wG) (E0 := s.2.2.1) (p := s.2.2.2.1) (ob := s.2.2.2.2.1) (k := s.2.2.2.2.2) (y := s.1) NC_goals (fun y y' hy => hy) (fun y δ => Nat.le_refl _) tbsq frq_m fgq_ok fgq_m fg1s_q (by decide) (fun y => by show y ≤ 0 + max 1 y; omega) w he cu hΔ1 m30 hb0' hb1' (by rw [cΔ]; exact Nat.le_refl _) (Nat.zero_le _) (Nat.le_refl _) (fun e => absurd cΔ e) (Nat.le_trans g1 k1) (fun j hj => Nat.le_trans (g2 j hj) k1) (fun E Z aq hE => GH_natc (E := E) (Z := Z) NC_goals (fun y y' hy => hy) f t [] _ _ Δ w he hch aq (onz_cv NC_goals he.1) hE) (fun z => Nat.le_trans (g3 z) (Nat.add_le_add k2 (Nat.mul_le_mul_right _ k3))) wbG wy hC k5 k50 (R5 ee) hS
    · exact gen_fin7o (β' := tAll B C) (a5 := 0) (cd := cd) (wB := wG) (E0 := s.2.2.1) (p := s.2.2.2.1) (ob := s.2.2.2.2.1) (k := s.2.2.2.2.2) (y := s.1) NC_goals (fun y y' hy => hy) (fun y δ => Nat.le_refl _) tbsq frq_m fgq_ok fgq_m fg1s_q (by decide) (fun y => by show y ≤ 0 + max 1 y; omega) w he cu hΔ1 m30 hb0' hb1' hdd hcd (Nat.zero_le _) (fun _ => rfl) (Nat.le_trans g1 k1) (fun j hj => Nat.le_trans (g2 j hj) k1) (fun E Z aq hE => GH_natc (E := E) (Z := Z) NC_goals (fun y y' hy => hy) f t [] _ _ Δ w he hch aq (onz_cv NC_goals he.1) hE) (fun z => Nat.le_trans (g3 z) (Nat.add_le_add k2 (Nat.mul_le_mul_right _ k3))) wbG wy hC k5 k50 (R0 ee (d5 cΔ)) hS
end PmZmo
def TpR9o (e : Bool) (wB cd m : Nat) (s : T6) : Prop := ((s.2.2.2.2.2 ≤ 50 ∧ s.2.1 ≤ s.2.2.2.2.2) ∧ wB ≤ s.1) ∧ (e = false → 5 ≤ cd → dp9o fr1 fg1 0 1 2 3 2 2 2 2 s.2.2.1 s.2.2.2.1 wB s.2.2.2.2.1 s.2.1 s.2.2.2.2.2 s.1 cd m ≤ 887) ∧ (e = true → dp9o fr1 fg1 5 1 2 3 2 2 2 2 s.2.2.1 s.2.2.2.1 wB s.2.2.2.2.1 s.2.1 s.2.2.2.2.2 s.1 0 m ≤ 887)
def TpG9o (e : Bool) (wB cd m : Nat) (s : T6) : Prop := ((s.2.2.2.2.2 ≤ 50 ∧ s.2.1 ≤ s.2.2.2.2.2) ∧ wB ≤ s.1) ∧ (e = false → 5 ≤ cd → dp9o frq fgq 0 0 1 1 1 3 2 1 s.2.2.1 s.2.2.2.1 wB s.2.2.2.2.1 s.2.1 s.2.2.2.2.2 s.1 cd m ≤ 597) ∧ (e = true → dp9o frq fgq 5 0 1 1 1 3 2 1 s.2.2.1 s.2.2.2.1 wB s.2.2.2.2.1 s.2.1 s.2.2.2.2.2 s.1 0 m ≤ 597)
section PmNmo
variable {f : Nat} {t B G9 D : Ty} {Γ0 Δ1 : List Ty} {Δ : List (Nat × Ty × Nat)} {e : Bool} {cd ob wR wG yR yG : Nat} {VR VG WR WG : List (Nat × Nat)}
theorem zone_g9o (w : TWf f (cxs Δ1 Γ0 (tAll B (tAll G9 D))).length (Δ.map (fun a => a.1)) t) (he : TE (cxs Δ1 Γ0 (tAll B (tAll G9 D))) Δ) (hΔ : (e = true ∧ Δ = []) ∨ (e = false ∧ Δ ≠ [])) (cu : TNo f t) (hΔ1 : Δ.length ≤ 1) (ch : CHo f t []) (m30 : mch t ≤ 30) (hdd : dch Δ ≤ cd) (hcd : cd ≤ 56) (hb0 : ∀ b ∈ Γ0, nsch b = true ∨ flv b ≤ ob) (hb1 : ∀ b ∈ Δ1, nsch b = true ∨ flv b ≤ ob) (wbR : ∀ b, vlr b 1 (nz 0 (fun _ => 1 + 1) (2 + 1) (vlr b 1) (onz 0 (fun _ => 1 + 1) (2 + 1) (vlr b 1) Γ0) B) ≤ wR) (wbG : nz 1 ngc 1 (fun x => x) (onz 1 ngc 1 (fun x => x) Γ0) B ≤ wG)
  (hVR : ∃ v ∈ VR, xt (Γ0.length + 1) (tAll G9 D) ≤ v.1 ∧ xa 0 (fun _ => 1 + 1) 3 1 (Γ0.length + 1) (tAll G9 D) ≤ v.2) (hVG : ∃ v ∈ VG, xt (Γ0.length + 1) (tAll G9 D) ≤ v.1 ∧ xa 1 ngc 1 0 (Γ0.length + 1) (tAll G9 D) ≤ v.2)
  (cR : ∀ (b : Bool) (v : Nat × Nat), xt (Γ0.length + 1) (tAll G9 D) ≤ v.1 → xa 0 (fun _ => 1 + 1) 3 1 (Γ0.length + 1) (tAll G9 D) ≤ v.2 → ∃ p, p ≤ v.1 ∧ ∃ w ∈ WR, 1 ≤ w.2 + w.1 * max yR (1 + (3 + (v.2 + (v.1 - p) * yR + p * wR))) ∧ (∀ j, j < (cxs Δ1 Γ0 (tAll B (tAll G9 D))).length → vw (onz 0 (fun _ => 1 + 1) (2 + 1) (vlr b 1) (cxs Δ1 Γ0 (tAll B (tAll G9 D)))) j ≤ w.2 + w.1 * max yR (1 + (3 + (v.2 + (v.1 - p) * yR + p * wR)))) ∧ ∀ z, nz 0 (fun _ => 1 + 1) (2 + 1) (vlr b 1) (hzx (vlr b 1) z (nz 0 (fun _ => 1 + 1) (2 + 1) (vlr b 1) (onz 0 (fun _ => 1 + 1) (2 + 1) (vlr b 1) Γ0) B) :: onz 0 (fun _ => 1 + 1) (2 + 1) (vlr b 1) Γ0) (tAll G9 D) ≤ v.2 + (v.1 - p) * yR + p * max z wR)
  (cG : ∀ (v : Nat × Nat), xt (Γ0.length + 1) (tAll G9 D) ≤ v.1 → xa 1 ngc 1 0 (Γ0.length + 1) (tAll G9 D) ≤ v.2 → ∃ p, p ≤ v.1 ∧ ∃ w ∈ WG, 1 ≤ w.2 + w.1 * max yG (0 + (1 + (v.2 + (v.1 - p) * yG + p * wG))) ∧ (∀ j, j < (cxs Δ1 Γ0 (tAll B (tAll G9 D))).length → vw (onz 1 ngc 1 (fun x => x) (cxs Δ1 Γ0 (tAll B (tAll G9 D)))) j ≤ w.2 + w.1 * max yG (0 + (1 + (v.2 + (v.1 - p) * yG + p * wG)))) ∧ ∀ z, nz 1 ngc 1 (fun x => x) (hzx (fun x => x) z (nz 1 ngc 1 (fun x => x) (onz 1 ngc 1 (fun x => x) Γ0) B) :: onz 1 ngc 1 (fun x => x) Γ0) (tAll G9 D) ≤ v.2 + (v.1 - p) * yG + p * max z wG)
  (hTR : ∀ v ∈ VR, ∀ p, p ≤ v.1 → ∀ w ∈ WR, ∃ s, TpD 1 3 wR yR ob (tch (tAll G9 D)) p v w s ∧ tch D ≤ s.2.1 ∧ TpR9o e wR cd (mch t) s)
  (hTG : ∀ v ∈ VG, ∀ p, p ≤ v.1 → ∀ w ∈ WG, ∃ s, TpD 0 1 wG yG ob (tch (tAll G9 D)) p v w s ∧ tch D ≤ s.2.1 ∧ TpG9o e wG cd (mch t) s) : NtV (cxs Δ1 Γ0 (tAll B (tAll G9 D))) Δ f t 887 597 := by
  have d5 : Δ ≠ [] → 5 ≤ cd := fun e => Nat.le_trans (dch_five he e) hdd
  have hch : CHo f t (([] : Stk).map Option.isSome) := ch
  refine fun S hS => ⟨fun b => ?_, ?_⟩
  · obtain ⟨v, hv, x1, x2⟩ := hVR
    obtain ⟨p, hp, ew, he', g1, g2, g3⟩ := cR b v x1 x2
    obtain ⟨s, ⟨k1, k2, k3, k4, k5⟩, kd5, ⟨⟨k50, kk5⟩, wy⟩, R0, R5⟩ := hTR v hv p hp ew he'
    have hb0' : ∀ b ∈ Γ0, nsch b = true ∨ flv b ≤ s.2.2.2.2.1 := fun b hb => (hb0 b hb).imp id (fun h => Nat.le_trans h k4)
    have hb1' : ∀ b ∈ Δ1, nsch b = true ∨ flv b ≤ s.2.2.2.2.1 := fun b hb => (hb1 b hb).imp id (fun h => Nat.le_trans h k4)
    rcases hΔ with ⟨ee, cΔ⟩ | ⟨ee, cΔ⟩
    · exact gen_fin9o (β' := tAll B (tAll G9 D)) (a5 := 5) (cd := 0) (wB := wR) (E0 := s.2.2.1) (p := s.2.2.2.1) (ob := s.2.2.2.2.1) (kd := s.2.1) (k := s.2.2.2.2.2) (y := s.1) (NC_rows b 1) (vlr_mono b 1) (vlr_lip b 1) (tbs1 b) fr1_m fg1_ok fg1_m fg1s_1 (by decide) (vlr_one b) w he cu hΔ1 m30 hb0' hb1' (by rw [cΔ]; exact Nat.le_refl _) (Nat.zero_le _) (Nat.le_refl _) (fun e => absurd cΔ e) (Nat.le_trans g1 k1) (fun j hj => Nat.le_trans (g2 j hj) k1) (fun E Z aq hE => GH_natc (E := E) (Z := Z) (NC_rows b 1) (vlr_mono b 1) f t [] _ _ Δ w he hch aq (onz_cv (NC_rows b 1) he.1) hE) (fun z => Nat.le_trans (g3 z) (Nat.add_le_add k2 (Nat.mul_le_mul_right _ k3))) (wbR b) wy kd5 kk5 k5 k50 (R5 ee) hS
    · exact gen_fin9o (β' := tAll B (tAll G9 D)) (a5 := 0) (cd := cd) (wB := wR) (E0 := s.2.2.1) (p := s.2.2.2.1) (ob := s.2.2.2.2.1) (kd := s.2.1) (k := s.2.2.2.2.2) (y := s.1) (NC_rows b 1) (vlr_mono b 1) (vlr_lip b 1) (tbs1 b) fr1_m fg1_ok fg1_m fg1s_1 (by decide) (vlr_one b) w he cu hΔ1 m30 hb0' hb1' hdd hcd (Nat.zero_le _) (fun _ => rfl) (Nat.le_trans g1 k1) (fun j hj => Nat.le_trans (g2 j hj) k1) (fun E Z aq hE => GH_natc (E := E) (Z := Z) (NC_rows b 1) (vlr_mono b 1) f t [] _ _ Δ w he hch aq (onz_cv (NC_rows b 1) he.1) hE) (fun z => Nat.le_trans (g3 z) (Nat.add_le_add k2 (Nat.mul_le_mul_right _ k3))) (wbR b) wy kd5 kk5 k5 k50 (R0 ee (d5 cΔ)) hS
  · obtain ⟨v, hv, x1, x2⟩ := hVG
    obtain ⟨p, hp, ew, he', g1, g2, g3⟩ := cG v x1 x2
    obtain ⟨s, ⟨k1, k2, k3, k4, k5⟩, kd5, ⟨⟨k50, kk5⟩, wy⟩, R0, R5⟩ := hTG v hv p hp ew he'
    have hb0' : ∀ b ∈ Γ0, nsch b = true ∨ flv b ≤ s.2.2.2.2.1 := fun b hb => (hb0 b hb).imp id (fun h => Nat.le_trans h k4)
    have hb1' : ∀ b ∈ Δ1, nsch b = true ∨ flv b ≤ s.2.2.2.2.1 := fun b hb => (hb1 b hb).imp id (fun h => Nat.le_trans h k4)
    rcases hΔ with ⟨ee, cΔ⟩ | ⟨ee, cΔ⟩
    · exact gen_fin9o (β' := tAll B (tAll G9 D)) (a5 := 5) (cd := 0) (wB := wG) (E0 := s.2.2.1) (p := s.2.2.2.1) (ob := s.2.2.2.2.1) (kd := s.2.1) (k := s.2.2.2.2.2) (y := s.1) NC_goals (fun y y' hy => hy) (fun y δ => Nat.le_refl _) tbsq frq_m fgq_ok fgq_m fg1s_q (by decide) (fun y => by show y ≤ 0 + max 1 y; omega) w he cu hΔ1 m30 hb0' hb1' (by rw [cΔ]; exact Nat.le_refl _) (Nat.zero_le _) (Nat.le_refl _) (fun e => absurd cΔ e) (Nat.le_trans g1 k1) (fun j hj => Nat.le_trans (g2 j hj) k1) (fun E Z aq hE => GH_natc (E := E) (Z := Z) NC_goals (fun y y' hy => hy) f t [] _ _ Δ w he hch aq (onz_cv NC_goals he.1) hE) (fun z => Nat.le_trans (g3 z) (Nat.add_le_add k2 (Nat.mul_le_mul_right _ k3))) wbG wy kd5 kk5 k5 k50 (R5 ee) hS
    · exact gen_fin9o (β' := tAll B (tAll G9 D)) (a5 := 0) (cd := cd) (wB := wG) (E0 := s.2.2.1) (p := s.2.2.2.1) (ob := s.2.2.2.2.1) (kd := s.2.1) (k := s.2.2.2.2.2) (y := s.1) NC_goals (fun y y' hy => hy) (fun y δ => Nat.le_refl _) tbsq frq_m fgq_ok fgq_m fg1s_q (by decide) (fun y => by show y ≤ 0 + max 1 y; omega) w he cu hΔ1 m30 hb0' hb1' hdd hcd (Nat.zero_le _) (fun _ => rfl) (Nat.le_trans g1 k1) (fun j hj => Nat.le_trans (g2 j hj) k1) (fun E Z aq hE => GH_natc (E := E) (Z := Z) NC_goals (fun y y' hy => hy) f t [] _ _ Δ w he hch aq (onz_cv NC_goals he.1) hE) (fun z => Nat.le_trans (g3 z) (Nat.add_le_add k2 (Nat.mul_le_mul_right _ k3))) wbG wy kd5 kk5 k5 k50 (R0 ee (d5 cΔ)) hS
end PmNmo
def oF9 : List ((Nat × Nat) × (Nat × Nat × Nat) × (Nat × Nat × Nat)) := [((25, 9), (49, 45, 6), (25, 24, 6)), ((26, 8), (49, 45, 6), (28, 27, 6)), ((27, 8), (53, 49, 6), (28, 27, 6)), ((29, 6), (71, 67, 9), (37, 36, 9)), ((30, 6), (71, 67, 9), (37, 36, 9)), ((31, 6), (71, 67, 9), (39, 38, 9))]
def okF9 (a : (Nat × Nat) × (Nat × Nat × Nat) × (Nat × Nat × Nat)) : Bool :=
  ((frg (sfR 2) a.1.1).all (fun v => (List.range (v.1 + 1)).all (fun p => Nat.ble (max 1 (1 + (3 + (v.2 + (v.1 - p) * 1 + p * 3)))) a.2.1.1 && (Nat.ble (v.2 + (v.1 - p) * 1) a.2.1.2.1 && Nat.ble p a.2.1.2.2))) &&
  (frg (sfG 2) a.1.1).all (fun v => (List.range (v.1 + 1)).all (fun p => Nat.ble (max 1 (0 + (1 + (v.2 + (v.1 - p) * 1 + p * 1)))) a.2.2.1 && (Nat.ble (v.2 + (v.1 - p) * 1) a.2.2.2.1 && Nat.ble p a.2.2.2.2)))) &&
  (Nat.ble 3 a.2.1.1 && (Nat.ble 1 a.2.2.1 && ((Nat.ble (dp5o fr1 fg1 0 1 2 3 2 2 2 2 a.2.1.2.1 a.2.1.2.2 3 0 a.1.1 a.2.1.1 (58 - 2 * a.1.2 - (10 + a.1.1)) a.1.2) 887 && Nat.ble (dp5o frq fgq 0 0 1 1 1 3 2 1 a.2.2.2.1 a.2.2.2.2 1 0 a.1.1 a.2.2.1 (58 - 2 * a.1.2 - (10 + a.1.1)) a.1.2) 597) &&
  (Nat.ble (dp9o fr1 fg1 0 1 2 3 2 2 2 2 a.2.1.2.1 a.2.1.2.2 3 0 (a.1.1 - 5) a.1.1 a.2.1.1 (58 - 2 * a.1.2 - (10 + a.1.1)) a.1.2) 887 && Nat.ble (dp9o frq fgq 0 0 1 1 1 3 2 1 a.2.2.2.1 a.2.2.2.2 1 0 (a.1.1 - 5) a.1.1 a.2.2.1 (58 - 2 * a.1.2 - (10 + a.1.1)) a.1.2) 597))))
theorem oF9_ok : oF9.all okF9 = true := by decide +kernel
def has2 (k m : Nat) : Bool := oF9.any (fun a => Nat.beq k a.1.1 && Nat.beq m a.1.2)
theorem has2_get {k m : Nat} (h : has2 k m = true) : ∃ r g, okF9 ((k, m), r, g) = true := by
  obtain ⟨a, ha, q⟩ := List.any_eq_true.mp h
  have z := List.all_eq_true.mp oF9_ok a ha
  rw [Bool.and_eq_true] at q
  have e1 := Nat.eq_of_beq_eq_true q.1
  have e2 := Nat.eq_of_beq_eq_true q.2
  subst e1; subst e2
  exact ⟨a.2.1, a.2.2, z⟩
section PmZl9
variable {f : Nat} {t C : Ty} {Δ : List (Nat × Ty × Nat)}
theorem nat_f9 (k40 : tch C ≤ 40) (k24 : 24 ≤ tch C) (fl : sN tR0 0 1 C = true) (w : TWf f (cxs [] [] (tAll tR0 C)).length (Δ.map (fun a => a.1)) t) (he : TE (cxs [] [] (tAll tR0 C)) Δ) (nD : Δ ≠ []) (hΔ1 : Δ.length ≤ 1) (tn : TNo f t) (ch : CHo f t []) (hz : has2 (tch C) (mch t) = true) (m30 : mch t ≤ 30) (hb : 10 + tch C + dch Δ + 2 * mch t ≤ 58) : NtV (cxs [] [] (tAll tR0 C)) Δ f t 887 597 := by
  obtain ⟨-, oA⟩ := okc_low [] he.1
  have oB : ok 0 tR0 = true := (ok_all.mp oA).1
  have oC : ok (([] : List Ty).length + 1) C = true := (ok_all.mp oA).2
  have fR := sn_rows (d := ([] : List Ty).length + 1) oB (Nat.le_refl 2) (show tch tR0 ≤ 16 by decide) oC k40 fl
  have fG := sn_goals (d := ([] : List Ty).length + 1) oB (Nat.le_refl 2) (show tch tR0 ≤ 16 by decide) oC k40 fl
  obtain ⟨r, g, hk⟩ := has2_get hz
  unfold okF9 at hk
  rw [Bool.and_eq_true, Bool.and_eq_true, Bool.and_eq_true, Bool.and_eq_true, Bool.and_eq_true, Bool.and_eq_true, Bool.and_eq_true] at hk
  obtain ⟨⟨dR, dG⟩, y3, y1, ⟨n5R, n5G⟩, n9R, n9G⟩ := hk
  have z3 : 3 ≤ r.1 := Nat.le_of_ble_eq_true y3
  have z1 : 1 ≤ g.1 := Nat.le_of_ble_eq_true y1
  have gR : ∀ v ∈ frg (sfR 2) (tch C), ∀ p, p ≤ v.1 → max 1 (1 + (3 + (v.2 + (v.1 - p) * 1 + p * 3))) ≤ r.1 ∧ v.2 + (v.1 - p) * 1 ≤ r.2.1 ∧ p ≤ r.2.2 := by
    intro v hv p hp
    have q := rng_all (List.all_eq_true.mp dR v hv) (i := p) (by omega)
    rw [Bool.and_eq_true, Bool.and_eq_true] at q
    exact ⟨Nat.le_of_ble_eq_true q.1, Nat.le_of_ble_eq_true q.2.1, Nat.le_of_ble_eq_true q.2.2⟩
  have gG : ∀ v ∈ frg (sfG 2) (tch C), ∀ p, p ≤ v.1 → max 1 (0 + (1 + (v.2 + (v.1 - p) * 1 + p * 1))) ≤ g.1 ∧ v.2 + (v.1 - p) * 1 ≤ g.2.1 ∧ p ≤ g.2.2 := by
    intro v hv p hp
    have q := rng_all (List.all_eq_true.mp dG v hv) (i := p) (by omega)
    rw [Bool.and_eq_true, Bool.and_eq_true] at q
    exact ⟨Nat.le_of_ble_eq_true q.1, Nat.le_of_ble_eq_true q.2.1, Nat.le_of_ble_eq_true q.2.2⟩
  have e1 : max 1 (fx1.getD 0 0) = 1 := by decide
  have eq : max 1 (fxq.getD 0 0) = 1 := by decide
  have w1 : frg fg1 0 = [(1, 0)] := by decide
  have wq : frg fgq 0 = [(1, 0)] := by decide
  have bR : ∀ b, vlr b 1 (nz 0 (fun _ => 1 + 1) (2 + 1) (vlr b 1) (onz 0 (fun _ => 1 + 1) (2 + 1) (vlr b 1) []) tR0) ≤ 3 := by
    intro b
    cases b <;> decide
  have bG : nz 1 ngc 1 (fun x => x) (onz 1 ngc 1 (fun x => x) []) tR0 ≤ 1 := by decide
  have hC16 : hd C < 16 := by
    refine Classical.byContradiction (fun q => ?_)
    obtain ⟨j, hj, rfl⟩ := hd_is_var oC (by omega)
    have e : tch (tVar j) = 1 := rfl
    omega
  by_cases h2 : hd C = 2
  · obtain ⟨G9, D, rfl, oG, oD⟩ := hd_is_all oC h2
    have pG := tch_pos oG
    have et := tch_all G9 D
    refine zone_g9o (e := false) (cd := 58 - 2 * mch t - (10 + tch (tAll G9 D))) (ob := 0) (wR := 3) (wG := 1) (yR := max 1 (fx1.getD 0 0)) (yG := max 1 (fxq.getD 0 0)) (VR := frg (sfR 2) (tch (tAll G9 D))) (VG := frg (sfG 2) (tch (tAll G9 D))) (WR := frg fg1 0) (WG := frg fgq 0) w he (Or.inr ⟨rfl, nD⟩) tn hΔ1 ch m30 (by omega) (by omega) (fun b hb => by cases hb) (fun b hb => by cases hb) bR bG fR fG (fun b v x1 x2 => nat_ctxg (wB := 3) (v := v) (tbs1 b) (vlr_one b) (by decide) he.1 x1 x2 (bR b) (Nat.le_refl _) (by decide) (gr_R he.1 (by decide) b)) (fun v x1 x2 => nat_ctxg (wB := 1) (v := v) tbsq (fun y => by show y ≤ 0 + max 1 y; omega) (by decide) he.1 x1 x2 bG (Nat.le_refl _) (by decide) (gr_G he.1 (by decide))) ?_ ?_
    · intro v hv p hp' e he'
      rw [w1] at he'
      rw [List.mem_singleton.mp he', e1]
      obtain ⟨s1, s2, s3⟩ := gR v hv p hp'
      refine ⟨(r.1, tch (tAll G9 D) - 5, r.2.1, r.2.2, 0, tch (tAll G9 D)), ⟨?_, s2, s3, Nat.le_refl _, Nat.le_refl _⟩, by show tch D ≤ tch (tAll G9 D) - 5; omega, ⟨⟨by show tch (tAll G9 D) ≤ 50; omega, by show tch (tAll G9 D) - 5 ≤ tch (tAll G9 D); omega⟩, z3⟩, fun _ _ => Nat.le_of_ble_eq_true n9R, fun e => by cases e⟩
      show 0 + 1 * max 1 (1 + (3 + (v.2 + (v.1 - p) * 1 + p * 3))) ≤ r.1
      omega
    · intro v hv p hp' e he'
      rw [wq] at he'
      rw [List.mem_singleton.mp he', eq]
      obtain ⟨s1, s2, s3⟩ := gG v hv p hp'
      refine ⟨(g.1, tch (tAll G9 D) - 5, g.2.1, g.2.2, 0, tch (tAll G9 D)), ⟨?_, s2, s3, Nat.le_refl _, Nat.le_refl _⟩, by show tch D ≤ tch (tAll G9 D) - 5; omega, ⟨⟨by show tch (tAll G9 D) ≤ 50; omega, by show tch (tAll G9 D) - 5 ≤ tch (tAll G9 D); omega⟩, z1⟩, fun _ _ => Nat.le_of_ble_eq_true n9G, fun e => by cases e⟩
      show 0 + 1 * max 1 (0 + (1 + (v.2 + (v.1 - p) * 1 + p * 1))) ≤ g.1
      omega
  · refine zone_g7o (e := false) (cd := 58 - 2 * mch t - (10 + tch C)) (ob := 0) (wR := 3) (wG := 1) (yR := max 1 (fx1.getD 0 0)) (yG := max 1 (fxq.getD 0 0)) (VR := frg (sfR 2) (tch C)) (VG := frg (sfG 2) (tch C)) (WR := frg fg1 0) (WG := frg fgq 0) w he (Or.inr ⟨rfl, nD⟩) tn hΔ1 ⟨h2, hC16⟩ ch m30 (by omega) (by omega) (fun b hb => by cases hb) (fun b hb => by cases hb) bR bG fR fG (fun b v x1 x2 => nat_ctxg (wB := 3) (v := v) (tbs1 b) (vlr_one b) (by decide) he.1 x1 x2 (bR b) (Nat.le_refl _) (by decide) (gr_R he.1 (by decide) b)) (fun v x1 x2 => nat_ctxg (wB := 1) (v := v) tbsq (fun y => by show y ≤ 0 + max 1 y; omega) (by decide) he.1 x1 x2 bG (Nat.le_refl _) (by decide) (gr_G he.1 (by decide))) ?_ ?_
    · intro v hv p hp' e he'
      rw [w1] at he'
      rw [List.mem_singleton.mp he', e1]
      obtain ⟨s1, s2, s3⟩ := gR v hv p hp'
      refine ⟨(r.1, 0, r.2.1, r.2.2, 0, tch C), ⟨?_, s2, s3, Nat.le_refl _, Nat.le_refl _⟩, ⟨by show tch C ≤ 50; omega, z3⟩, fun _ _ => Nat.le_of_ble_eq_true n5R, fun e => by cases e⟩
      show 0 + 1 * max 1 (1 + (3 + (v.2 + (v.1 - p) * 1 + p * 3))) ≤ r.1
      omega
    · intro v hv p hp' e he'
      rw [wq] at he'
      rw [List.mem_singleton.mp he', eq]
      obtain ⟨s1, s2, s3⟩ := gG v hv p hp'
      refine ⟨(g.1, 0, g.2.1, g.2.2, 0, tch C), ⟨?_, s2, s3, Nat.le_refl _, Nat.le_refl _⟩, ⟨by show tch C ≤ 50; omega, z1⟩, fun _ _ => Nat.le_of_ble_eq_true n5G, fun e => by cases e⟩
      show 0 + 1 * max 1 (0 + (1 + (v.2 + (v.1 - p) * 1 + p * 1))) ≤ g.1
      omega
end PmZl9
/-- what is left: two lengths of bodies, terms of seven characters; (2; 32) without names -/
def exJ (e : Bool) (m be k : Nat) : Bool := Nat.beq be 2 && (if e then Nat.beq k 32 else Nat.beq m 7 && (Nat.beq k 28 || Nat.beq k 29))
theorem exJ_n : (List.range 32).all (fun k => (List.range 12).all (fun m => !(exF false m 2 k) || (exJ false m 2 k || (has2 k m && (Nat.ble 49 (10 + k + 2 * m) && Nat.ble 24 k))))) = true := by decide +kernel
def W9j (m : Nat) (e : Bool) (Γ : List Ty) : Prop := (e = false ∧ ExA Γ) ∨ (∃ B C : Ty, Γ = [tAll B C] ∧ 2 ≤ tch B ∧ LBd [] [] (tAll B C) tTop B C ∧ sN B 0 1 C = true ∧ exJ e m (tch B) (tch C) = true) ∨ (e = false ∧ ∃ (Δ1 Γ0 : List Ty) (b b' B C : Ty), Γ = cxs Δ1 Γ0 b ∧ LBd Γ0 Δ1 b b' B C ∧ ¬ IS2 (fun _ => False) b ∧ hd b ≠ 2 ∧ 1 ≤ cch Γ0 + cch Δ1 ∧ ex2 m (tch B) (tch C) (tch b - tch (tAll B C)) (cch Γ0) (cch Δ1) = true)
def RESTV9 : Prop := ∀ (f : Nat) (x y : Ty) (Γ : List Ty) (Δ : List (Nat × Ty × Nat)) (t : Ty), H9 f x y Γ Δ → Sh9 x y t → (¬ CHo f t [] ∨ (CHo f t [] ∧ (W9j (mch (pee f t).2) Δ.isEmpty Γ ∨ V9a f x y t (mch (pee f t).2) Δ.isEmpty Γ))) → PRn f x y Γ Δ
theorem restU9_of (R : RESTV9) : RESTU9 := by
  intro f x y Γ Δ t H sh h
  rcases h with h | ⟨ch, h | h⟩
  · exact R f x y Γ Δ t H sh (Or.inl h)
  rotate_left
  · exact R f x y Γ Δ t H sh (Or.inr ⟨ch, Or.inr h⟩)
  rcases h with h | ⟨B, C, eΓ, b2, lb, fl, hx⟩ | h
  · exact R f x y Γ Δ t H sh (Or.inr ⟨ch, Or.inl (Or.inl h)⟩)
  rotate_left
  · exact R f x y Γ Δ t H sh (Or.inr ⟨ch, Or.inl (Or.inr (Or.inr h))⟩)
  by_cases c : exJ Δ.isEmpty (mch (pee f t).2) (tch B) (tch C) = true
  · exact R f x y Γ Δ t H sh (Or.inr ⟨ch, Or.inl (Or.inr (Or.inl ⟨B, C, eΓ, b2, lb, fl, c⟩))⟩)
  obtain ⟨⟨wt, nt, tt, m3', m3, n9⟩, pm, hbt⟩ := h9_t H sh
  have H' := H
  obtain ⟨-, -, ⟨he, hv, hd', h20, h47, -⟩, -⟩ := H'
  have ec : cch Γ = 8 + tch B + tch C := by
    rw [eΓ]
    show (tch (tAll B C) + 4) + 0 = _
    rw [tch_all]
    omega
  have e2 : tch B = 2 := by
    unfold exF at hx
    rw [Bool.and_eq_true] at hx
    exact Nat.eq_of_beq_eq_true hx.1
  rw [e2] at hx c
  cases eI : Δ.isEmpty with
  | true =>
    exfalso
    rw [eI] at hx c
    apply c
    unfold exF at hx
    unfold exJ
    rw [if_pos rfl] at hx ⊢
    exact hx
  | false =>
    rw [eI] at hx c
    have nD : Δ ≠ [] := fun q => by rw [q] at eI; cases eI
    have d5 := dch_five he nD
    have k31 : tch C ≤ 31 := by
      have hx' := hx
      unfold exF at hx'
      rw [if_neg Bool.false_ne_true] at hx'
      simp only [Bool.or_eq_true, Bool.and_eq_true] at hx'
      rcases hx'.2 with ⟨q, -⟩ | ⟨-, q | q⟩ | ⟨-, q | q⟩ | ⟨-, -, q⟩
      · have := Nat.eq_of_beq_eq_true q; omega
      · have := Nat.eq_of_beq_eq_true q; omega
      · have := Nat.eq_of_beq_eq_true q; omega
      · have := Nat.eq_of_beq_eq_true q; omega
      · have := Nat.eq_of_beq_eq_true q; omega
      · exact Nat.le_of_ble_eq_true q
    have m11 : mch (pee f t).2 < 12 := by
      have hx' := hx
      unfold exF at hx'
      rw [if_neg Bool.false_ne_true] at hx'
      simp only [Bool.or_eq_true, Bool.and_eq_true] at hx'
      rcases hx'.2 with ⟨-, q⟩ | ⟨q, -⟩ | ⟨q, -⟩ | ⟨q, -⟩ <;> (have := Nat.eq_of_beq_eq_true q; omega)
    have z := rng_all (rng_all exJ_n (i := tch C) (by omega)) (i := mch (pee f t).2) m11
    rw [hx] at z
    rw [Bool.or_eq_true, Bool.or_eq_true, Bool.and_eq_true, Bool.and_eq_true] at z
    rcases z with z | z | ⟨z, z49, z24⟩
    · cases z
    · exact absurd z c
    have z49 := Nat.le_of_ble_eq_true z49
    have z24 := Nat.le_of_ble_eq_true z24
    obtain ⟨a, ea⟩ := dch_one he nD (by omega)
    have oB : ok 0 B = true := by
      have q := he.1
      rw [eΓ] at q
      exact (ok_all.mp q.1).1
    have eB := two_rec oB e2
    subst eB
    obtain ⟨⟨w', -⟩, -, tn, -, -⟩ := pee_ok f _ _ t wt
    have hbp : 10 + tch C + dch Δ + 2 * mch (pee f t).2 ≤ 58 := by omega
    refine h9_ntv H sh (NtV_pee f t wt he ?_)
    have eΓ' : Γ = cxs [] [] (tAll tR0 C) := eΓ
    subst eΓ'
    exact nat_f9 lb.2.2.2.1 z24 fl w' he nD (by rw [ea]; exact Nat.le_refl _) (tn tt) (pee_cho f t [] ch) z (by omega) hbp
theorem pairn_pv (R : RESTV9) : PAIRn := pairn_pu (restU9_of R)
