/-! ONE NAME AROUND: tables computed, zones. -/
def gptz (st : Nat → Nat → Nat → (Nat → Nat → Nat → Nat) → Nat) (mt : Nat) : Nat → List (List (List Nat))
  | 0 => []
  | m + 1 => ((List.range (mt - m)).map (fun w => (List.range (mt - m - w)).map (fun b => st (m + 1) w b (dget (gptz st mt m) m)))) :: gptz st mt m
def GTz (st : Nat → Nat → Nat → (Nat → Nat → Nat → Nat) → Nat) (mt m w b : Nat) : Nat := dget (gptz st mt m) m m w b
section PmX4g
variable {un : Bool} {a5 fn s2 r0 r1 r2 r3 mt : Nat} {V : Nat → Nat} {Z H : Nat → Nat → Nat} {st : Nat → Nat → Nat → (Nat → Nat → Nat → Nat) → Nat}
theorem gptz_get : ∀ (m i w b : Nat), 1 ≤ i → i ≤ m → dget (gptz st mt m) m i w b = GTz st mt i w b
  | 0, i, w, b, h1, h2 => by omega
  | m + 1, i, w, b, h1, h2 => by
    by_cases e : i = m + 1
    · subst e; rfl
    · rw [← gptz_get m i w b h1 (by omega)]
      unfold dget
      rw [show m + 1 - i = (m - i) + 1 by omega]
      show ((List.getD (_ :: gptz st mt m) ((m - i) + 1) []).getD w []).getD b 0 = _
      rw [List.getD_cons_succ]
theorem GTz_cell {m w b : Nat} (h : m + 1 + w + b ≤ mt) : GTz st mt (m + 1) w b = st (m + 1) w b (dget (gptz st mt m) m) := by
  unfold GTz dget
  rw [show m + 1 - (m + 1) = 0 by omega]
  show ((List.getD (((List.range (mt - m)).map (fun w => (List.range (mt - m - w)).map (fun b => st (m + 1) w b (dget (gptz st mt m) m)))) :: gptz st mt m) 0 []).getD w []).getD b 0 = _
  rw [List.getD_cons_zero, List.getD_eq_getElem?_getD (l := List.map _ _), List.getElem?_map, List.getElem?_range (by omega)]
  show (List.getD ((List.range (mt - m - w)).map (fun b => st (m + 1) w b (dget (gptz st mt m) m))) b 0) = _
  rw [List.getD_eq_getElem?_getD, List.getElem?_map, List.getElem?_range (by omega)]
  rfl
/-- it is closed -/
theorem GTz_ok (hst : ∀ n w b D, dcl un a5 fn s2 r0 r1 r2 r3 V Z H n w b D ≤ st n w b D) : DPc un a5 mt fn s2 r0 r1 r2 r3 V Z H (GTz st mt) := by
  have cellx : ∀ {m w b v : Nat}, 1 ≤ m → m + w + b ≤ mt → v ≤ dcl un a5 fn s2 r0 r1 r2 r3 V Z H m w b (dget (gptz st mt (m - 1)) (m - 1)) → v ≤ GTz st mt m w b := by
    intro m w b v h1 h2 hv
    have := GTz_cell (mt := mt) (st := st) (m := m - 1) (w := w) (b := b) (by omega)
    rw [show m - 1 + 1 = m by omega] at this
    rw [this]
    exact Nat.le_trans hv (hst _ _ _ _)
  have gt : ∀ {m i w b : Nat}, 1 ≤ i → i < m → GTz st mt i w b = dget (gptz st mt (m - 1)) (m - 1) i w b := fun h1 h2 => (gptz_get _ _ _ _ h1 (by omega)).symm
  refine ⟨?_, ?_, ?_, ?_, ?_, ?_, ?_, ?_, ?_, ?_, ?_, ?_⟩
  · intro b h1 h2
    have CX : ∀ v, _ → _ := fun v => cellx (v := v) (m := 1) (w := 0) (b := b) (Nat.le_refl _) (by omega)
    refine CX _ ?_
    unfold dcl
    rw [show (Nat.beq 1 1 && Nat.ble a5 b) = true by rw [Nat.ble_eq_true_of_le h2]; rfl]
    exact Nat.le_max_left _ _
  · intro w b hw h1 h2
    have CX : ∀ v, _ → _ := fun v => cellx (v := v) (m := 1) (w := w) (b := b) (Nat.le_refl _) (by omega)
    refine CX _ ?_
    have wb : Nat.beq w 0 = false := by
      cases w with
      | zero => omega
      | succ w => rfl
    unfold dcl
    rw [show (Nat.beq 1 1 && Nat.ble a5 b) = true by rw [Nat.ble_eq_true_of_le h2]; rfl, wb]
    exact Nat.le_max_left _ _
  · intro i m w b h1 h2 h3
    have CX : ∀ v, _ → _ := fun v => cellx (v := v) (m := m) (w := w) (b := b) (by omega) h3
    rw [gt (m := m) h1 (by omega)]
    exact CX _ (dcl_ops h1 h2)
  · intro i m b h1 h2 h3
    have CX : ∀ v, _ → _ := fun v => cellx (v := v) (m := m) (w := 0) (b := b) (by omega) (by omega)
    rw [gt (m := m) (w := 0) h1 (by omega)]
    generalize dget (gptz st mt (m - 1)) (m - 1) = D at CX ⊢
    have k := mxr_le (k := m - 5) (f := fun i => max (fn + (Z b (m - 4 - (i + 1)) + D (i + 1) 0 (b + (m - (i + 1))))) (s2 + D (i + 1) 0 (b + (m - (i + 1))))) (i := i - 1) (by omega)
    simp only [Nat.sub_add_cancel h1] at k
    exact ⟨CX _ (dcl_z (by unfold dcl0; exact le_mx (Or.inr (le_mx (Or.inl (Nat.le_trans (Nat.le_max_left _ _) k)))))), CX _ (dcl_z (by unfold dcl0; exact le_mx (Or.inr (le_mx (Or.inl (Nat.le_trans (Nat.le_max_right _ _) k))))))⟩
  · intro i m w b h1 h2 h3 h4
    have CX : ∀ v, _ → _ := fun v => cellx (v := v) (m := m) (w := w) (b := b) (by omega) h4
    rw [gt (m := m) (w := 0) h1 (by omega), gt (m := m) (w := w - 2) h1 (by omega)]
    generalize dget (gptz st mt (m - 1)) (m - 1) = D at CX ⊢
    have k := mxr_le (k := m - 5) (f := fun i => max (max (D (i + 1) 0 (b + (m - (i + 1)))) (D (i + 1) (w - 2) (b + (m - (i + 1))))) (mxr (w - 1) (fun s => max (D (i + 1) 0 (b + (m - (i + 1)) + (s + 1))) (D (i + 1) (w - (s + 1 + 1)) (b + (m - (i + 1)) + (s + 1)))))) (i := i - 1) (by omega)
    simp only [Nat.sub_add_cancel h1] at k
    exact ⟨CX _ (dcl_s h3 (by unfold dcl1; exact le_mx (Or.inr (Nat.le_trans (le_mx (Or.inl (Nat.le_max_left _ _))) k)))), CX _ (dcl_s h3 (by unfold dcl1; exact le_mx (Or.inr (Nat.le_trans (le_mx (Or.inl (Nat.le_max_right _ _))) k))))⟩
  · intro i m w b s h1 h2 h3 h4 h5
    have CX : ∀ v, _ → _ := fun v => cellx (v := v) (m := m) (w := w) (b := b) (by omega) h5
    rw [gt (m := m) (w := 0) h1 (by omega), gt (m := m) (w := w - (s + 1)) h1 (by omega)]
    generalize dget (gptz st mt (m - 1)) (m - 1) = D at CX ⊢
    have k := mxr_le (k := m - 5) (f := fun i => max (max (D (i + 1) 0 (b + (m - (i + 1)))) (D (i + 1) (w - 2) (b + (m - (i + 1))))) (mxr (w - 1) (fun s => max (D (i + 1) 0 (b + (m - (i + 1)) + (s + 1))) (D (i + 1) (w - (s + 1 + 1)) (b + (m - (i + 1)) + (s + 1)))))) (i := i - 1) (by omega)
    simp only [Nat.sub_add_cancel h1] at k
    have k2 := mxr_le (k := w - 1) (f := fun s => max (D i 0 (b + (m - i) + (s + 1))) (D i (w - (s + 1 + 1)) (b + (m - i) + (s + 1)))) (i := s - 1) (by omega)
    simp only [Nat.sub_add_cancel h3] at k2
    exact ⟨CX _ (dcl_s (by omega) (by unfold dcl1; exact le_mx (Or.inr (Nat.le_trans (le_mx (Or.inr (Nat.le_trans (Nat.le_max_left _ _) k2))) k)))), CX _ (dcl_s (by omega) (by unfold dcl1; exact le_mx (Or.inr (Nat.le_trans (le_mx (Or.inr (Nat.le_trans (Nat.le_max_right _ _) k2))) k))))⟩
  · intro i m w b h1 h2 h3 h4
    have CX : ∀ v, _ → _ := fun v => cellx (v := v) (m := m) (w := w) (b := b) (by omega) h4
    rw [gt (m := m) (w := 0) h1 (by omega), gt (m := m) (w := w - 2) h1 (by omega)]
    generalize dget (gptz st mt (m - 1)) (m - 1) = D at CX ⊢
    have k := mxr_le (k := m - 4) (f := fun i => max (D (i + 1) 0 b) (D (i + 1) (w - 2) b)) (i := i - 1) (by omega)
    simp only [Nat.sub_add_cancel h1] at k
    exact ⟨CX _ (dcl_s h3 (by unfold dcl1; exact le_mx (Or.inl (Nat.le_trans (Nat.le_max_left _ _) k)))), CX _ (dcl_s h3 (by unfold dcl1; exact le_mx (Or.inl (Nat.le_trans (Nat.le_max_right _ _) k))))⟩
  · intro b h2
    have CX : ∀ v, _ → _ := fun v => cellx (v := v) (m := 2) (w := 0) (b := b) (by omega) (by omega)
    exact CX _ (dcl_z (by unfold dcl0; exact Nat.le_max_left _ _))
  · intro i m b h1 h2 h3
    have CX : ∀ v, _ → _ := fun v => cellx (v := v) (m := m) (w := 0) (b := b) (by omega) (by omega)
    rw [gt (m := m) (w := 0) h1 (by omega)]
    refine CX _ (dcl_z ?_)
    unfold dcl0
    refine le_mx (Or.inr (le_mx (Or.inr (le_mx (Or.inl ?_)))))
    rw [if_pos (Nat.ble_eq_true_of_le (show 5 ≤ m by omega)), show m - 4 = i by omega]
    exact Nat.le_refl _
  · intro i j m b h1 h2 h3 h4
    have CX : ∀ v, _ → _ := fun v => cellx (v := v) (m := m) (w := 0) (b := b) (by omega) (by omega)
    rw [gt (m := m) (w := 0) h1 (by omega), gt (m := m) (w := 0) h2 (by omega)]
    generalize dget (gptz st mt (m - 1)) (m - 1) = D at CX ⊢
    have k := mxr_le (k := m - 8) (f := fun i => r2 + (D (i + 1) 0 b + D (m - 7 - (i + 1)) 0 b)) (i := i - 1) (by omega)
    simp only [Nat.sub_add_cancel h1] at k
    rw [show m - 7 - i = j by omega] at k
    exact CX _ (dcl_z (by unfold dcl0; exact le_mx (Or.inr (le_mx (Or.inr (le_mx (Or.inr (le_mx (Or.inl k)))))))))
  · intro i j k m b h1 h2 h3 h4 h5
    have CX : ∀ v, _ → _ := fun v => cellx (v := v) (m := m) (w := 0) (b := b) (by omega) (by omega)
    rw [gt (m := m) (w := 0) h1 (by omega), gt (m := m) (w := 0) h2 (by omega), gt (m := m) (w := 0) h3 (by omega)]
    generalize dget (gptz st mt (m - 1)) (m - 1) = D at CX ⊢
    have q := mxr_le (k := m - 12) (f := fun i => mxr (m - 12 - i) (fun j => r3 + (D (i + 1) 0 b + (D (j + 1) 0 b + D (m - 10 - (i + 1) - (j + 1)) 0 b)))) (i := i - 1) (by omega)
    simp only [Nat.sub_add_cancel h1] at q
    have q2 := mxr_le (k := m - 12 - (i - 1)) (f := fun j => r3 + (D i 0 b + (D (j + 1) 0 b + D (m - 10 - i - (j + 1)) 0 b))) (i := j - 1) (by omega)
    simp only [Nat.sub_add_cancel h2] at q2
    rw [show m - 10 - i - j = k by omega] at q2
    exact CX _ (dcl_z (by unfold dcl0; exact le_mx (Or.inr (le_mx (Or.inr (le_mx (Or.inr (le_mx (Or.inr (Nat.le_trans q2 q))))))))))
  · intro i j m w b h1 h2 h3 h4 h5
    have CX : ∀ v, _ → _ := fun v => cellx (v := v) (m := m) (w := w) (b := b) (by omega) h4
    rw [gt (m := m) (w := w) h1 (by omega), gt (m := m) (w := w) h2 (by omega)]
    exact CX _ (dcl_or h1 h2 h3 h5)
end PmX4g

def ust (a5 fn s2 r0 r1 r2 r3 : Nat) (V : Nat → Nat) (Z H : Nat → Nat → Nat) (mt n w b : Nat) (D : Nat → Nat → Nat → Nat) : Nat :=
  max (dcl false a5 fn s2 r0 r1 r2 r3 (fun _ => 0) Z (fun _ _ => 0) n w b D) (if Nat.beq n 4 && Nat.ble b 4 then 0 else mxr (n - 3) (fun i => DTo a5 fn s2 r0 r1 r2 r3 V Z H mt (i + 1) w b + DTo a5 fn s2 r0 r1 r2 r3 V Z H mt (n - 2 - (i + 1)) w b))
def UTz (a5 fn s2 r0 r1 r2 r3 : Nat) (V : Nat → Nat) (Z H : Nat → Nat → Nat) (mt m w b : Nat) : Nat := GTz (ust a5 fn s2 r0 r1 r2 r3 V Z H mt) mt m w b
theorem UTz_ok {a5 fn s2 r0 r1 r2 r3 mt : Nat} {V : Nat → Nat} {Z H : Nat → Nat → Nat} : DPc false a5 mt fn s2 r0 r1 r2 r3 (fun _ => 0) Z (fun _ _ => 0) (UTz a5 fn s2 r0 r1 r2 r3 V Z H mt) ∧ ∀ i j m w b, 1 ≤ i → 1 ≤ j → i + j + 2 = m → m + w + b ≤ mt → (m = 4 → 5 ≤ b) → DTo a5 fn s2 r0 r1 r2 r3 V Z H mt i w b + DTo a5 fn s2 r0 r1 r2 r3 V Z H mt j w b ≤ UTz a5 fn s2 r0 r1 r2 r3 V Z H mt m w b := by
  refine ⟨GTz_ok (fun n w b D => Nat.le_max_left _ _), fun i j m w b i1 j1 h1 h2 h3 => ?_⟩
  have e := GTz_cell (mt := mt) (st := ust a5 fn s2 r0 r1 r2 r3 V Z H mt) (m := m - 1) (w := w) (b := b) (by omega)
  rw [show m - 1 + 1 = m by omega] at e
  show _ ≤ GTz (ust a5 fn s2 r0 r1 r2 r3 V Z H mt) mt m w b
  rw [e]
  generalize dget (gptz (ust a5 fn s2 r0 r1 r2 r3 V Z H mt) mt (m - 1)) (m - 1) = D9
  unfold ust
  refine Nat.le_trans ?_ (Nat.le_max_right _ _)
  have c : (Nat.beq m 4 && Nat.ble b 4) = false := by
    cases e4 : Nat.beq m 4 with
    | false => rfl
    | true =>
      have := h3 (Nat.eq_of_beq_eq_true e4)
      cases e5 : Nat.ble b 4 with
      | false => rfl
      | true => exact absurd (Nat.le_of_ble_eq_true e5) (by omega)
  rw [c]
  have k := mxr_le (k := m - 3) (f := fun i => DTo a5 fn s2 r0 r1 r2 r3 V Z H mt (i + 1) w b + DTo a5 fn s2 r0 r1 r2 r3 V Z H mt (m - 2 - (i + 1)) w b) (i := i - 1) (by omega)
  simp only [Nat.sub_add_cancel i1] at k
  rw [show m - 2 - i = j by omega] at k
  exact k
def dpDu (F W : FrT) (a5 hv fn s2 r0 r1 r2 r3 E0 p wB ob k y cd m : Nat) : Nat := UTz a5 fn s2 r0 r1 r2 r3 (Vbw F W y cd) (Zbw F W y) (fun b => Hdw (X7w F W y cd m) (ebw F W hv y cd m E0 p wB ob) (e2w F W hv y cd m k) (Zbw F W y b)) m m 0 0
section PmZ1u
variable {t0 fn s2 hv r0 r1 r2 r3 x0 : Nat} {n1 h : Nat → Nat} {P Q : List (List Nat)} {F G W : FrT} {X : List Nat}
theorem gen_fin6u (hn : NC t0 n1 s2 h) (hm : ∀ y y', y ≤ y' → h y ≤ h y') (T : TBs 58 t0 fn s2 hv r0 r1 r2 r3 x0 n1 h P Q F G X) (hFm : frm F = true) (hgr : fgc F W hv = true) (hWm : fgm W = true) (hW1 : fg1s W = true) (hW : (1, 0) ∈ frg W 0) (H1 : ∀ y, h y ≤ hv + max 1 y) {f : Nat} {t S : Ty} {Γ : List Ty} {ω : List Nat} {Δ : List (Nat × Ty × Nat)} {a5 ob cd wB Bd y E0 p k : Nat} (w : TWf f Γ.length (Δ.map (fun a => a.1)) t) (he : TE Γ Δ) (l1 : ω.length = Γ.length) (cu : TNo f t) (nc : ¬ CFt f t) (m11 : mch t ≤ 11) (hΔ1 : Δ.length ≤ 1) (hm30 : mch t ≤ 30) (hdc : dch Δ ≤ cd) (hcd : cd ≤ 56) (a55 : a5 ≤ 5) (ha5 : Δ ≠ [] → a5 = 0) (y01 : x0 ≤ y) (hω2 : ∀ j, j < ω.length → vw ω j ≤ y) (hk1 : HEk t0 n1 s2 h (E2 (X7w F W y cd (mch t)) (ebw F W hv y cd (mch t) E0 p wB ob) (e2w F W hv y cd (mch t) k)) Γ ω) (go : ∀ E Z, AQh t0 n1 s2 h E Z f t [] ω → HEk t0 n1 s2 h E Γ ω → GOk t0 n1 s2 h E f t [] ω Γ Δ) (R1 : dpDu F W a5 hv fn s2 r0 r1 r2 r3 E0 p wB ob k y cd (mch t) ≤ Bd) (hS : tyF f t Γ Δ = .inr S) : nz t0 n1 s2 h ω S ≤ Bd := by
  have dh := dh_oko (a5 := a5) (ob := ob) (cd := cd) (wB := wB) (y := y) (E0 := E0) (p := p) (k := k) (mt := mch t) hn hm T hFm hgr hWm hW1 hW H1 hm30 a55 y01
  have gy0 : y ≤ gyw W y 0 := by
    have a0 := Zx_mem (x := y) (frg W 0) (1, 0) hW
    simp only at a0
    show y ≤ (frg W 0).foldr (fun u a => max (u.2 + u.1 * y) a) 0
    omega
  have aq := DQa dh f t [] ω Γ _ 0 0 w l1 (fun j hj => Nat.le_trans (hω2 j hj) gy0) (by omega) (fun e => absurd rfl e)
  have dv : DVn t0 n1 s2 h (E2 (X7w F W y cd (mch t)) (ebw F W hv y cd (mch t) E0 p wB ob) (e2w F W hv y cd (mch t) k)) (Vbw F W y cd 0) ω Δ := by
    intro a ha
    obtain ⟨a1, a2, a3⟩ := he.2.2 a ha
    have ad := dch_mem ha
    have al : a.2.2 ≤ ω.length := by rw [l1]; exact a1
    have ll : (ω.drop (ω.length - a.2.2)).length = a.2.2 := by rw [List.length_drop]; omega
    have vv : ∀ j, j < (ω.drop (ω.length - a.2.2)).length → vw (ω.drop (ω.length - a.2.2)) j ≤ y := by
      intro j hj
      have q := vw_app_lo (ω.take (ω.length - a.2.2)) _ j hj
      rw [List.take_append_drop] at q
      rw [← q]
      exact hω2 j (by rw [ll] at hj; omega)
    refine ⟨ω.take (ω.length - a.2.2), ω.drop (ω.length - a.2.2), (List.take_append_drop _ _).symm, ll, by rw [ll]; exact a2, ?_, ?_⟩
    · have q1 := Zx_le T (x := y) (A := a.2.1) (by rw [ll]; exact a2) (by omega) y01 vv
      have q2 := Zx_ms hFm (x := y) (s := tch a.2.1 + 2) (s' := cd - 2) (by omega) (by omega)
      exact Nat.le_trans q1 (Nat.le_trans q2 (Nat.le_max_left _ _))
    · have c1 : Zx F y (cd - 2 - 3) ≤ X7w F W y cd (mch t) := by
        unfold X7w
        exact le_mx (Or.inr (Nat.le_max_left _ _))
      have c2 : ∀ z, cpw F hv y (cd - 2) z ≤ cpo F W hv y cd (mch t) z := fun z => Nat.le_max_left _ _
      exact txt_cp hm T hFm H1 ebw_mono e2w_mono y01 (show cd - 2 ≤ 56 by omega) c1 (fun z => ⟨by unfold ebw; exact le_mx (Or.inr (c2 z)), by unfold e2w; exact le_mx (Or.inr (c2 z))⟩) (by rw [ll]; exact a2) (by omega) vv
  have q1 := tyF_vz hm f t Γ Δ S [] ω w he hk1 (go _ _ aq hk1) hS
  rw [vz_no (tyF_ok f t _ Δ S w he hS).1] at q1
  have q2 := (DQu_all DTo_ok.2 UTz_ok.2 UTz_ok.1 m11 dh f t [] ω Γ Δ 0 0 w l1 dv (fun j hj => Nat.le_trans (hω2 j hj) gy0) (by omega) (fun e => by have := ha5 e; omega) (fun e => absurd rfl e) ⟨cu, fun _ => hΔ1⟩ nc).1 rfl
  exact Nat.le_trans q1 (Nat.le_trans q2 R1)
end PmZ1u

section PmHqo
variable {t0 fn s2 hv r0 r1 r2 r3 x0 : Nat} {n1 h : Nat → Nat} {P Q : List (List Nat)} {F G W : FrT} {X : List Nat}
theorem gen_zjo (hn : NC t0 n1 s2 h) (hm : ∀ y y', y ≤ y' → h y ≤ h y') (hh : ∀ y δ, h (y + δ) ≤ h y + δ) (T : TBs 58 t0 fn s2 hv r0 r1 r2 r3 x0 n1 h P Q F G X) (hFm : frm F = true) (hgr : fgc F W hv = true) (hWm : fgm W = true) (hW1 : fg1s W = true) (hW : (1, 0) ∈ frg W 0) (H1 : ∀ y, h y ≤ hv + max 1 y) (s21 : 1 ≤ s2) {f : Nat} {t S b b' B C : Ty} {Γ0 Δ1 : List Ty} {Δ : List (Nat × Ty × Nat)} {a5 ob cd Bd y1 κ wB : Nat} {v : Nat × Nat} (ds : DSp Γ0.length (tAll B C) b' b) (w : TWf f (cxs Δ1 Γ0 b).length (Δ.map (fun a => a.1)) t) (he : TE (cxs Δ1 Γ0 b) Δ) (cu : TNo f t) (hΔ1 : Δ.length ≤ 1) (hm30 : mch t ≤ 30) (hdc : dch Δ ≤ cd) (hcd : cd ≤ 56) (a55 : a5 ≤ 5) (ha5 : Δ ≠ [] → a5 = 0) (hb0 : ∀ a ∈ Γ0, OBs ob a) (hb1 : ∀ a ∈ Δ1, OBs ob a) (hbs : ∀ B' C', ok Γ0.length (tAll B' C') = true → tch C' ≤ tch C → tch (tAll B' C') + tch (tAll B C) + 5 ≤ tch b → tch C' ≤ 40 ∧ lmx xr1 (tch C') ≤ ob ∧ lmx fr1 (tch C') ≤ ob) (q38 : cch Δ1 ≤ 38) (q56 : cch Γ0 ≤ 56) (e1 : max x0 (X.getD (cch Γ0) 0) ≤ y1) (hκ : nz t0 n1 s2 h (onz t0 n1 s2 h Γ0) b' ≤ κ) (hwB : h (nz t0 n1 s2 h (onz t0 n1 s2 h Γ0) B) ≤ wB) (hv1 : xt (Γ0.length + 1) C ≤ v.1) (hv2 : xa t0 n1 s2 hv (Γ0.length + 1) C ≤ v.2) (go : ∀ E Z, AQh t0 n1 s2 h E Z f t [] (onz t0 n1 s2 h (cxs Δ1 Γ0 b)) → HEk t0 n1 s2 h E (cxs Δ1 Γ0 b) (onz t0 n1 s2 h (cxs Δ1 Γ0 b)) → GOk t0 n1 s2 h E f t [] (onz t0 n1 s2 h (cxs Δ1 Γ0 b)) (cxs Δ1 Γ0 b) Δ) (hT : ∀ p, p ≤ v.1 → ∀ u ∈ frg W (cch Δ1), ∃ s : T6, (TiD hv s2 κ wB y1 ob (tch C) p v u s ∧ ∃ w0 ∈ frg F s.2.2.2.2.2, ob + 1 ≤ w0.1) ∧ dpDo F W a5 hv fn s2 r0 r1 r2 r3 s.2.2.1 s.2.2.2.1 s.1 s.2.2.2.2.1 s.2.2.2.2.2 s.1 cd (mch t) ≤ Bd) (hS : tyF f t (cxs Δ1 Γ0 b) Δ = .inr S) : nz t0 n1 s2 h (onz t0 n1 s2 h (cxs Δ1 Γ0 b)) S ≤ Bd := by
  obtain ⟨oc0, oB⟩ := okc_low Δ1 he.1
  obtain ⟨ob', oσ, cσ, nσ, iσ⟩ := ds
  have oC := (ok_all.mp oσ).2
  have l0 := onz_len t0 n1 s2 h Γ0
  have l1 := onz_len t0 n1 s2 h (cxs Δ1 Γ0 b)
  have x01 : x0 ≤ y1 := Nat.le_trans (Nat.le_max_left _ _) e1
  have hω : ∀ j, j < (onz t0 n1 s2 h Γ0).length → vw (onz t0 n1 s2 h Γ0) j ≤ y1 := fun j hj => Nat.le_trans (onz_chars T.1 T.2.1 T.2.2.1 T.2.2.2.1 T.2.2.2.2.1 Γ0 oc0 q56 j (by rw [l0] at hj; exact hj)) (Nat.le_trans (Nat.le_max_right _ _) e1)
  rw [xt_xo] at hv1
  have vC : ∀ z, nz t0 n1 s2 h (z :: onz t0 n1 s2 h Γ0) C ≤ v.2 + (v.1 - xf (Γ0.length + 1) Γ0.length C) * y1 + xf (Γ0.length + 1) Γ0.length C * z := by
    intro z
    have q := nz_xo (t0 := t0) (n1 := n1) (s2 := s2) H1 (t := C) (ω := onz t0 n1 s2 h Γ0) (z := z) (by rw [l0]; exact oC) hω
    rw [l0] at q
    have q2 := Nat.mul_le_mul_right y1 (show xo Γ0.length C ≤ v.1 - xf (Γ0.length + 1) Γ0.length C by omega)
    omega
  have hp : xf (Γ0.length + 1) Γ0.length C ≤ v.1 := by omega
  generalize xf (Γ0.length + 1) Γ0.length C = p at *
  have vA : nz t0 n1 s2 h (onz t0 n1 s2 h Γ0) (tAll B C) ≤ s2 + (v.2 + (v.1 - p) * y1 + p * wB) := by
    rw [nz_all]
    have q := vC (h (nz t0 n1 s2 h (onz t0 n1 s2 h Γ0) B))
    have q2 := Nat.mul_le_mul_left p hwB
    omega
  have vZ : ∀ z, nz t0 n1 s2 h (hzx h z (nz t0 n1 s2 h (onz t0 n1 s2 h Γ0) B) :: onz t0 n1 s2 h Γ0) C ≤ v.2 + (v.1 - p) * y1 + p * max z wB := by
    intro z
    have q := vC (hzx h z (nz t0 n1 s2 h (onz t0 n1 s2 h Γ0) B))
    have q2 : hzx h z (nz t0 n1 s2 h (onz t0 n1 s2 h Γ0) B) ≤ max z wB := by
      unfold hzx
      omega
    have q3 := Nat.mul_le_mul_left p q2
    omega
  have vb : nz t0 n1 s2 h (onz t0 n1 s2 h Γ0) b ≤ κ + (s2 + (v.2 + (v.1 - p) * y1 + p * wB)) := by
    have := nσ t0 n1 s2 h (onz t0 n1 s2 h Γ0)
    omega
  have EA1 : 1 ≤ κ + (s2 + (v.2 + (v.1 - p) * y1 + p * wB)) := by omega
  have h0' : ∀ j, j < (b :: Γ0).length → vw (onz t0 n1 s2 h (b :: Γ0)) j ≤ max y1 (hv + (κ + (s2 + (v.2 + (v.1 - p) * y1 + p * wB)))) := by
    intro j hj
    show vw (h (nz t0 n1 s2 h (onz t0 n1 s2 h Γ0) b) :: onz t0 n1 s2 h Γ0) j ≤ _
    rw [vw_cons, l0]
    by_cases e : j = Γ0.length
    · rw [if_pos e]
      have := H1 (nz t0 n1 s2 h (onz t0 n1 s2 h Γ0) b)
      omega
    · rw [if_neg e]
      rw [List.length_cons] at hj
      exact Nat.le_trans (hω j (by rw [l0]; omega)) (Nat.le_max_left _ _)
  obtain ⟨u, hu, u1, hw⟩ := onz_gr T hgr hW (Nat.le_trans x01 (Nat.le_max_left _ _)) h0' Δ1 he.1 q38
  obtain ⟨s, ⟨⟨k1, k2, k3, k4, k5, k6, k7⟩, k8⟩, R⟩ := hT p hp u hu
  have hw' : ∀ j, j < (cxs Δ1 Γ0 b).length → vw (onz t0 n1 s2 h (cxs Δ1 Γ0 b)) j ≤ s.1 := fun j hj => Nat.le_trans (hw j hj) k1
  have y01 : x0 ≤ s.1 := by
    have a1 := Nat.mul_le_mul_right (max y1 (hv + (κ + (s2 + (v.2 + (v.1 - p) * y1 + p * wB))))) u1
    have a2 := Nat.le_max_left y1 (hv + (κ + (s2 + (v.2 + (v.1 - p) * y1 + p * wB))))
    omega
  have hA2 : HS2 t0 n1 s2 h (ebw F W hv s.1 cd (mch t) s.2.2.1 s.2.2.2.1 s.1 s.2.2.2.2.1) (e2w F W hv s.1 cd (mch t) s.2.2.2.2.2) (onz t0 n1 s2 h Γ0) (tAll B C) := by
    refine ⟨B, C, rfl, fun z => ?_, fun z => ?_⟩
    · refine Nat.le_trans (vZ z) ?_
      have a1 : p * max z wB ≤ s.2.2.2.1 * max z s.1 := Nat.mul_le_mul k3 (by omega)
      unfold ebw
      exact le_mx (Or.inl (le_mx (Or.inl (by omega))))
    · have q4 := Zx_leh T (x := max z s.1) (z := z) (ω := hzx h z (nz t0 n1 s2 h (onz t0 n1 s2 h Γ0) B) :: onz t0 n1 s2 h Γ0) (A := C) (by rw [List.length_cons, l0]; exact oC) (by omega) (by omega) (by omega) (fun j hj => by
        rw [vw_cons]
        by_cases e : j = (onz t0 n1 s2 h Γ0).length
        · rw [if_pos e]
          unfold hzx
          omega
        · rw [if_neg e]
          rw [List.length_cons] at hj
          have q := onz_low (t0 := t0) (n1 := n1) (s2 := s2) (h := h) (Γ0 := Γ0) (β := b) Δ1 (j := j) (by rw [l0] at hj e; omega)
          have q2 := hw' j (by rw [cxs_len]; rw [l0] at hj e; omega)
          rw [q] at q2
          omega)
      have q5 := Zx_ms hFm (x := max z s.1) (s := tch C + 2) (s' := s.2.2.2.2.2 + 2) (by omega) (by omega)
      unfold e2w
      exact le_mx (Or.inl (Nat.le_trans q4 q5))
  have few : ∀ (Γ' : List Ty) (B' C' : Ty), ok Γ'.length (tAll B' C') = true → nz t0 n1 s2 h (onz t0 n1 s2 h Γ') (tAll B' C') ≤ s.1 → tch C' ≤ 40 → lmx xr1 (tch C') ≤ ob → lmx fr1 (tch C') ≤ ob → HS2 t0 n1 s2 h (ebw F W hv s.1 cd (mch t) s.2.2.1 s.2.2.2.1 s.1 s.2.2.2.2.1) (e2w F W hv s.1 cd (mch t) s.2.2.2.2.2) (onz t0 n1 s2 h Γ') (tAll B' C') := by
    intro Γ' B' C' o' q c1 c2 c3
    have l2 := onz_len t0 n1 s2 h Γ'
    have oC' := (ok_all.mp o').2
    refine ⟨B', C', rfl, fun z => ?_, fun z => ?_⟩
    · have a1 := sch_rse (t0 := t0) (n1 := n1) (s2 := s2) hm hh (B := B') (C := C') (ω := onz t0 n1 s2 h Γ') (by rw [l2]; exact o') z
      rw [l2] at a1
      have a2 := Nat.mul_le_mul_right z (Nat.le_trans (xf_lx oC' (by omega)) (Nat.le_trans c2 k4))
      unfold ebw
      omega
    · have q4 := nz_flv (t0 := t0) (n1 := n1) (s2 := s2) hm hh (z := z) _ C' (h (nz t0 n1 s2 h (onz t0 n1 s2 h Γ') B') :: onz t0 n1 s2 h Γ') (hzx h z (nz t0 n1 s2 h (onz t0 n1 s2 h Γ') B') :: onz t0 n1 s2 h Γ') z (Nat.le_refl _) (by rw [List.length_cons, List.length_cons]) (by rw [List.length_cons, l2]; exact oC') (Nat.le_refl _) (fun j hj => by
        rw [vw_cons, vw_cons]
        by_cases e : j = (onz t0 n1 s2 h Γ').length
        · rw [if_pos e, if_pos e]
          unfold hzx
          omega
        · rw [if_neg e, if_neg e]
          omega)
      obtain ⟨w0, hw0, hw1⟩ := k8
      have q5 := Zx_mem (x := max z s.1) (frg F s.2.2.2.2.2) w0 hw0
      have q6 : (frg F s.2.2.2.2.2).foldr (fun u a => max (u.2 + u.1 * max z s.1) a) 0 = Zx F (max z s.1) (s.2.2.2.2.2 + 2) := rfl
      rw [q6] at q5
      have q7 : (flv C' + 1) * max z s.1 ≤ w0.1 * max z s.1 := Nat.mul_le_mul_right _ (by have := flv_lmx oC' (Nat.le_refl _) (by omega); omega)
      have q8 : flv C' * z ≤ flv C' * max z s.1 := Nat.mul_le_mul_left _ (Nat.le_max_left _ _)
      have q9 := Nat.le_max_right z s.1
      rw [Nat.add_mul, Nat.one_mul] at q7
      rw [nz_all] at q
      unfold e2w
      exact le_mx (Or.inl (by omega))
  refine gen_fin6o (a5 := a5) (cd := cd) (wB := s.1) (E0 := s.2.2.1) (p := s.2.2.2.1) (ob := s.2.2.2.2.1) (k := s.2.2.2.2.2) (y := s.1) hn hm T hFm hgr hWm hW1 hW H1 w he l1 cu hΔ1 hm30 hdc hcd a55 ha5 y01 (fun j hj => hw' j (by rw [l1] at hj; exact hj)) (HE_sfy ebw_mono e2w_mono hm hh hn (Nat.le_max_left _ _) he.1 hw' (fun Δ' b1 Γ' e' o9 w9 q => ?_)) go R hS
  have oth : OBs ob b1 → IS2 (fun s' => HS2 t0 n1 s2 h (ebw F W hv s.1 cd (mch t) s.2.2.1 s.2.2.2.1 s.1 s.2.2.2.2.1) (e2w F W hv s.1 cd (mch t) s.2.2.2.2.2) (onz t0 n1 s2 h Γ') s' ∨ ∀ z, nz t0 n1 s2 h (onz t0 n1 s2 h Γ') s' + flv s' * z ≤ ebw F W hv s.1 cd (mch t) s.2.2.1 s.2.2.2.1 s.1 s.2.2.2.2.1 z) b1 := fun c => by
    refine IS2_sch _ Γ'.length b1 (Nat.le_refl _) o9 (fun B' C' o3 n3 d3 => ?_) c
    obtain ⟨c1, c2, c3⟩ := d3 B' C' rfl
    exact Or.inl (few Γ' B' C' o3 (Nat.le_trans (n3 t0 n1 s2 h _) q) c1 c2 c3)
  rcases app_cut Δ1 Δ' e' with m | ⟨m1, m2⟩ | m
  · exact Or.inr (Or.inr (oth (hb1 b1 m)))
  · subst m1
    subst m2
    refine Or.inr (Or.inr (IS2_sch _ Γ'.length b1 (Nat.le_refl _) oB (fun B' C' o3 n3 d3 => ?_) iσ))
    rcases d3 with d3 | ⟨d4, d5, d6, d7⟩
    · rw [d3]
      exact Or.inl hA2
    · obtain ⟨c1, c2, c3⟩ := hbs B' C' d4 d5 d6
      exact Or.inl (few Γ' B' C' o3 (Nat.le_trans (n3 t0 n1 s2 h _) q) c1 c2 c3)
  · exact Or.inr (Or.inr (oth (hb0 b1 m)))
end PmHqo
section PmHqu
variable {t0 fn s2 hv r0 r1 r2 r3 x0 : Nat} {n1 h : Nat → Nat} {P Q : List (List Nat)} {F G W : FrT} {X : List Nat}
theorem gen_zju (hn : NC t0 n1 s2 h) (hm : ∀ y y', y ≤ y' → h y ≤ h y') (hh : ∀ y δ, h (y + δ) ≤ h y + δ) (T : TBs 58 t0 fn s2 hv r0 r1 r2 r3 x0 n1 h P Q F G X) (hFm : frm F = true) (hgr : fgc F W hv = true) (hWm : fgm W = true) (hW1 : fg1s W = true) (hW : (1, 0) ∈ frg W 0) (H1 : ∀ y, h y ≤ hv + max 1 y) (s21 : 1 ≤ s2) {f : Nat} {t S b b' B C : Ty} {Γ0 Δ1 : List Ty} {Δ : List (Nat × Ty × Nat)} {a5 ob cd Bd y1 κ wB : Nat} {v : Nat × Nat} (ds : DSp Γ0.length (tAll B C) b' b) (w : TWf f (cxs Δ1 Γ0 b).length (Δ.map (fun a => a.1)) t) (he : TE (cxs Δ1 Γ0 b) Δ) (cu : TNo f t) (nc : ¬ CFt f t) (m11 : mch t ≤ 11) (hΔ1 : Δ.length ≤ 1) (hm30 : mch t ≤ 30) (hdc : dch Δ ≤ cd) (hcd : cd ≤ 56) (a55 : a5 ≤ 5) (ha5 : Δ ≠ [] → a5 = 0) (hb0 : ∀ a ∈ Γ0, OBs ob a) (hb1 : ∀ a ∈ Δ1, OBs ob a) (hbs : ∀ B' C', ok Γ0.length (tAll B' C') = true → tch C' ≤ tch C → tch (tAll B' C') + tch (tAll B C) + 5 ≤ tch b → tch C' ≤ 40 ∧ lmx xr1 (tch C') ≤ ob ∧ lmx fr1 (tch C') ≤ ob) (q38 : cch Δ1 ≤ 38) (q56 : cch Γ0 ≤ 56) (e1 : max x0 (X.getD (cch Γ0) 0) ≤ y1) (hκ : nz t0 n1 s2 h (onz t0 n1 s2 h Γ0) b' ≤ κ) (hwB : h (nz t0 n1 s2 h (onz t0 n1 s2 h Γ0) B) ≤ wB) (hv1 : xt (Γ0.length + 1) C ≤ v.1) (hv2 : xa t0 n1 s2 hv (Γ0.length + 1) C ≤ v.2) (go : ∀ E Z, AQh t0 n1 s2 h E Z f t [] (onz t0 n1 s2 h (cxs Δ1 Γ0 b)) → HEk t0 n1 s2 h E (cxs Δ1 Γ0 b) (onz t0 n1 s2 h (cxs Δ1 Γ0 b)) → GOk t0 n1 s2 h E f t [] (onz t0 n1 s2 h (cxs Δ1 Γ0 b)) (cxs Δ1 Γ0 b) Δ) (hT : ∀ p, p ≤ v.1 → ∀ u ∈ frg W (cch Δ1), ∃ s : T6, (TiD hv s2 κ wB y1 ob (tch C) p v u s ∧ ∃ w0 ∈ frg F s.2.2.2.2.2, ob + 1 ≤ w0.1) ∧ dpDu F W a5 hv fn s2 r0 r1 r2 r3 s.2.2.1 s.2.2.2.1 s.1 s.2.2.2.2.1 s.2.2.2.2.2 s.1 cd (mch t) ≤ Bd) (hS : tyF f t (cxs Δ1 Γ0 b) Δ = .inr S) : nz t0 n1 s2 h (onz t0 n1 s2 h (cxs Δ1 Γ0 b)) S ≤ Bd := by
  obtain ⟨oc0, oB⟩ := okc_low Δ1 he.1
  obtain ⟨ob', oσ, cσ, nσ, iσ⟩ := ds
  have oC := (ok_all.mp oσ).2
  have l0 := onz_len t0 n1 s2 h Γ0
  have l1 := onz_len t0 n1 s2 h (cxs Δ1 Γ0 b)
  have x01 : x0 ≤ y1 := Nat.le_trans (Nat.le_max_left _ _) e1
  have hω : ∀ j, j < (onz t0 n1 s2 h Γ0).length → vw (onz t0 n1 s2 h Γ0) j ≤ y1 := fun j hj => Nat.le_trans (onz_chars T.1 T.2.1 T.2.2.1 T.2.2.2.1 T.2.2.2.2.1 Γ0 oc0 q56 j (by rw [l0] at hj; exact hj)) (Nat.le_trans (Nat.le_max_right _ _) e1)
  rw [xt_xo] at hv1
  have vC : ∀ z, nz t0 n1 s2 h (z :: onz t0 n1 s2 h Γ0) C ≤ v.2 + (v.1 - xf (Γ0.length + 1) Γ0.length C) * y1 + xf (Γ0.length + 1) Γ0.length C * z := by
    intro z
    have q := nz_xo (t0 := t0) (n1 := n1) (s2 := s2) H1 (t := C) (ω := onz t0 n1 s2 h Γ0) (z := z) (by rw [l0]; exact oC) hω
    rw [l0] at q
    have q2 := Nat.mul_le_mul_right y1 (show xo Γ0.length C ≤ v.1 - xf (Γ0.length + 1) Γ0.length C by omega)
    omega
  have hp : xf (Γ0.length + 1) Γ0.length C ≤ v.1 := by omega
  generalize xf (Γ0.length + 1) Γ0.length C = p at *
  have vA : nz t0 n1 s2 h (onz t0 n1 s2 h Γ0) (tAll B C) ≤ s2 + (v.2 + (v.1 - p) * y1 + p * wB) := by
    rw [nz_all]
    have q := vC (h (nz t0 n1 s2 h (onz t0 n1 s2 h Γ0) B))
    have q2 := Nat.mul_le_mul_left p hwB
    omega
  have vZ : ∀ z, nz t0 n1 s2 h (hzx h z (nz t0 n1 s2 h (onz t0 n1 s2 h Γ0) B) :: onz t0 n1 s2 h Γ0) C ≤ v.2 + (v.1 - p) * y1 + p * max z wB := by
    intro z
    have q := vC (hzx h z (nz t0 n1 s2 h (onz t0 n1 s2 h Γ0) B))
    have q2 : hzx h z (nz t0 n1 s2 h (onz t0 n1 s2 h Γ0) B) ≤ max z wB := by
      unfold hzx
      omega
    have q3 := Nat.mul_le_mul_left p q2
    omega
  have vb : nz t0 n1 s2 h (onz t0 n1 s2 h Γ0) b ≤ κ + (s2 + (v.2 + (v.1 - p) * y1 + p * wB)) := by
    have := nσ t0 n1 s2 h (onz t0 n1 s2 h Γ0)
    omega
  have EA1 : 1 ≤ κ + (s2 + (v.2 + (v.1 - p) * y1 + p * wB)) := by omega
  have h0' : ∀ j, j < (b :: Γ0).length → vw (onz t0 n1 s2 h (b :: Γ0)) j ≤ max y1 (hv + (κ + (s2 + (v.2 + (v.1 - p) * y1 + p * wB)))) := by
    intro j hj
    show vw (h (nz t0 n1 s2 h (onz t0 n1 s2 h Γ0) b) :: onz t0 n1 s2 h Γ0) j ≤ _
    rw [vw_cons, l0]
    by_cases e : j = Γ0.length
    · rw [if_pos e]
      have := H1 (nz t0 n1 s2 h (onz t0 n1 s2 h Γ0) b)
      omega
    · rw [if_neg e]
      rw [List.length_cons] at hj
      exact Nat.le_trans (hω j (by rw [l0]; omega)) (Nat.le_max_left _ _)
  obtain ⟨u, hu, u1, hw⟩ := onz_gr T hgr hW (Nat.le_trans x01 (Nat.le_max_left _ _)) h0' Δ1 he.1 q38
  obtain ⟨s, ⟨⟨k1, k2, k3, k4, k5, k6, k7⟩, k8⟩, R⟩ := hT p hp u hu
  have hw' : ∀ j, j < (cxs Δ1 Γ0 b).length → vw (onz t0 n1 s2 h (cxs Δ1 Γ0 b)) j ≤ s.1 := fun j hj => Nat.le_trans (hw j hj) k1
  have y01 : x0 ≤ s.1 := by
    have a1 := Nat.mul_le_mul_right (max y1 (hv + (κ + (s2 + (v.2 + (v.1 - p) * y1 + p * wB))))) u1
    have a2 := Nat.le_max_left y1 (hv + (κ + (s2 + (v.2 + (v.1 - p) * y1 + p * wB))))
    omega
  have hA2 : HS2 t0 n1 s2 h (ebw F W hv s.1 cd (mch t) s.2.2.1 s.2.2.2.1 s.1 s.2.2.2.2.1) (e2w F W hv s.1 cd (mch t) s.2.2.2.2.2) (onz t0 n1 s2 h Γ0) (tAll B C) := by
    refine ⟨B, C, rfl, fun z => ?_, fun z => ?_⟩
    · refine Nat.le_trans (vZ z) ?_
      have a1 : p * max z wB ≤ s.2.2.2.1 * max z s.1 := Nat.mul_le_mul k3 (by omega)
      unfold ebw
      exact le_mx (Or.inl (le_mx (Or.inl (by omega))))
    · have q4 := Zx_leh T (x := max z s.1) (z := z) (ω := hzx h z (nz t0 n1 s2 h (onz t0 n1 s2 h Γ0) B) :: onz t0 n1 s2 h Γ0) (A := C) (by rw [List.length_cons, l0]; exact oC) (by omega) (by omega) (by omega) (fun j hj => by
        rw [vw_cons]
        by_cases e : j = (onz t0 n1 s2 h Γ0).length
        · rw [if_pos e]
          unfold hzx
          omega
        · rw [if_neg e]
          rw [List.length_cons] at hj
          have q := onz_low (t0 := t0) (n1 := n1) (s2 := s2) (h := h) (Γ0 := Γ0) (β := b) Δ1 (j := j) (by rw [l0] at hj e; omega)
          have q2 := hw' j (by rw [cxs_len]; rw [l0] at hj e; omega)
          rw [q] at q2
          omega)
      have q5 := Zx_ms hFm (x := max z s.1) (s := tch C + 2) (s' := s.2.2.2.2.2 + 2) (by omega) (by omega)
      unfold e2w
      exact le_mx (Or.inl (Nat.le_trans q4 q5))
  have few : ∀ (Γ' : List Ty) (B' C' : Ty), ok Γ'.length (tAll B' C') = true → nz t0 n1 s2 h (onz t0 n1 s2 h Γ') (tAll B' C') ≤ s.1 → tch C' ≤ 40 → lmx xr1 (tch C') ≤ ob → lmx fr1 (tch C') ≤ ob → HS2 t0 n1 s2 h (ebw F W hv s.1 cd (mch t) s.2.2.1 s.2.2.2.1 s.1 s.2.2.2.2.1) (e2w F W hv s.1 cd (mch t) s.2.2.2.2.2) (onz t0 n1 s2 h Γ') (tAll B' C') := by
    intro Γ' B' C' o' q c1 c2 c3
    have l2 := onz_len t0 n1 s2 h Γ'
    have oC' := (ok_all.mp o').2
    refine ⟨B', C', rfl, fun z => ?_, fun z => ?_⟩
    · have a1 := sch_rse (t0 := t0) (n1 := n1) (s2 := s2) hm hh (B := B') (C := C') (ω := onz t0 n1 s2 h Γ') (by rw [l2]; exact o') z
      rw [l2] at a1
      have a2 := Nat.mul_le_mul_right z (Nat.le_trans (xf_lx oC' (by omega)) (Nat.le_trans c2 k4))
      unfold ebw
      omega
    · have q4 := nz_flv (t0 := t0) (n1 := n1) (s2 := s2) hm hh (z := z) _ C' (h (nz t0 n1 s2 h (onz t0 n1 s2 h Γ') B') :: onz t0 n1 s2 h Γ') (hzx h z (nz t0 n1 s2 h (onz t0 n1 s2 h Γ') B') :: onz t0 n1 s2 h Γ') z (Nat.le_refl _) (by rw [List.length_cons, List.length_cons]) (by rw [List.length_cons, l2]; exact oC') (Nat.le_refl _) (fun j hj => by
        rw [vw_cons, vw_cons]
        by_cases e : j = (onz t0 n1 s2 h Γ').length
        · rw [if_pos e, if_pos e]
          unfold hzx
          omega
        · rw [if_neg e, if_neg e]
          omega)
      obtain ⟨w0, hw0, hw1⟩ := k8
      have q5 := Zx_mem (x := max z s.1) (frg F s.2.2.2.2.2) w0 hw0
      have q6 : (frg F s.2.2.2.2.2).foldr (fun u a => max (u.2 + u.1 * max z s.1) a) 0 = Zx F (max z s.1) (s.2.2.2.2.2 + 2) := rfl
      rw [q6] at q5
      have q7 : (flv C' + 1) * max z s.1 ≤ w0.1 * max z s.1 := Nat.mul_le_mul_right _ (by have := flv_lmx oC' (Nat.le_refl _) (by omega); omega)
      have q8 : flv C' * z ≤ flv C' * max z s.1 := Nat.mul_le_mul_left _ (Nat.le_max_left _ _)
      have q9 := Nat.le_max_right z s.1
      rw [Nat.add_mul, Nat.one_mul] at q7
      rw [nz_all] at q
      unfold e2w
      exact le_mx (Or.inl (by omega))
  refine gen_fin6u (a5 := a5) (cd := cd) (wB := s.1) (E0 := s.2.2.1) (p := s.2.2.2.1) (ob := s.2.2.2.2.1) (k := s.2.2.2.2.2) (y := s.1) hn hm T hFm hgr hWm hW1 hW H1 w he l1 cu nc m11 hΔ1 hm30 hdc hcd a55 ha5 y01 (fun j hj => hw' j (by rw [l1] at hj; exact hj)) (HE_sfy ebw_mono e2w_mono hm hh hn (Nat.le_max_left _ _) he.1 hw' (fun Δ' b1 Γ' e' o9 w9 q => ?_)) go R hS
  have oth : OBs ob b1 → IS2 (fun s' => HS2 t0 n1 s2 h (ebw F W hv s.1 cd (mch t) s.2.2.1 s.2.2.2.1 s.1 s.2.2.2.2.1) (e2w F W hv s.1 cd (mch t) s.2.2.2.2.2) (onz t0 n1 s2 h Γ') s' ∨ ∀ z, nz t0 n1 s2 h (onz t0 n1 s2 h Γ') s' + flv s' * z ≤ ebw F W hv s.1 cd (mch t) s.2.2.1 s.2.2.2.1 s.1 s.2.2.2.2.1 z) b1 := fun c => by
    refine IS2_sch _ Γ'.length b1 (Nat.le_refl _) o9 (fun B' C' o3 n3 d3 => ?_) c
    obtain ⟨c1, c2, c3⟩ := d3 B' C' rfl
    exact Or.inl (few Γ' B' C' o3 (Nat.le_trans (n3 t0 n1 s2 h _) q) c1 c2 c3)
  rcases app_cut Δ1 Δ' e' with m | ⟨m1, m2⟩ | m
  · exact Or.inr (Or.inr (oth (hb1 b1 m)))
  · subst m1
    subst m2
    refine Or.inr (Or.inr (IS2_sch _ Γ'.length b1 (Nat.le_refl _) oB (fun B' C' o3 n3 d3 => ?_) iσ))
    rcases d3 with d3 | ⟨d4, d5, d6, d7⟩
    · rw [d3]
      exact Or.inl hA2
    · obtain ⟨c1, c2, c3⟩ := hbs B' C' d4 d5 d6
      exact Or.inl (few Γ' B' C' o3 (Nat.le_trans (n3 t0 n1 s2 h _) q) c1 c2 c3)
  · exact Or.inr (Or.inr (oth (hb0 b1 m)))
end PmHqu
def lno (e : Bool) (L : LnT) (F W : FrT) (hv fn s2 r0 r1 r2 r3 Bd cd m : Nat) : Bool := (lng L 0).all (fun s => if e then Nat.ble (dpDo F W 5 hv fn s2 r0 r1 r2 r3 s.2.2.1 s.2.2.2.1 s.1 s.2.2.2.2.1 s.2.2.2.2.2 s.1 0 m) Bd else Nat.ble (dpDo F W 0 hv fn s2 r0 r1 r2 r3 s.2.2.1 s.2.2.2.1 s.1 s.2.2.2.2.1 s.2.2.2.2.2 s.1 cd m) Bd)
theorem lno_get {e : Bool} {L : LnT} {F W : FrT} {hv fn s2 r0 r1 r2 r3 Bd cd m : Nat} (h : lno e L F W hv fn s2 r0 r1 r2 r3 Bd cd m = true) {s : T6} (hs : s ∈ lng L 0) : (e = false → dpDo F W 0 hv fn s2 r0 r1 r2 r3 s.2.2.1 s.2.2.2.1 s.1 s.2.2.2.2.1 s.2.2.2.2.2 s.1 cd m ≤ Bd) ∧ (e = true → dpDo F W 5 hv fn s2 r0 r1 r2 r3 s.2.2.1 s.2.2.2.1 s.1 s.2.2.2.2.1 s.2.2.2.2.2 s.1 0 m ≤ Bd) := by
  have q := List.all_eq_true.mp h s hs
  cases e with
  | true => exact ⟨(fun e => by cases e), fun _ => Nat.le_of_ble_eq_true q⟩
  | false => exact ⟨fun _ => Nat.le_of_ble_eq_true q, (fun e => by cases e)⟩
section PmHxo
variable {f : Nat} {t b b' B C : Ty} {Γ0 Δ1 : List Ty} {Δ : List (Nat × Ty × Nat)} {e : Bool} {LR LG : LnT} {cd : Nat}
theorem zone_jo {VR VG : FrT} (fR : ∃ v ∈ frg VR (tch C), xt (Γ0.length + 1) C ≤ v.1 ∧ xa 0 (fun _ => 1 + 1) 3 1 (Γ0.length + 1) C ≤ v.2) (fG : ∃ v ∈ frg VG (tch C), xt (Γ0.length + 1) C ≤ v.1 ∧ xa 1 ngc 1 0 (Γ0.length + 1) C ≤ v.2) (lb : LBd Γ0 Δ1 b b' B C) (w : TWf f (cxs Δ1 Γ0 b).length (Δ.map (fun a => a.1)) t) (he : TE (cxs Δ1 Γ0 b) Δ) (hΔ : (e = true ∧ Δ = []) ∨ (e = false ∧ Δ ≠ [])) (cu : TNo f t) (hΔ1 : Δ.length ≤ 1) (ch : CHo f t []) (zR : liz LR VR fr1 fg1 1 3 (kpz fr1 0 (max 1 (fx1.getD (cch Γ0) 0)) (tch b - tch (tAll B C))) (wbz fr1 1 (max 1 (fx1.getD (cch Γ0) 0)) (tch B)) (max 1 (fx1.getD (cch Γ0) 0)) (ojy (tch C) (tch b - tch (tAll B C)) (cch Γ0) (cch Δ1)) (tch C) (cch Δ1) 0 = true) (zG : liz LG VG frq fgq 0 1 (kpz frq 1 (max 1 (fxq.getD (cch Γ0) 0)) (tch b - tch (tAll B C))) (wbz frq 0 (max 1 (fxq.getD (cch Γ0) 0)) (tch B)) (max 1 (fxq.getD (cch Γ0) 0)) (ojy (tch C) (tch b - tch (tAll B C)) (cch Γ0) (cch Δ1)) (tch C) (cch Δ1) 0 = true) (tR : lno e LR fr1 fg1 1 2 3 2 2 2 2 887 cd (mch t) = true) (tG : lno e LG frq fgq 0 1 1 1 3 2 1 597 cd (mch t) = true) (m30 : mch t ≤ 30) (cd56 : cd ≤ 56) (h47 : cch (cxs Δ1 Γ0 b) ≤ 47) (q38 : cch Δ1 ≤ 38) (hb : dch Δ ≤ cd) : NtV (cxs Δ1 Γ0 b) Δ f t 887 597 := by
  obtain ⟨ds, eT, eB, k40, i0, i1⟩ := lb
  obtain ⟨oc0, oB⟩ := okc_low Δ1 he.1
  have ec := cch_cx (Γ0 := Γ0) (β := b) Δ1
  have oσ := ds.2.1
  have oBB := (ok_all.mp oσ).1
  have oC := (ok_all.mp oσ).2
  have pB := tch_pos oBB
  have pC := tch_pos oC
  have cσ := ds.ch
  have pb' := ds.2.2.1
  have eσ := tch_all B C
  have b0 : ∀ a ∈ Γ0, OBs (ojy (tch C) (tch b - tch (tAll B C)) (cch Γ0) (cch Δ1)) a := fun a ha => by
    obtain ⟨d, o1, o2⟩ := okc_mch oc0 ha
    exact OBs_of o1 o2 k40 (i0 a ha) (Nat.le_max_left _ _)
  have b1 : ∀ a ∈ Δ1, OBs (ojy (tch C) (tch b - tch (tAll B C)) (cch Γ0) (cch Δ1)) a := fun a ha => by
    obtain ⟨d, o1, o2⟩ := okc_top Δ1 he.1 a ha
    exact OBs_of o1 o2 k40 (i1 a ha) (Nat.le_trans (Nat.le_max_left _ _) (Nat.le_max_right _ _))
  have bs : ∀ B' C', ok Γ0.length (tAll B' C') = true → tch C' ≤ tch C → tch (tAll B' C') + tch (tAll B C) + 5 ≤ tch b → tch C' ≤ 40 ∧ lmx xr1 (tch C') ≤ ojy (tch C) (tch b - tch (tAll B C)) (cch Γ0) (cch Δ1) ∧ lmx fr1 (tch C') ≤ ojy (tch C) (tch b - tch (tAll B C)) (cch Γ0) (cch Δ1) := by
    intro B' C' o' l1 l2
    have p1 := tch_pos (ok_all.mp o').1
    have e1 := tch_all B' C'
    have m1 := lmx_mono fr1 (show tch C' ≤ min (tch C) (tch b - tch (tAll B C) - 10) by omega)
    have m2 := lmx_xf (tch C') (by omega)
    have m3 : lmx fr1 (min (tch C) (tch b - tch (tAll B C) - 10)) ≤ ojy (tch C) (tch b - tch (tAll B C)) (cch Γ0) (cch Δ1) := Nat.le_trans (Nat.le_max_right _ _) (Nat.le_max_right _ _)
    exact ⟨by omega, by omega, by omega⟩
  have hch : CHo f t (([] : Stk).map Option.isSome) := ch
  refine fun S hS => ⟨fun d => ?_, ?_⟩
  · have T := tbs1 d
    have l0 := onz_len 0 (fun _ => 1 + 1) (2 + 1) (vlr d 1) Γ0
    have hω : ∀ j, j < (onz 0 (fun _ => 1 + 1) (2 + 1) (vlr d 1) Γ0).length → vw (onz 0 (fun _ => 1 + 1) (2 + 1) (vlr d 1) Γ0) j ≤ max 1 (fx1.getD (cch Γ0) 0) := fun j hj => Nat.le_trans (onz_chars (n1 := fun _ => 1 + 1) T.1 T.2.1 T.2.2.1 T.2.2.2.1 T.2.2.2.2.1 Γ0 oc0 (by omega) j (by rw [l0] at hj; exact hj)) (Nat.le_max_right _ _)
    obtain ⟨v, hv, f1, f2⟩ := fR
    have hκ : nz 0 (fun _ => 1 + 1) (2 + 1) (vlr d 1) (onz 0 (fun _ => 1 + 1) (2 + 1) (vlr d 1) Γ0) b' ≤ kpz fr1 0 (max 1 (fx1.getD (cch Γ0) 0)) (tch b - tch (tAll B C)) := by
      unfold kpz
      by_cases q : tch b - tch (tAll B C) = 0
      · rw [if_pos (show Nat.beq (tch b - tch (tAll B C)) 0 = true by rw [q]; rfl)]
        rw [eT (by omega), nz_top]
        exact Nat.le_refl _
      · rw [if_neg (by intro q'; exact q (Nat.eq_of_beq_eq_true q'))]
        exact Nat.le_trans (Zx_le T (x := max 1 (fx1.getD (cch Γ0) 0)) (A := b') (by rw [l0]; exact ds.1) (by omega) (Nat.le_max_left _ _) hω) (Zx_ms fr1_m (by omega) (by omega))
    have hwB : vlr d 1 (nz 0 (fun _ => 1 + 1) (2 + 1) (vlr d 1) (onz 0 (fun _ => 1 + 1) (2 + 1) (vlr d 1) Γ0) B) ≤ wbz fr1 1 (max 1 (fx1.getD (cch Γ0) 0)) (tch B) := by
      have q2 := vlr_one d (nz 0 (fun _ => 1 + 1) (2 + 1) (vlr d 1) (onz 0 (fun _ => 1 + 1) (2 + 1) (vlr d 1) Γ0) B)
      unfold wbz
      by_cases q : tch B = 1
      · rw [if_pos (show Nat.beq (tch B) 1 = true by rw [q]; rfl)]
        rw [eB q, nz_top] at q2 ⊢
        omega
      · rw [if_neg (by intro q'; exact q (Nat.eq_of_beq_eq_true q'))]
        have q3 : nz 0 (fun _ => 1 + 1) (2 + 1) (vlr d 1) (onz 0 (fun _ => 1 + 1) (2 + 1) (vlr d 1) Γ0) B ≤ Zx fr1 (max 1 (fx1.getD (cch Γ0) 0)) (tch B + 2) := Zx_le T (by rw [l0]; exact oBB) (by omega) (Nat.le_max_left _ _) hω
        generalize nz 0 (fun _ => 1 + 1) (2 + 1) (vlr d 1) (onz 0 (fun _ => 1 + 1) (2 + 1) (vlr d 1) Γ0) B = n9 at *
        generalize Zx fr1 (max 1 (fx1.getD (cch Γ0) 0)) (tch B + 2) = z9 at *
        omega
    rcases hΔ with ⟨ee, cΔ⟩ | ⟨ee, cΔ⟩
    · refine gen_zjo (a5 := 5) (cd := 0) (NC_rows d 1) (vlr_mono d 1) (vlr_lip d 1) T fr1_m fg1_ok fg1_m fg1s_1 (by decide) (vlr_one d) (by decide) ds w he cu hΔ1 (by omega) (by rw [cΔ]; exact Nat.le_refl _) (Nat.zero_le _) (Nat.le_refl _) (fun e => absurd cΔ e) b0 b1 bs q38 (by omega) (Nat.le_refl _) hκ hwB f1 f2 (fun E Z aq hE => GH_natc (E := E) (Z := Z) (NC_rows d 1) (vlr_mono d 1) f t [] _ _ Δ w he hch aq (onz_cv (NC_rows d 1) he.1) hE) (fun p hp u hu => ?_) hS
      obtain ⟨s, m, q⟩ := liz_get zR v hv p hp u hu
      exact ⟨s, q, (lno_get tR m).2 ee⟩
    · refine gen_zjo (a5 := 0) (cd := cd) (NC_rows d 1) (vlr_mono d 1) (vlr_lip d 1) T fr1_m fg1_ok fg1_m fg1s_1 (by decide) (vlr_one d) (by decide) ds w he cu hΔ1 (by omega) (by omega) (by omega) (Nat.zero_le _) (fun _ => rfl) b0 b1 bs q38 (by omega) (Nat.le_refl _) hκ hwB f1 f2 (fun E Z aq hE => GH_natc (E := E) (Z := Z) (NC_rows d 1) (vlr_mono d 1) f t [] _ _ Δ w he hch aq (onz_cv (NC_rows d 1) he.1) hE) (fun p hp u hu => ?_) hS
      obtain ⟨s, m, q⟩ := liz_get zR v hv p hp u hu
      exact ⟨s, q, (lno_get tR m).1 ee⟩
  · have T := tbsq
    have l0 := onz_len 1 ngc 1 (fun x => x) Γ0
    have hω : ∀ j, j < (onz 1 ngc 1 (fun x => x) Γ0).length → vw (onz 1 ngc 1 (fun x => x) Γ0) j ≤ max 1 (fxq.getD (cch Γ0) 0) := fun j hj => Nat.le_trans (onz_chars (n1 := ngc) T.1 T.2.1 T.2.2.1 T.2.2.2.1 T.2.2.2.2.1 Γ0 oc0 (by omega) j (by rw [l0] at hj; exact hj)) (Nat.le_max_right _ _)
    obtain ⟨v, hv, f1, f2⟩ := fG
    have hκ : nz 1 ngc 1 (fun x => x) (onz 1 ngc 1 (fun x => x) Γ0) b' ≤ kpz frq 1 (max 1 (fxq.getD (cch Γ0) 0)) (tch b - tch (tAll B C)) := by
      unfold kpz
      by_cases q : tch b - tch (tAll B C) = 0
      · rw [if_pos (show Nat.beq (tch b - tch (tAll B C)) 0 = true by rw [q]; rfl)]
        rw [eT (by omega), nz_top]
        exact Nat.le_refl _
      · rw [if_neg (by intro q'; exact q (Nat.eq_of_beq_eq_true q'))]
        exact Nat.le_trans (Zx_le T (x := max 1 (fxq.getD (cch Γ0) 0)) (A := b') (by rw [l0]; exact ds.1) (by omega) (Nat.le_max_left _ _) hω) (Zx_ms frq_m (by omega) (by omega))
    have hwB : (fun x : Nat => x) (nz 1 ngc 1 (fun x => x) (onz 1 ngc 1 (fun x => x) Γ0) B) ≤ wbz frq 0 (max 1 (fxq.getD (cch Γ0) 0)) (tch B) := by
      show nz 1 ngc 1 (fun x => x) (onz 1 ngc 1 (fun x => x) Γ0) B ≤ _
      unfold wbz
      by_cases q : tch B = 1
      · rw [if_pos (show Nat.beq (tch B) 1 = true by rw [q]; rfl)]
        rw [eB q, nz_top]
        omega
      · rw [if_neg (by intro q'; exact q (Nat.eq_of_beq_eq_true q'))]
        have q3 : nz 1 ngc 1 (fun x => x) (onz 1 ngc 1 (fun x => x) Γ0) B ≤ Zx frq (max 1 (fxq.getD (cch Γ0) 0)) (tch B + 2) := Zx_le T (by rw [l0]; exact oBB) (by omega) (Nat.le_max_left _ _) hω
        generalize nz 1 ngc 1 (fun x => x) (onz 1 ngc 1 (fun x => x) Γ0) B = n9 at *
        generalize Zx frq (max 1 (fxq.getD (cch Γ0) 0)) (tch B + 2) = z9 at *
        omega
    rcases hΔ with ⟨ee, cΔ⟩ | ⟨ee, cΔ⟩
    · refine gen_zjo (a5 := 5) (cd := 0) NC_goals (fun y y' hy => hy) (fun y δ => Nat.le_refl _) T frq_m fgq_ok fgq_m fg1s_q (by decide) (fun y => by show y ≤ 0 + max 1 y; omega) (by decide) ds w he cu hΔ1 (by omega) (by rw [cΔ]; exact Nat.le_refl _) (Nat.zero_le _) (Nat.le_refl _) (fun e => absurd cΔ e) b0 b1 bs q38 (by omega) (Nat.le_refl _) hκ hwB f1 f2 (fun E Z aq hE => GH_natc (E := E) (Z := Z) NC_goals (fun y y' hy => hy) f t [] _ _ Δ w he hch aq (onz_cv NC_goals he.1) hE) (fun p hp u hu => ?_) hS
      obtain ⟨s, m, q⟩ := liz_get zG v hv p hp u hu
      exact ⟨s, q, (lno_get tG m).2 ee⟩
    · refine gen_zjo (a5 := 0) (cd := cd) NC_goals (fun y y' hy => hy) (fun y δ => Nat.le_refl _) T frq_m fgq_ok fgq_m fg1s_q (by decide) (fun y => by show y ≤ 0 + max 1 y; omega) (by decide) ds w he cu hΔ1 (by omega) (by omega) (by omega) (Nat.zero_le _) (fun _ => rfl) b0 b1 bs q38 (by omega) (Nat.le_refl _) hκ hwB f1 f2 (fun E Z aq hE => GH_natc (E := E) (Z := Z) NC_goals (fun y y' hy => hy) f t [] _ _ Δ w he hch aq (onz_cv NC_goals he.1) hE) (fun p hp u hu => ?_) hS
      obtain ⟨s, m, q⟩ := liz_get zG v hv p hp u hu
      exact ⟨s, q, (lno_get tG m).1 ee⟩
end PmHxo
def lnu (e : Bool) (L : LnT) (F W : FrT) (hv fn s2 r0 r1 r2 r3 Bd cd m : Nat) : Bool := (lng L 0).all (fun s => if e then Nat.ble (dpDu F W 5 hv fn s2 r0 r1 r2 r3 s.2.2.1 s.2.2.2.1 s.1 s.2.2.2.2.1 s.2.2.2.2.2 s.1 0 m) Bd else Nat.ble (dpDu F W 0 hv fn s2 r0 r1 r2 r3 s.2.2.1 s.2.2.2.1 s.1 s.2.2.2.2.1 s.2.2.2.2.2 s.1 cd m) Bd)
theorem lnu_get {e : Bool} {L : LnT} {F W : FrT} {hv fn s2 r0 r1 r2 r3 Bd cd m : Nat} (h : lnu e L F W hv fn s2 r0 r1 r2 r3 Bd cd m = true) {s : T6} (hs : s ∈ lng L 0) : (e = false → dpDu F W 0 hv fn s2 r0 r1 r2 r3 s.2.2.1 s.2.2.2.1 s.1 s.2.2.2.2.1 s.2.2.2.2.2 s.1 cd m ≤ Bd) ∧ (e = true → dpDu F W 5 hv fn s2 r0 r1 r2 r3 s.2.2.1 s.2.2.2.1 s.1 s.2.2.2.2.1 s.2.2.2.2.2 s.1 0 m ≤ Bd) := by
  have q := List.all_eq_true.mp h s hs
  cases e with
  | true => exact ⟨(fun e => by cases e), fun _ => Nat.le_of_ble_eq_true q⟩
  | false => exact ⟨fun _ => Nat.le_of_ble_eq_true q, (fun e => by cases e)⟩
section PmHxu
variable {f : Nat} {t b b' B C : Ty} {Γ0 Δ1 : List Ty} {Δ : List (Nat × Ty × Nat)} {e : Bool} {LR LG : LnT} {cd : Nat}
theorem zone_ju {VR VG : FrT} (fR : ∃ v ∈ frg VR (tch C), xt (Γ0.length + 1) C ≤ v.1 ∧ xa 0 (fun _ => 1 + 1) 3 1 (Γ0.length + 1) C ≤ v.2) (fG : ∃ v ∈ frg VG (tch C), xt (Γ0.length + 1) C ≤ v.1 ∧ xa 1 ngc 1 0 (Γ0.length + 1) C ≤ v.2) (lb : LBd Γ0 Δ1 b b' B C) (w : TWf f (cxs Δ1 Γ0 b).length (Δ.map (fun a => a.1)) t) (he : TE (cxs Δ1 Γ0 b) Δ) (hΔ : (e = true ∧ Δ = []) ∨ (e = false ∧ Δ ≠ [])) (cu : TNo f t) (nc : ¬ CFt f t) (m11 : mch t ≤ 11) (hΔ1 : Δ.length ≤ 1) (ch : CHo f t []) (zR : liz LR VR fr1 fg1 1 3 (kpz fr1 0 (max 1 (fx1.getD (cch Γ0) 0)) (tch b - tch (tAll B C))) (wbz fr1 1 (max 1 (fx1.getD (cch Γ0) 0)) (tch B)) (max 1 (fx1.getD (cch Γ0) 0)) (ojy (tch C) (tch b - tch (tAll B C)) (cch Γ0) (cch Δ1)) (tch C) (cch Δ1) 0 = true) (zG : liz LG VG frq fgq 0 1 (kpz frq 1 (max 1 (fxq.getD (cch Γ0) 0)) (tch b - tch (tAll B C))) (wbz frq 0 (max 1 (fxq.getD (cch Γ0) 0)) (tch B)) (max 1 (fxq.getD (cch Γ0) 0)) (ojy (tch C) (tch b - tch (tAll B C)) (cch Γ0) (cch Δ1)) (tch C) (cch Δ1) 0 = true) (tR : lnu e LR fr1 fg1 1 2 3 2 2 2 2 887 cd (mch t) = true) (tG : lnu e LG frq fgq 0 1 1 1 3 2 1 597 cd (mch t) = true) (m30 : mch t ≤ 30) (cd56 : cd ≤ 56) (h47 : cch (cxs Δ1 Γ0 b) ≤ 47) (q38 : cch Δ1 ≤ 38) (hb : dch Δ ≤ cd) : NtV (cxs Δ1 Γ0 b) Δ f t 887 597 := by
  obtain ⟨ds, eT, eB, k40, i0, i1⟩ := lb
  obtain ⟨oc0, oB⟩ := okc_low Δ1 he.1
  have ec := cch_cx (Γ0 := Γ0) (β := b) Δ1
  have oσ := ds.2.1
  have oBB := (ok_all.mp oσ).1
  have oC := (ok_all.mp oσ).2
  have pB := tch_pos oBB
  have pC := tch_pos oC
  have cσ := ds.ch
  have pb' := ds.2.2.1
  have eσ := tch_all B C
  have b0 : ∀ a ∈ Γ0, OBs (ojy (tch C) (tch b - tch (tAll B C)) (cch Γ0) (cch Δ1)) a := fun a ha => by
    obtain ⟨d, o1, o2⟩ := okc_mch oc0 ha
    exact OBs_of o1 o2 k40 (i0 a ha) (Nat.le_max_left _ _)
  have b1 : ∀ a ∈ Δ1, OBs (ojy (tch C) (tch b - tch (tAll B C)) (cch Γ0) (cch Δ1)) a := fun a ha => by
    obtain ⟨d, o1, o2⟩ := okc_top Δ1 he.1 a ha
    exact OBs_of o1 o2 k40 (i1 a ha) (Nat.le_trans (Nat.le_max_left _ _) (Nat.le_max_right _ _))
  have bs : ∀ B' C', ok Γ0.length (tAll B' C') = true → tch C' ≤ tch C → tch (tAll B' C') + tch (tAll B C) + 5 ≤ tch b → tch C' ≤ 40 ∧ lmx xr1 (tch C') ≤ ojy (tch C) (tch b - tch (tAll B C)) (cch Γ0) (cch Δ1) ∧ lmx fr1 (tch C') ≤ ojy (tch C) (tch b - tch (tAll B C)) (cch Γ0) (cch Δ1) := by
    intro B' C' o' l1 l2
    have p1 := tch_pos (ok_all.mp o').1
    have e1 := tch_all B' C'
    have m1 := lmx_mono fr1 (show tch C' ≤ min (tch C) (tch b - tch (tAll B C) - 10) by omega)
    have m2 := lmx_xf (tch C') (by omega)
    have m3 : lmx fr1 (min (tch C) (tch b - tch (tAll B C) - 10)) ≤ ojy (tch C) (tch b - tch (tAll B C)) (cch Γ0) (cch Δ1) := Nat.le_trans (Nat.le_max_right _ _) (Nat.le_max_right _ _)
    exact ⟨by omega, by omega, by omega⟩
  have hch : CHo f t (([] : Stk).map Option.isSome) := ch
  refine fun S hS => ⟨fun d => ?_, ?_⟩
  · have T := tbs1 d
    have l0 := onz_len 0 (fun _ => 1 + 1) (2 + 1) (vlr d 1) Γ0
    have hω : ∀ j, j < (onz 0 (fun _ => 1 + 1) (2 + 1) (vlr d 1) Γ0).length → vw (onz 0 (fun _ => 1 + 1) (2 + 1) (vlr d 1) Γ0) j ≤ max 1 (fx1.getD (cch Γ0) 0) := fun j hj => Nat.le_trans (onz_chars (n1 := fun _ => 1 + 1) T.1 T.2.1 T.2.2.1 T.2.2.2.1 T.2.2.2.2.1 Γ0 oc0 (by omega) j (by rw [l0] at hj; exact hj)) (Nat.le_max_right _ _)
    obtain ⟨v, hv, f1, f2⟩ := fR
    have hκ : nz 0 (fun _ => 1 + 1) (2 + 1) (vlr d 1) (onz 0 (fun _ => 1 + 1) (2 + 1) (vlr d 1) Γ0) b' ≤ kpz fr1 0 (max 1 (fx1.getD (cch Γ0) 0)) (tch b - tch (tAll B C)) := by
      unfold kpz
      by_cases q : tch b - tch (tAll B C) = 0
      · rw [if_pos (show Nat.beq (tch b - tch (tAll B C)) 0 = true by rw [q]; rfl)]
        rw [eT (by omega), nz_top]
        exact Nat.le_refl _
      · rw [if_neg (by intro q'; exact q (Nat.eq_of_beq_eq_true q'))]
        exact Nat.le_trans (Zx_le T (x := max 1 (fx1.getD (cch Γ0) 0)) (A := b') (by rw [l0]; exact ds.1) (by omega) (Nat.le_max_left _ _) hω) (Zx_ms fr1_m (by omega) (by omega))
    have hwB : vlr d 1 (nz 0 (fun _ => 1 + 1) (2 + 1) (vlr d 1) (onz 0 (fun _ => 1 + 1) (2 + 1) (vlr d 1) Γ0) B) ≤ wbz fr1 1 (max 1 (fx1.getD (cch Γ0) 0)) (tch B) := by
      have q2 := vlr_one d (nz 0 (fun _ => 1 + 1) (2 + 1) (vlr d 1) (onz 0 (fun _ => 1 + 1) (2 + 1) (vlr d 1) Γ0) B)
      unfold wbz
      by_cases q : tch B = 1
      · rw [if_pos (show Nat.beq (tch B) 1 = true by rw [q]; rfl)]
        rw [eB q, nz_top] at q2 ⊢
        omega
      · rw [if_neg (by intro q'; exact q (Nat.eq_of_beq_eq_true q'))]
        have q3 : nz 0 (fun _ => 1 + 1) (2 + 1) (vlr d 1) (onz 0 (fun _ => 1 + 1) (2 + 1) (vlr d 1) Γ0) B ≤ Zx fr1 (max 1 (fx1.getD (cch Γ0) 0)) (tch B + 2) := Zx_le T (by rw [l0]; exact oBB) (by omega) (Nat.le_max_left _ _) hω
        generalize nz 0 (fun _ => 1 + 1) (2 + 1) (vlr d 1) (onz 0 (fun _ => 1 + 1) (2 + 1) (vlr d 1) Γ0) B = n9 at *
        generalize Zx fr1 (max 1 (fx1.getD (cch Γ0) 0)) (tch B + 2) = z9 at *
        omega
    rcases hΔ with ⟨ee, cΔ⟩ | ⟨ee, cΔ⟩
    · refine gen_zju (a5 := 5) (cd := 0) (NC_rows d 1) (vlr_mono d 1) (vlr_lip d 1) T fr1_m fg1_ok fg1_m fg1s_1 (by decide) (vlr_one d) (by decide) ds w he cu nc m11 hΔ1 (by omega) (by rw [cΔ]; exact Nat.le_refl _) (Nat.zero_le _) (Nat.le_refl _) (fun e => absurd cΔ e) b0 b1 bs q38 (by omega) (Nat.le_refl _) hκ hwB f1 f2 (fun E Z aq hE => GH_natc (E := E) (Z := Z) (NC_rows d 1) (vlr_mono d 1) f t [] _ _ Δ w he hch aq (onz_cv (NC_rows d 1) he.1) hE) (fun p hp u hu => ?_) hS
      obtain ⟨s, m, q⟩ := liz_get zR v hv p hp u hu
      exact ⟨s, q, (lnu_get tR m).2 ee⟩
    · refine gen_zju (a5 := 0) (cd := cd) (NC_rows d 1) (vlr_mono d 1) (vlr_lip d 1) T fr1_m fg1_ok fg1_m fg1s_1 (by decide) (vlr_one d) (by decide) ds w he cu nc m11 hΔ1 (by omega) (by omega) (by omega) (Nat.zero_le _) (fun _ => rfl) b0 b1 bs q38 (by omega) (Nat.le_refl _) hκ hwB f1 f2 (fun E Z aq hE => GH_natc (E := E) (Z := Z) (NC_rows d 1) (vlr_mono d 1) f t [] _ _ Δ w he hch aq (onz_cv (NC_rows d 1) he.1) hE) (fun p hp u hu => ?_) hS
      obtain ⟨s, m, q⟩ := liz_get zR v hv p hp u hu
      exact ⟨s, q, (lnu_get tR m).1 ee⟩
  · have T := tbsq
    have l0 := onz_len 1 ngc 1 (fun x => x) Γ0
    have hω : ∀ j, j < (onz 1 ngc 1 (fun x => x) Γ0).length → vw (onz 1 ngc 1 (fun x => x) Γ0) j ≤ max 1 (fxq.getD (cch Γ0) 0) := fun j hj => Nat.le_trans (onz_chars (n1 := ngc) T.1 T.2.1 T.2.2.1 T.2.2.2.1 T.2.2.2.2.1 Γ0 oc0 (by omega) j (by rw [l0] at hj; exact hj)) (Nat.le_max_right _ _)
    obtain ⟨v, hv, f1, f2⟩ := fG
    have hκ : nz 1 ngc 1 (fun x => x) (onz 1 ngc 1 (fun x => x) Γ0) b' ≤ kpz frq 1 (max 1 (fxq.getD (cch Γ0) 0)) (tch b - tch (tAll B C)) := by
      unfold kpz
      by_cases q : tch b - tch (tAll B C) = 0
      · rw [if_pos (show Nat.beq (tch b - tch (tAll B C)) 0 = true by rw [q]; rfl)]
        rw [eT (by omega), nz_top]
        exact Nat.le_refl _
      · rw [if_neg (by intro q'; exact q (Nat.eq_of_beq_eq_true q'))]
        exact Nat.le_trans (Zx_le T (x := max 1 (fxq.getD (cch Γ0) 0)) (A := b') (by rw [l0]; exact ds.1) (by omega) (Nat.le_max_left _ _) hω) (Zx_ms frq_m (by omega) (by omega))
    have hwB : (fun x : Nat => x) (nz 1 ngc 1 (fun x => x) (onz 1 ngc 1 (fun x => x) Γ0) B) ≤ wbz frq 0 (max 1 (fxq.getD (cch Γ0) 0)) (tch B) := by
      show nz 1 ngc 1 (fun x => x) (onz 1 ngc 1 (fun x => x) Γ0) B ≤ _
      unfold wbz
      by_cases q : tch B = 1
      · rw [if_pos (show Nat.beq (tch B) 1 = true by rw [q]; rfl)]
        rw [eB q, nz_top]
        omega
      · rw [if_neg (by intro q'; exact q (Nat.eq_of_beq_eq_true q'))]
        have q3 : nz 1 ngc 1 (fun x => x) (onz 1 ngc 1 (fun x => x) Γ0) B ≤ Zx frq (max 1 (fxq.getD (cch Γ0) 0)) (tch B + 2) := Zx_le T (by rw [l0]; exact oBB) (by omega) (Nat.le_max_left _ _) hω
        generalize nz 1 ngc 1 (fun x => x) (onz 1 ngc 1 (fun x => x) Γ0) B = n9 at *
        generalize Zx frq (max 1 (fxq.getD (cch Γ0) 0)) (tch B + 2) = z9 at *
        omega
    rcases hΔ with ⟨ee, cΔ⟩ | ⟨ee, cΔ⟩
    · refine gen_zju (a5 := 5) (cd := 0) NC_goals (fun y y' hy => hy) (fun y δ => Nat.le_refl _) T frq_m fgq_ok fgq_m fg1s_q (by decide) (fun y => by show y ≤ 0 + max 1 y; omega) (by decide) ds w he cu nc m11 hΔ1 (by omega) (by rw [cΔ]; exact Nat.le_refl _) (Nat.zero_le _) (Nat.le_refl _) (fun e => absurd cΔ e) b0 b1 bs q38 (by omega) (Nat.le_refl _) hκ hwB f1 f2 (fun E Z aq hE => GH_natc (E := E) (Z := Z) NC_goals (fun y y' hy => hy) f t [] _ _ Δ w he hch aq (onz_cv NC_goals he.1) hE) (fun p hp u hu => ?_) hS
      obtain ⟨s, m, q⟩ := liz_get zG v hv p hp u hu
      exact ⟨s, q, (lnu_get tG m).2 ee⟩
    · refine gen_zju (a5 := 0) (cd := cd) NC_goals (fun y y' hy => hy) (fun y δ => Nat.le_refl _) T frq_m fgq_ok fgq_m fg1s_q (by decide) (fun y => by show y ≤ 0 + max 1 y; omega) (by decide) ds w he cu nc m11 hΔ1 (by omega) (by omega) (by omega) (Nat.zero_le _) (fun _ => rfl) b0 b1 bs q38 (by omega) (Nat.le_refl _) hκ hwB f1 f2 (fun E Z aq hE => GH_natc (E := E) (Z := Z) NC_goals (fun y y' hy => hy) f t [] _ _ Δ w he hch aq (onz_cv NC_goals he.1) hE) (fun p hp u hu => ?_) hS
      obtain ⟨s, m, q⟩ := liz_get zG v hv p hp u hu
      exact ⟨s, q, (lnu_get tG m).1 ee⟩
end PmHxu
