/-! BOTH TERMS WITHOUT A CHOICE: their sum, heads counted exactly. -/
def mxl (f : Nat → Nat) : Nat → Nat
  | 0 => 0
  | n + 1 => max (f n) (mxl f n)
theorem mxl_ge {f : Nat → Nat} : ∀ {n s : Nat}, s < n → f s ≤ mxl f n
  | n + 1, s, hs => by
    show f s ≤ max (f n) (mxl f n)
    by_cases e : s = n
    · rw [e]; exact Nat.le_max_left _ _
    · exact Nat.le_trans (mxl_ge (n := n) (by omega)) (Nat.le_max_right _ _)
/-- values at most y in the context; places by cv -/
def smH2 (P : List (List Nat)) (F : FrT) (x EA p EB p2 X7 b c m Bd : Nat) : Bool := natH P (hdh X7 EA p EB p2 (Zx F x)) b c m Bd
def smH1 (P : List (List Nat)) (F : FrT) (X : List Nat) (x0 y cv EA k g ob b cd m Bd : Nat) : Bool := Nat.ble (cv + g) 56 && (Nat.ble (cv + cd + 2 * m) 58 && (Nat.ble x0 (X.getD (cv + g) 0) && smH2 P F (X.getD (cv + g) 0) EA (lmx fr1 k) (max y (mxl (Zx F (X.getD (cv + g) 0)) (m + 1))) (max (lmx fr1 (m - 2)) ob) (max y (mxl (Zx F (X.getD (cv + g) 0)) (m - 2))) b (cv + cd) m Bd))
/-- the scheme has k characters and is worth va, r1 before, r2 behind, g around arguments, other schemes of at most ob leaves -/
def smH (P : List (List Nat)) (F W : FrT) (X : List Nat) (x0 va k r1 r2 g ob b cd m Bd : Nat) : Bool := (frg W r2).all (fun e => (frg F k).all (fun v => smH1 P F X x0 (e.2 + e.1 * max (max x0 (X.getD r1 0)) va) (lstX X (e.2 + e.1 * max (max x0 (X.getD r1 0)) va)) (v.2 + v.1 * max x0 (X.getD r1 0)) k g ob b cd m Bd))
section PmUp
variable {N t0 fn s2 hv r0 r1 r2 r3 x0 va : Nat} {n1 h : Nat → Nat} {P Q : List (List Nat)} {F G W : FrT} {X : List Nat} {B C Dm : Ty} {Γ0 : List Ty}
theorem sm_gen (hn : NC t0 n1 s2 h) (hm : ∀ y y', y ≤ y' → h y ≤ h y') (hh : ∀ y δ, h (y + δ) ≤ h y + δ) (T : TBs 58 t0 fn s2 hv r0 r1 r2 r3 x0 n1 h P Q F G X) (hx : PXk 58 P F X fn s2 r1 = true) (h21 : r2 ≤ r1) (h32 : r3 ≤ r2) (hgr : fgc F W hv = true) (hW : (1, 0) ∈ frg W 0) {f : Nat} {t S : Ty} {Δ1 : List Ty} {Δ : List (Nat × Ty × Nat)} {g ob cd Bd : Nat} (w : TWf f (cxs Δ1 Γ0 (tAll B C)).length (Δ.map (fun a => a.1)) t) (he : TE (cxs Δ1 Γ0 (tAll B C)) Δ) (oD : ok (Γ0.length + 1) Dm = true) (vD : h (nz t0 n1 s2 h (onz t0 n1 s2 h Γ0) (tAll B Dm)) ≤ va) (co : CFt f t) (nq : NQk f t 0) (hk : tch (tAll B C) ≤ 56) (hm17 : mch t ≤ 17) (hg : hasq f t = true → gqk f t ≤ g) (hb0 : ∀ b ∈ Γ0, nsch b = true ∨ flv b ≤ ob) (hb1 : ∀ b ∈ Δ1, nsch b = true ∨ flv b ≤ ob) (hr : cch Γ0 ≤ 56) (hr2 : cch Δ1 ≤ 38) (hdc : dch Δ ≤ cd) (hcd : 2 ≤ cd) (hR : smH P F W X x0 va (tch (tAll B C)) (cch Γ0) (cch Δ1) g ob (bqk f t 0) cd (mch t) Bd = true) (hS : tyF f t (cxs Δ1 Γ0 (tAll B C)) Δ = .inr S) : nz t0 n1 s2 h (onz t0 n1 s2 h (cxs Δ1 Γ0 (tAll B Dm))) S ≤ Bd := by
  obtain ⟨oc0, oA⟩ := okc_low Δ1 he.1
  have o2 := cxd_okc oD Δ1 he.1
  have l0 := onz_len t0 n1 s2 h Γ0
  have hω : ∀ j, j < (onz t0 n1 s2 h Γ0).length → vw (onz t0 n1 s2 h Γ0) j ≤ max x0 (X.getD (cch Γ0) 0) := fun j hj => Nat.le_trans (onz_chars T.1 T.2.1 T.2.2.1 T.2.2.2.1 T.2.2.2.2.1 Γ0 oc0 hr j (by rw [l0] at hj; exact hj)) (Nat.le_max_right _ _)
  obtain ⟨v, hv', c2⟩ := val_any T (A := tAll B C) (ω := onz t0 n1 s2 h Γ0) (y := max x0 (X.getD (cch Γ0) 0)) (by rw [l0]; exact oA) hk (Nat.le_max_left _ _) hω
  have h0' : ∀ j, j < (tAll B Dm :: Γ0).length → vw (onz t0 n1 s2 h (tAll B Dm :: Γ0)) j ≤ max (max x0 (X.getD (cch Γ0) 0)) va := by
    intro j hj
    show vw (h (nz t0 n1 s2 h (onz t0 n1 s2 h Γ0) (tAll B Dm)) :: onz t0 n1 s2 h Γ0) j ≤ _
    rw [vw_cons, l0]
    by_cases e : j = Γ0.length
    · rw [if_pos e]
      exact Nat.le_trans vD (Nat.le_max_right _ _)
    · rw [if_neg e]
      rw [List.length_cons] at hj
      exact Nat.le_trans (hω j (by rw [l0]; omega)) (Nat.le_max_left _ _)
  obtain ⟨e, he', e1, hw⟩ := onz_gr T hgr hW (Nat.le_trans (Nat.le_max_left x0 _) (Nat.le_max_left _ va)) h0' Δ1 o2 hr2
  unfold smH at hR
  have R1 := List.all_eq_true.mp (List.all_eq_true.mp hR e he') v hv'
  clear hR hv' he'
  generalize max (max x0 (X.getD (cch Γ0) 0)) va = y0 at *
  generalize max x0 (X.getD (cch Γ0) 0) = y1 at *
  have lk := lstX_ok (X := X) (y := e.2 + e.1 * y0)
  generalize e.2 + e.1 * y0 = y at *
  generalize lstX X y = cv at *
  unfold smH1 smH2 at R1
  rw [Bool.and_eq_true, Bool.and_eq_true, Bool.and_eq_true] at R1
  obtain ⟨n1', n2', n3', n4'⟩ := R1
  have n1' := Nat.le_of_ble_eq_true n1'
  have n2' := Nat.le_of_ble_eq_true n2'
  have n3' := Nat.le_of_ble_eq_true n3'
  have lk := lk (by omega)
  refine natH_le n4' hm17 (free_BGh (L := cv + g) (pb := lmx fr1 (tch (tAll B C))) hm hh T hx h21 h32 (Nat.le_refl _) w he co nq hS hdc hcd n2' n1' (fun c => by have := hg c; omega) n3' (fun s hs => ?_) (fun s hs => ?_) (fun A d o ht => ?_) (fun j hj => Nat.le_trans (hw j hj) lk) ?_)
  · exact Nat.le_trans (mxl_ge (f := Zx F (X.getD (cv + g) 0)) (n := mch t - 2) (by omega)) (Nat.le_max_right _ _)
  · exact Nat.le_trans (mxl_ge (f := Zx F (X.getD (cv + g) 0)) (n := mch t + 1) (by omega)) (Nat.le_max_right _ _)
  · exact Nat.le_trans (flv_lmx o (by omega) (by omega)) (Nat.le_max_left _ _)
  · have fA := flv_lmx oA (Nat.le_refl _) hk
    refine BEh_cut (y := y) hn (Nat.le_max_left _ _) ⟨c2, fA, fun z => ?_⟩ (fun b hb => ?_) Δ1 hw (fun b hb => ?_)
    · have q := all_z (t0 := t0) (n1 := n1) (s2 := s2) hm hh (ω := onz t0 n1 s2 h Γ0) (by rw [l0]; exact oA) z
      exact Nat.le_trans q (Nat.add_le_add c2 (Nat.mul_le_mul_right z fA))
    · exact (hb0 b hb).imp id (fun c => ⟨Nat.le_max_left _ _, Nat.le_trans c (Nat.le_max_right _ _)⟩)
    · exact (hb1 b hb).imp id (fun c => ⟨Nat.le_max_left _ _, Nat.le_trans c (Nat.le_max_right _ _)⟩)
end PmUp
