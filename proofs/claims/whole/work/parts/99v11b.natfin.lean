/-! BY NATURE, the place of the greatest value given. -/
/-- rows of the table go up -/
def frm (F : FrT) : Bool := (List.range 56).all (fun r => (frg F r).all (fun e => dom e.1 e.2 (frg F (r + 1))))
theorem frm_le {F : FrT} (h : frm F = true) {r : Nat} : ∀ {q : Nat} {e : Nat × Nat}, r ≤ q → q ≤ 56 → e ∈ frg F r → ∃ e' ∈ frg F q, e.1 ≤ e'.1 ∧ e.2 ≤ e'.2
  | 0, e, h1, _, he => by
    have : r = 0 := by omega
    subst this
    exact ⟨e, he, Nat.le_refl _, Nat.le_refl _⟩
  | q + 1, e, h1, h2, he => by
    by_cases c : r = q + 1
    · subst c
      exact ⟨e, he, Nat.le_refl _, Nat.le_refl _⟩
    · obtain ⟨e', he', g1, g2⟩ := frm_le h (q := q) (by omega) (by omega) he
      unfold frm at h
      obtain ⟨e2, he2, k1, k2⟩ := dom_ex (List.all_eq_true.mp (rng_all h (i := q) (by omega)) e' he')
      exact ⟨e2, he2, by omega, by omega⟩
theorem Zx_top {x R : Nat} : ∀ (l : List (Nat × Nat)), (∀ u ∈ l, u.2 + u.1 * x ≤ R) → l.foldr (fun u a => max (u.2 + u.1 * x) a) 0 ≤ R
  | [], _ => Nat.zero_le _
  | a :: l, h => by
    rw [List.foldr_cons]
    have h1 := h a (List.mem_cons_self ..)
    have h2 := Zx_top l (fun u hu => h u (List.mem_cons_of_mem _ hu))
    omega
theorem Zx_ms {F : FrT} (h : frm F = true) {x s s' : Nat} (hs : s ≤ s') (h2 : s' ≤ 58) : Zx F x s ≤ Zx F x s' := by
  unfold Zx
  refine Zx_top _ (fun u hu => ?_)
  obtain ⟨u', hu', g1, g2⟩ := frm_le h (show s - 2 ≤ s' - 2 by omega) (by omega) hu
  have := Nat.mul_le_mul_right x g1
  exact Nat.le_trans (by omega) (Zx_mem _ u' hu')
theorem fr1_m : frm fr1 = true := by decide +kernel
theorem frq_m : frm frq = true := by decide +kernel
def eby (F : FrT) (hv y m E0 p wB ob z : Nat) : Nat := max (max (E0 + p * max z wB) (y + ob * z)) (Zx F (max (max z y) (hv + max 1 (Zx F y (m - 5)))) (m - 5))
theorem eby_mono {F : FrT} {hv y m E0 p wB ob : Nat} (z z' : Nat) (h : z ≤ z') : eby F hv y m E0 p wB ob z ≤ eby F hv y m E0 p wB ob z' := by
  have h1 := Zx_mono (F := F) (show max (max z y) (hv + max 1 (Zx F y (m - 5))) ≤ max (max z' y) (hv + max 1 (Zx F y (m - 5))) by omega) (m - 5)
  have h2 := Nat.mul_le_mul_left p (show max z wB ≤ max z' wB by omega)
  have h3 := Nat.mul_le_mul_left ob h
  unfold eby
  omega
/-- every list of n heads with s characters in all is worth at most R, V besides -/
def hcl (hd : Nat → Nat) (R : Nat) : Nat → Nat → Nat → Bool
  | 0, _, V => Nat.ble V R
  | 1, s, V => Nat.blt s 3 || Nat.ble (V + hd s) R
  | n + 2, s, V => (List.range (s + 1)).all (fun x => Nat.blt x 3 || (Nat.blt (s - x) 3 || hcl hd R (n + 1) (s - x) (V + hd x)))
theorem blt_no {x y : Nat} (h : y ≤ x) (hb : Nat.blt x y = true) : False := by
  have hb : Nat.ble (x + 1) y = true := hb
  have := Nat.le_of_ble_eq_true hb
  omega
theorem hcl_le {hd : Nat → Nat} {R : Nat} : ∀ (l : List Nat) (V : Nat), (∀ x ∈ l, 3 ≤ x) → hcl hd R l.length l.sum V = true → V + (l.map hd).sum ≤ R
  | [], V, _, h => by
    have h : Nat.ble V R = true := h
    have := Nat.le_of_ble_eq_true h
    simpa using this
  | [x], V, hx, h => by
    have x3 := hx x (List.mem_singleton.mpr rfl)
    have h : (Nat.blt (x + 0) 3 || Nat.ble (V + hd (x + 0)) R) = true := h
    rw [Nat.add_zero, Bool.or_eq_true] at h
    rcases h with h | h
    · exact (blt_no x3 h).elim
    · have := Nat.le_of_ble_eq_true h
      simpa using this
  | x :: y :: l, V, hx, h => by
    have x3 := hx x (List.mem_cons_self ..)
    have y3 := hx y (List.mem_cons_of_mem _ (List.mem_cons_self ..))
    have h : (List.range ((x :: y :: l).sum + 1)).all (fun z => Nat.blt z 3 || (Nat.blt ((x :: y :: l).sum - z) 3 || hcl hd R (y :: l).length ((x :: y :: l).sum - z) (V + hd z))) = true := h
    rw [List.sum_cons] at h
    have hs : y ≤ (y :: l).sum := by rw [List.sum_cons]; omega
    have q := List.all_eq_true.mp h x (List.mem_range.mpr (by omega))
    rw [show x + (y :: l).sum - x = (y :: l).sum by omega, Bool.or_eq_true, Bool.or_eq_true] at q
    rcases q with q | q | q
    · exact (blt_no x3 q).elim
    · exact (blt_no (by omega) q).elim
    · have ih := hcl_le (y :: l) (V + hd x) (fun z hz => hx z (List.mem_cons_of_mem _ hz)) q
      rw [List.map_cons, List.sum_cons]
      omega
/-- the budget is at most R -/
def natL (P : List (List Nat)) (hd : Nat → Nat) (c m R : Nat) : Bool := Nat.ble (pg0 P c m) R && (List.range 4).all (fun n => Nat.beq n 0 || (Nat.blt (m + 2) (5 * n) || (List.range (m + 1)).all (fun s => Nat.blt s (3 * n) || (Nat.beq (m - s) 1 || hcl hd R n s (pg0 P c (m - s))))))
theorem natL_le {P : List (List Nat)} {hd : Nat → Nat} {b c m R v : Nat} (h : natL P hd c m R = true) (hm : m ≤ 17) (g : BGh P hd b c m v) : v ≤ R := by
  obtain ⟨n, s, V, ⟨l, l1, l2, l3, l4⟩, a1, a2, a3, a4, a5, a6⟩ := g
  unfold natL at h
  rw [Bool.and_eq_true] at h
  obtain ⟨h1, h2⟩ := h
  by_cases e : n = 0
  · have e2 := a4 e
    have e3 := Nat.le_of_ble_eq_true h1
    have e4 : l = [] := List.eq_nil_of_length_eq_zero (by omega)
    rw [e4] at l4
    have l4 : V = 0 := l4
    rw [e2, Nat.sub_zero, l4] at a6
    omega
  · have q := List.all_eq_true.mp h2 n (List.mem_range.mpr (by omega))
    rw [Bool.or_eq_true] at q
    rcases q with q | q
    · exact absurd (Nat.eq_of_beq_eq_true q) e
    rw [Bool.or_eq_true] at q
    rcases q with q | q
    · exact (blt_no a3 q).elim
    have q := List.all_eq_true.mp q s (List.mem_range.mpr (by omega))
    rw [Bool.or_eq_true, Bool.or_eq_true] at q
    rcases q with q | q | q
    · exact (blt_no a2 q).elim
    · exact absurd (Nat.eq_of_beq_eq_true q) (a5 (by omega))
    · rw [← l1, ← l2] at q
      have q2 := hcl_le l _ l3 q
      rw [l2] at q2
      omega
def smY1 (P : List (List Nat)) (F : FrT) (X : List Nat) (hv E0 p wB ob y cv cd m Bd : Nat) : Bool := Nat.ble y (X.getD cv 0) && (Nat.ble (cv + cd + 2 * m) 58 && natL P (hdg (max y (Zx F y (m - 3))) (eby F hv y m E0 p wB ob) (Zx F y)) (cv + cd) m Bd)
section PmVr
variable {t0 fn s2 hv r0 r1 r2 r3 x0 : Nat} {n1 h : Nat → Nat} {P Q : List (List Nat)} {F G W : FrT} {X : List Nat} {B C : Ty} {Γ0 : List Ty}
/-- values at most y, the long scheme an E0 + p * z -/
theorem nat_fin2 (hn : NC t0 n1 s2 h) (hm : ∀ y y', y ≤ y' → h y ≤ h y') (hh : ∀ y δ, h (y + δ) ≤ h y + δ) (T : TBs 58 t0 fn s2 hv r0 r1 r2 r3 x0 n1 h P Q F G X) (hx : PXk 58 P F X fn s2 r1 = true) (hFm : frm F = true) (h21 : r2 ≤ r1) (h32 : r3 ≤ r2) (H1 : ∀ y, h y ≤ hv + max 1 y) {f : Nat} {t S : Ty} {Δ1 : List Ty} {Δ : List (Nat × Ty × Nat)} {ob cd wB Bd y E0 p cv : Nat} (w : TWf f (cxs Δ1 Γ0 (tAll B C)).length (Δ.map (fun a => a.1)) t) (he : TE (cxs Δ1 Γ0 (tAll B C)) Δ) (co : COk f t 0) (nq : NQk f t 0) (hg : hasq f t = true → gqk f t = 0) (hm17 : mch t ≤ 17) (hb0 : ∀ b ∈ Γ0, nsch b = true ∨ flv b ≤ ob) (hb1 : ∀ b ∈ Δ1, nsch b = true ∨ flv b ≤ ob) (hdc : dch Δ ≤ cd) (hcd : 2 ≤ cd) (y01 : x0 ≤ y) (hw : ∀ j, j < (cxs Δ1 Γ0 (tAll B C)).length → vw (onz t0 n1 s2 h (cxs Δ1 Γ0 (tAll B C))) j ≤ y) (vZ : ∀ z, nz t0 n1 s2 h (hzx h z (nz t0 n1 s2 h (onz t0 n1 s2 h Γ0) B) :: onz t0 n1 s2 h Γ0) C ≤ E0 + p * max z wB) (R1 : smY1 P F X hv E0 p wB ob y cv cd (mch t) Bd = true) (hS : tyF f t (cxs Δ1 Γ0 (tAll B C)) Δ = .inr S) : nz t0 n1 s2 h (onz t0 n1 s2 h (cxs Δ1 Γ0 (tAll B C))) S ≤ Bd := by
  unfold smY1 at R1
  rw [Bool.and_eq_true, Bool.and_eq_true] at R1
  obtain ⟨lk, n2', n4'⟩ := R1
  have lk := Nat.le_of_ble_eq_true lk
  have n2' := Nat.le_of_ble_eq_true n2'
  have hm1 : mch t ≤ 56 := by omega
  generalize hEA : nz t0 n1 s2 h (onz t0 n1 s2 h Γ0) (tAll B C) = EA
  have hω2 : ∀ j, j < (onz t0 n1 s2 h (cxs Δ1 Γ0 (tAll B C))).length → vw (onz t0 n1 s2 h (cxs Δ1 Γ0 (tAll B C))) j ≤ y := fun j hj => hw j (by rw [onz_len] at hj; exact hj)
  have hSc : ∀ (A : Ty) (ω : List Nat), hd A = 2 → ok ω.length A = true → tch A + 2 ≤ mch t → (∀ j, j < ω.length → vw ω j ≤ y) → HSg t0 n1 s2 h (eby F hv y (mch t) E0 p wB ob) (max EA (mxl (Zx F y) (mch t + 1))) (max (flv (tAll B C)) (lmx fr1 (mch t - 2))) ω A := by
    intro A ω h2 o ht hw
    have e1 := Zx_le T o (by omega) y01 hw
    have e2 := mxl_ge (f := Zx F y) (n := mch t + 1) (s := tch A + 2) (by omega)
    have e3 := flv_lmx (k := mch t - 2) o (by omega) (by omega)
    rcases ok_cases o with rfl | ⟨j, hj, rfl⟩ | ⟨a, b, rfl, ha, hb⟩ | ⟨a, b, rfl, ha, hb⟩ | ⟨c, u, v, w, hc, rfl, h0, h1, h2'⟩
    · exact absurd h2 (by decide)
    · rw [hd_var] at h2; omega
    · rw [hd_fun] at h2; omega
    · refine ⟨a, b, rfl, by omega, by omega, fun z => ?_⟩
      rw [tch_all] at ht
      have pa := tch_pos ha
      have pc := tch_pos hb
      have q1 := Zx_le T ha (by omega) y01 hw
      have q2 := Zx_ms hFm (x := y) (s := tch a + 2) (s' := mch t - 5) (by omega) (by omega)
      have q3 := H1 (nz t0 n1 s2 h ω a)
      have q4 : nz t0 n1 s2 h (hzx h z (nz t0 n1 s2 h ω a) :: ω) b ≤ Zx F (max (max z y) (hv + max 1 (Zx F y (mch t - 5)))) (tch b + 2) := by
        refine Zx_le T (by rw [List.length_cons]; exact hb) (by omega) (by omega) (fun j hj => ?_)
        rw [vw_cons]
        by_cases e : j = ω.length
        · rw [if_pos e]
          unfold hzx
          omega
        · rw [if_neg e]
          have := hw j (by rw [List.length_cons] at hj; omega)
          omega
      have q5 := Zx_ms hFm (x := max (max z y) (hv + max 1 (Zx F y (mch t - 5)))) (s := tch b + 2) (s' := mch t - 5) (by omega) (by omega)
      unfold eby
      exact Nat.le_trans q4 (Nat.le_trans q5 (Nat.le_max_right _ _))
    · rw [hd_rec] at h2; omega
  have hA : ∀ (A : Ty), ok (onz t0 n1 s2 h (cxs Δ1 Γ0 (tAll B C))).length A = true → tch A + 2 ≤ mch t → (∀ ρ, ρ ≠ [] → vz t0 n1 s2 h (Eg (max y (Zx F y (mch t - 3))) (eby F hv y (mch t) E0 p wB ob) (max EA (mxl (Zx F y) (mch t + 1))) (max (flv (tAll B C)) (lmx fr1 (mch t - 2)))) A ρ (onz t0 n1 s2 h (cxs Δ1 Γ0 (tAll B C))) ≤ Eg (max y (Zx F y (mch t - 3))) (eby F hv y (mch t) E0 p wB ob) (max EA (mxl (Zx F y) (mch t + 1))) (max (flv (tAll B C)) (lmx fr1 (mch t - 2))) ρ) ∧ nz t0 n1 s2 h (onz t0 n1 s2 h (cxs Δ1 Γ0 (tAll B C))) A ≤ Zx F y (tch A + 2) := fun A o ht => ⟨arg_g eby_mono hm hh T y01 hm1 (fun s hs => Nat.le_trans (Zx_ms hFm (x := y) (s := s) (s' := mch t - 3) (by omega) (by omega)) (Nat.le_max_right _ _)) hSc _ A _ (Nat.le_refl _) o ht hω2, Zx_le T o (by omega) y01 hω2⟩
  have aq := AH_0 (m0 := mch t) hA f t [] (cxs Δ1 Γ0 (tAll B C)) _ w (onz_len ..) hg (Nat.le_refl _)
  have bg := nat_BGa hn eby_mono hm hh T hx h21 h32 w he co nq hS hdc hcd n2' aq (fun j hj => Nat.le_trans (hw j hj) lk) (BEg_cx hn (Nat.le_max_left _ _) ⟨B, C, rfl, Nat.le_trans (Nat.le_of_eq hEA) (Nat.le_max_left _ _), Nat.le_max_left _ _, fun z => Nat.le_trans (vZ z) (by unfold eby; exact Nat.le_trans (Nat.le_max_left _ _) (Nat.le_max_left _ _))⟩ (fun b hb => (hb0 b hb).imp id (fun c z => by have := Nat.mul_le_mul_right z c; unfold eby; omega)) Δ1 hw (fun b hb => (hb1 b hb).imp id (fun c z => by have := Nat.mul_le_mul_right z c; unfold eby; omega)))
  exact natL_le n4' hm17 bg
end PmVr
