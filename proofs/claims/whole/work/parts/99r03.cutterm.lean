/-! TERMS IN A CONTEXT THAT IS CUT: budgets, and the numbers that are asked. -/
section PmR4
variable {N t0 fn s2 hv r0 r1 r2 r3 x0 E0 p pb : Nat} {n1 h : Nat → Nat} {P Q : List (List Nat)} {F G : FrT} {X : List Nat} {Z : Nat → Nat} {hb : Nat} {B C : Ty} {Γ0 : List Ty}
theorem BEc_onz (hn : NC t0 n1 s2 h) : ∀ {Γ : List Ty}, (∀ j, j < Γ.length → vw (onz t0 n1 s2 h Γ) j ≤ E0) → (∀ b ∈ Γ, nsch b = true ∨ flv b ≤ p) → BEc t0 n1 s2 h E0 p pb Γ (onz t0 n1 s2 h Γ)
  | [], _, _ => trivial
  | b :: Γ, hv, hp => by
    have l1 := onz_len t0 n1 s2 h Γ
    have q := hv Γ.length (by rw [List.length_cons]; omega)
    have e : vw (onz t0 n1 s2 h (b :: Γ)) Γ.length = h (nz t0 n1 s2 h (onz t0 n1 s2 h Γ) b) := by
      show vw (h (nz t0 n1 s2 h (onz t0 n1 s2 h Γ) b) :: onz t0 n1 s2 h Γ) Γ.length = _
      rw [vw_cons, l1, if_pos rfl]
    rw [e] at q
    refine ⟨Or.inl ⟨Nat.le_trans (hn.2.2.1 _) q, hp b (List.mem_cons_self ..)⟩, BEc_onz hn (fun j hj => ?_) (fun c hc => hp c (List.mem_cons_of_mem _ hc))⟩
    have q2 := hv j (by rw [List.length_cons]; omega)
    have e2 : vw (onz t0 n1 s2 h (b :: Γ)) j = vw (onz t0 n1 s2 h Γ) j := by
      show vw (h (nz t0 n1 s2 h (onz t0 n1 s2 h Γ) b) :: onz t0 n1 s2 h Γ) j = _
      rw [vw_cons, l1, if_neg (by omega)]
    rw [e2] at q2
    exact q2
theorem BEc_cut (hn : NC t0 n1 s2 h) {β' : Ty} (hA : nz t0 n1 s2 h (onz t0 n1 s2 h Γ0) (tAll B C) ≤ E0 ∧ flv (tAll B C) ≤ pb ∧ ∀ z, nz t0 n1 s2 h (hzx h z (nz t0 n1 s2 h (onz t0 n1 s2 h Γ0) B) :: onz t0 n1 s2 h Γ0) C ≤ E0 + p * z) (hp0 : ∀ b ∈ Γ0, nsch b = true ∨ flv b ≤ p) : ∀ (Δ1 : List Ty), (∀ j, j < (cxs Δ1 Γ0 β').length → vw (onz t0 n1 s2 h (cxs Δ1 Γ0 β')) j ≤ E0) → (∀ b ∈ Δ1, nsch b = true ∨ flv b ≤ p) → BEc t0 n1 s2 h E0 p pb (cxs Δ1 Γ0 (tAll B C)) (onz t0 n1 s2 h (cxs Δ1 Γ0 β'))
  | [], hv, _ => by
    refine ⟨Or.inr ⟨B, C, rfl, hA.1, hA.2.1, hA.2.2⟩, BEc_onz hn (fun j hj => ?_) hp0⟩
    have l1 := onz_len t0 n1 s2 h Γ0
    have q2 := hv j (by rw [cxs_len]; omega)
    have e2 : vw (onz t0 n1 s2 h (cxs [] Γ0 β')) j = vw (onz t0 n1 s2 h Γ0) j := by
      show vw (h (nz t0 n1 s2 h (onz t0 n1 s2 h Γ0) β') :: onz t0 n1 s2 h Γ0) j = _
      rw [vw_cons, l1, if_neg (by omega)]
    rw [e2] at q2
    exact q2
  | a :: Δ1, hv, hp => by
    have l1 := onz_len t0 n1 s2 h (cxs Δ1 Γ0 β')
    have q := hv (cxs Δ1 Γ0 β').length (by show _ < (a :: cxs Δ1 Γ0 β').length; rw [List.length_cons]; omega)
    have e : vw (onz t0 n1 s2 h (cxs (a :: Δ1) Γ0 β')) (cxs Δ1 Γ0 β').length = h (nz t0 n1 s2 h (onz t0 n1 s2 h (cxs Δ1 Γ0 β')) a) := by
      show vw (h (nz t0 n1 s2 h (onz t0 n1 s2 h (cxs Δ1 Γ0 β')) a) :: onz t0 n1 s2 h (cxs Δ1 Γ0 β')) (cxs Δ1 Γ0 β').length = _
      rw [vw_cons, l1, if_pos rfl]
    rw [e] at q
    refine ⟨Or.inl ⟨Nat.le_trans (hn.2.2.1 _) q, hp a (List.mem_cons_self ..)⟩, BEc_cut hn hA hp0 Δ1 (fun j hj => ?_) (fun c hc => hp c (List.mem_cons_of_mem _ hc))⟩
    have q2 := hv j (by show j < (a :: cxs Δ1 Γ0 β').length; rw [List.length_cons]; omega)
    have e2 : vw (onz t0 n1 s2 h (cxs (a :: Δ1) Γ0 β')) j = vw (onz t0 n1 s2 h (cxs Δ1 Γ0 β')) j := by
      show vw (h (nz t0 n1 s2 h (onz t0 n1 s2 h (cxs Δ1 Γ0 β')) a) :: onz t0 n1 s2 h (cxs Δ1 Γ0 β')) j = _
      rw [vw_cons, l1, if_neg (by omega)]
    rw [e2] at q2
    exact q2
theorem cut_BF (hn : NC t0 n1 s2 h) (hm : ∀ y y', y ≤ y' → h y ≤ h y') (hh : ∀ y δ, h (y + δ) ≤ h y + δ) (T : TBs N t0 fn s2 hv r0 r1 r2 r3 x0 n1 h P Q F G X) (hx : PXk N P F X fn s2 r1 = true) (h21 : r2 ≤ r1) (h32 : r3 ≤ r2) (hz : ZOk Z) (h0 : CN0 kp2 hb B C Γ0) (hpb : p ≤ pb) {f : Nat} {t S : Ty} {Δ1 : List Ty} {Δ : List (Nat × Ty × Nat)} {cv cd L : Nat} (w : TWf f (cA B C Γ0 Δ1).length (Δ.map (fun a => a.1)) t) (he : TE (cA B C Γ0 Δ1) Δ) (co : COk f t 0) (nq : NQk f t 0) (hxx : CNx kp2 hb B C Γ0 Δ1) (pn : PNt hb f t (cA B C Γ0 Δ1).length) (hd' : ∀ a ∈ Δ, PNw kp2 hb a.2.2 a.2.1 = true) (hS : tyF f t (cA B C Γ0 Δ1) Δ = .inr S) (hd : dch Δ ≤ cd) (hcd : 2 ≤ cd) (hbb : cv + cd + 2 * mch t ≤ N) (hL : L ≤ 56) (hg : hasq f t = true → cv + gqk f t ≤ L) (hZ : ∀ q, 1 ≤ q → q ≤ mch t → ∀ w ∈ frg F q, w.2 + w.1 * X.getD L 0 ≤ Z (q + 2)) (hE : Z (mch t) ≤ E0) (hw : ∀ j, j < (cB kp2 B C Γ0 Δ1).length → vw (onz t0 n1 s2 h (cB kp2 B C Γ0 Δ1)) j ≤ X.getD cv 0) (hP : ∀ (A : Ty) (d : Nat), ok d A = true → tch A ≤ mch t → flv A ≤ p) (hB : BEc t0 n1 s2 h E0 p pb (cA B C Γ0 Δ1) (onz t0 n1 s2 h (cB kp2 B C Γ0 Δ1))) : BF P E0 p Z (cv + cd) (mch t) (nz t0 n1 s2 h (onz t0 n1 s2 h (cB kp2 B C Γ0 Δ1)) S) := by
  have hN := T.2.2.2.2.2.2.1
  have l0 := onz_len t0 n1 s2 h (cB kp2 B C Γ0 Δ1)
  have l1 : (onz t0 n1 s2 h (cB kp2 B C Γ0 Δ1)).length = (cA B C Γ0 Δ1).length := by rw [l0, cAB_len (κ := kp2)]
  have hw' : ∀ j, j < (onz t0 n1 s2 h (cB kp2 B C Γ0 Δ1)).length → vw (onz t0 n1 s2 h (cB kp2 B C Γ0 Δ1)) j ≤ X.getD cv 0 := fun j hj => hw j (by rw [l0] at hj; exact hj)
  have cvv := onz_cv (t0 := t0) (n1 := n1) (s2 := s2) (h := h) hn hxx.2.1
  have aq := AQ_of (t0 := t0) (n1 := n1) (s2 := s2) (h := h) (E0 := E0) (p := p) hm T hz hL hZ hE (by omega) hP f t [] (onz t0 n1 s2 h (cB kp2 B C Γ0 Δ1)) (cA B C Γ0 Δ1) _ cv w l1 hw' (Nat.zero_le _) hg (Nat.le_refl _)
  have go := GO_cut (E := Ec E0 p pb) (E0 := E0) (p := p) (Z := Z) hn hm hh (Ec_m hpb) (Ec_l hpb) h0 f t [] (onz t0 n1 s2 h (cB kp2 B C Γ0 Δ1)) Δ1 Δ w he co aq cvv hxx pn hd'
  have he2 : HEk t0 n1 s2 h (Ec E0 p pb) (cA B C Γ0 Δ1) (onz t0 n1 s2 h (cB kp2 B C Γ0 Δ1)) := BEc.he hpb hm hh hxx.1 l1 hB
  have q1 := tyF_vz hm f t (cA B C Γ0 Δ1) Δ S [] (onz t0 n1 s2 h (cB kp2 B C Γ0 Δ1)) w he he2 go hS
  rw [vz_no (tyF_ok f t (cA B C Γ0 Δ1) Δ S w he hS).1] at q1
  have q2 := (SE_le (E := Ec E0 p pb) (E0 := E0) (p := p) (Ec_m hpb) Ec_1 hm T hx h21 h32 hz f t [] (onz t0 n1 s2 h (cB kp2 B C Γ0 Δ1)) (cA B C Γ0 Δ1) Δ cv cd 0 w he co nq (Nat.zero_le _) aq l1 hw' (Nat.zero_le _) (fun e => by cases e) hd hcd hbb).1 rfl
  exact q2.mono q1
end PmR4
/-- the least place where the table has y -/
def lstX (X : List Nat) (y : Nat) : Nat := ((List.range 57).find? (fun c => Nat.ble y (X.getD c 0))).getD 57
theorem lstX_ok {X : List Nat} {y : Nat} (h : lstX X y ≤ 56) : y ≤ X.getD (lstX X y) 0 := by
  unfold lstX at h ⊢
  cases e : (List.range 57).find? (fun c => Nat.ble y (X.getD c 0)) with
  | none => rw [e] at h; exact absurd h (by decide)
  | some c =>
    have := List.find?_some e
    exact Nat.le_of_ble_eq_true this
/-- rows: body of k characters, r1 before, r2 behind, g around arguments, other schemes of at most ob leaves -/
def cutR (k r1 r2 g ob cd m : Nat) : Bool := (fug fu1 k).all (fun q => (frg fr1 k).all (fun v =>
  Nat.ble (lstX fx1 (max (max 2 (fx1.getD r1 0)) (4 + (q.2.2 + q.2.1 * max 2 (fx1.getD r1 0)))) + r2 + g) 56 && (Nat.ble (lstX fx1 (max (max 2 (fx1.getD r1 0)) (4 + (q.2.2 + q.2.1 * max 2 (fx1.getD r1 0)))) + r2 + cd + 2 * m) 58 &&
  natB pp1 (Zr (fx1.getD (lstX fx1 (max (max 2 (fx1.getD r1 0)) (4 + (q.2.2 + q.2.1 * max 2 (fx1.getD r1 0)))) + r2 + g) 0)) (lstX fx1 (max (max 2 (fx1.getD r1 0)) (4 + (q.2.2 + q.2.1 * max 2 (fx1.getD r1 0)))) + r2 + cd) m
    (max (fx1.getD (lstX fx1 (max (max 2 (fx1.getD r1 0)) (4 + (q.2.2 + q.2.1 * max 2 (fx1.getD r1 0)))) + r2) 0) (max (Zr (fx1.getD (lstX fx1 (max (max 2 (fx1.getD r1 0)) (4 + (q.2.2 + q.2.1 * max 2 (fx1.getD r1 0)))) + r2 + g) 0) m) (3 + (v.2 + v.1 * max 2 (fx1.getD r1 0)))))
    (max q.1 (max (lmx fr1 m) ob)) 830)))
def cutG (k r1 r2 g ob cd m : Nat) : Bool := (fug fuq k).all (fun q => (frg frq k).all (fun v =>
  Nat.ble (lstX fxq (max (max 1 (fxq.getD r1 0)) (1 + (q.2.2 + q.2.1 * max 1 (fxq.getD r1 0)))) + r2 + g) 56 && (Nat.ble (lstX fxq (max (max 1 (fxq.getD r1 0)) (1 + (q.2.2 + q.2.1 * max 1 (fxq.getD r1 0)))) + r2 + cd + 2 * m) 58 &&
  natB ppq (Zg (fxq.getD (lstX fxq (max (max 1 (fxq.getD r1 0)) (1 + (q.2.2 + q.2.1 * max 1 (fxq.getD r1 0)))) + r2 + g) 0)) (lstX fxq (max (max 1 (fxq.getD r1 0)) (1 + (q.2.2 + q.2.1 * max 1 (fxq.getD r1 0)))) + r2 + cd) m
    (max (fxq.getD (lstX fxq (max (max 1 (fxq.getD r1 0)) (1 + (q.2.2 + q.2.1 * max 1 (fxq.getD r1 0)))) + r2) 0) (max (Zg (fxq.getD (lstX fxq (max (max 1 (fxq.getD r1 0)) (1 + (q.2.2 + q.2.1 * max 1 (fxq.getD r1 0)))) + r2 + g) 0) m) (1 + (v.2 + v.1 * max 1 (fxq.getD r1 0)))))
    (max q.1 (max (lmx fr1 m) ob)) 597)))
