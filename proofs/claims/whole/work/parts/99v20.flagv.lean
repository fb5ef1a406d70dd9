/-! A LONG SCHEME WITH A CERTAIN SCHEME INSIDE: terms and pairs by nature. -/
theorem cch_five : ∀ {Γ : List Ty}, okc Γ → cch Γ = 0 ∨ 5 ≤ cch Γ
  | [], _ => Or.inl rfl
  | a :: Γ, hc => by
    have := tch_pos hc.1
    refine Or.inr ?_
    show 5 ≤ (tch a + 4) + cch Γ
    omega
theorem cch_fiv {Γ0 : List Ty} {β : Ty} : ∀ {Δ1 : List Ty}, okc (cxs Δ1 Γ0 β) → cch Δ1 = 0 ∨ 5 ≤ cch Δ1
  | [], _ => Or.inl rfl
  | a :: Δ1, hc => by
    have := tch_pos hc.1
    refine Or.inr ?_
    show 5 ≤ (tch a + 4) + cch Δ1
    omega
section PmWa
variable {L : LmT} {XR W : FrT} {X : List Nat} {hv s2 wB x kmax k q1 q2 : Nat}
theorem lfa_get (h : lfa L XR W X hv s2 wB x kmax = true) (k1 : 18 ≤ k) (k2 : k ≤ kmax) (hz : zfk x k q1 q2 = true) (h1 : q1 = 0 ∨ 5 ≤ q1) (h2 : q2 = 0 ∨ 5 ≤ q2) (hc : 9 + k + q1 + q2 ≤ 47) : lmz L XR W X hv s2 wB k q1 q2 (zob true q1 q2) = true := by
  have no : ∀ {q : Nat}, (q = 0 ∨ 5 ≤ q) → (Nat.blt 0 q && Nat.blt q 5) = true → False := by
    intro q h hb
    rw [Bool.and_eq_true] at hb
    rcases h with h | h
    · exact blt_no (by omega) hb.1
    · exact blt_no h hb.2
  unfold lfa at h
  have q := rng_all h (i := k - 18) (by omega)
  rw [show 18 + (k - 18) = k by omega, Bool.or_eq_true] at q
  rcases q with q | q
  · exact (blt_no k2 q).elim
  have q := rng_all q (i := q1) (by omega)
  rw [Bool.or_eq_true] at q
  rcases q with q | q
  · exact (no h1 q).elim
  have q := rng_all q (i := q2) (by omega)
  rw [Bool.or_eq_true, Bool.or_eq_true, Bool.or_eq_true] at q
  rcases q with q | q | q | q
  · exact (no h2 q).elim
  · exact (blt_no (by omega) q).elim
  · rw [hz] at q; cases q
  · exact q
end PmWa
def Kis (j : Nat) (k : Nat) : Bool := decide (k = j)
section PmWb
variable {f : Nat} {t x y C : Ty} {Γ0 Δ1 : List Ty} {Δ : List (Nat × Ty × Nat)} {d : Nat}
theorem hfr1 : (fun _ : Nat => 1 + 1) 1 ≤ 2 := by decide
theorem fk_rec1 (o : ok d C = true) (hk : tch C ≤ 40) (k : kdt C = 4) (hp : phf (Kis 4) C = true) : ∃ p ∈ frg xhr1 (tch C), XFm 0 (fun _ => 1 + 1) 3 1 d C p.1 p.2 := xh_rec (n1 := fun _ => 1 + 1) xr1_ok xfr1_ok (by decide) (tbs1 true).2.2.2.1 (tbs1 true).2.2.2.2.1 (fun t d o hk k => xk_rec (n1 := fun _ => 1 + 1) xr1_ok (tbs1 true).2.2.2.1 (tbs1 true).2.2.2.2.1 xkr1_ok xkr1_2 o hk (of_decide_eq_true k)) xhr1_ok o hk k hp
theorem fk_recq (o : ok d C = true) (hk : tch C ≤ 40) (k : kdt C = 4) (hp : phf (Kis 4) C = true) : ∃ p ∈ frg xhrq (tch C), XFm 1 ngc 1 0 d C p.1 p.2 := xh_rec xrq_ok xfrq_ok (by decide) tbsq.2.2.2.1 tbsq.2.2.2.2.1 (fun t d o hk k => xk_rec xrq_ok tbsq.2.2.2.1 tbsq.2.2.2.2.1 xkrq_ok xkrq_2 o hk (of_decide_eq_true k)) xhrq_ok o hk k hp
theorem fk_fun1 (o : ok d C = true) (hk : tch C ≤ 40) (k : kdt C = 1) (hp : phf (Kis 1) C = true) : ∃ p ∈ frg xhf1 (tch C), XFm 0 (fun _ => 1 + 1) 3 1 d C p.1 p.2 := xh_fun (n1 := fun _ => 1 + 1) xr1_ok xff1_ok (by decide) (tbs1 true).2.2.2.1 (tbs1 true).2.2.2.2.1 (fun t d o hk k => xk_fun (n1 := fun _ => 1 + 1) xr1_ok (tbs1 true).2.2.2.1 (tbs1 true).2.2.2.2.1 xkf1_ok o hk (of_decide_eq_true k)) xhf1_ok o hk k hp
theorem fk_funq (o : ok d C = true) (hk : tch C ≤ 40) (k : kdt C = 1) (hp : phf (Kis 1) C = true) : ∃ p ∈ frg xhfq (tch C), XFm 1 ngc 1 0 d C p.1 p.2 := xh_fun xrq_ok xffq_ok (by decide) tbsq.2.2.2.1 tbsq.2.2.2.2.1 (fun t d o hk k => xk_fun xrq_ok tbsq.2.2.2.1 tbsq.2.2.2.2.1 xkfq_ok o hk (of_decide_eq_true k)) xhfq_ok o hk k hp
theorem fk_top1 (o : ok d C = true) (hk : tch C ≤ 40) (k : kdt C = 3) (hp : phf (Kis 3) C = true) : ∃ p ∈ frg xht1 (tch C), XFm 0 (fun _ => 1 + 1) 3 1 d C p.1 p.2 := xh_top (n1 := fun _ => 1 + 1) xr1_ok xft1_ok (by decide) (tbs1 true).2.2.2.1 (tbs1 true).2.2.2.2.1 (fun t d o hk k => xk_top (n1 := fun _ => 1 + 1) xr1_ok (by decide) (tbs1 true).2.2.2.1 (tbs1 true).2.2.2.2.1 xkt1_ok o hk (of_decide_eq_true k)) xht1_ok xht1_o2 o hk k hp
theorem fk_topq (o : ok d C = true) (hk : tch C ≤ 40) (k : kdt C = 3) (hp : phf (Kis 3) C = true) : ∃ p ∈ frg xhtq (tch C), XFm 1 ngc 1 0 d C p.1 p.2 := xh_top xrq_ok xftq_ok (by decide) tbsq.2.2.2.1 tbsq.2.2.2.2.1 (fun t d o hk k => xk_top xrq_ok (by decide) tbsq.2.2.2.1 tbsq.2.2.2.2.1 xktq_ok o hk (of_decide_eq_true k)) xhtq_ok xhtq_o2 o hk k hp
theorem fk_any1 (o : ok d C = true) (hk : tch C ≤ 40) (hp : phf (fun _ => true) C = true) : ∃ p ∈ frg xfa1 (tch C), XFm 0 (fun _ => 1 + 1) 3 1 d C p.1 p.2 := xf_form (n1 := fun _ => 1 + 1) xr1_ok xfa1_ok (by decide) (tbs1 true).2.2.2.1 (tbs1 true).2.2.2.2.1 (fun t d o hk _ => xr_form (n1 := fun _ => 1 + 1) xr1_ok (tbs1 true).2.2.2.1 (tbs1 true).2.2.2.2.1 _ t d (Nat.le_refl _) o hk) _ C d (Nat.le_refl _) o hk hp
theorem fk_anyq (o : ok d C = true) (hk : tch C ≤ 40) (hp : phf (fun _ => true) C = true) : ∃ p ∈ frg xfaq (tch C), XFm 1 ngc 1 0 d C p.1 p.2 := xf_form xrq_ok xfaq_ok (by decide) tbsq.2.2.2.1 tbsq.2.2.2.2.1 (fun t d o hk _ => xr_form xrq_ok tbsq.2.2.2.1 tbsq.2.2.2.2.1 _ t d (Nat.le_refl _) o hk) _ C d (Nat.le_refl _) o hk hp
/-- the body has an inner scheme of its own kind, or any inner scheme where other binders are about -/
def FlC (C : Ty) (q1 q2 : Nat) : Prop := (kdt C = 4 ∧ phf (Kis 4) C = true ∧ tch C ≤ 35) ∨ (kdt C = 1 ∧ phf (Kis 1) C = true ∧ tch C ≤ 34) ∨ (kdt C = 3 ∧ phf (Kis 3) C = true ∧ tch C ≤ 36) ∨ (phf (fun _ => true) C = true ∧ zfk 0 (tch C) q1 q2 = true)
theorem flag_v (w : TWf f (cxs Δ1 Γ0 (tAll tTop C)).length (Δ.map (fun a => a.1)) t) (he : TE (cxs Δ1 Γ0 (tAll tTop C)) Δ) (hs : smp f t) (hC : FlC C (cch Γ0) (cch Δ1)) (k18 : 18 ≤ tch C) (hb : cch (cxs Δ1 Γ0 (tAll tTop C)) + dch Δ + 2 * mch t ≤ 58) (h5 : cch (cxs Δ1 Γ0 (tAll tTop C)) + 5 + 2 * mch t ≤ 58) (h47 : cch (cxs Δ1 Γ0 (tAll tTop C)) ≤ 47) : NtV (cxs Δ1 Γ0 (tAll tTop C)) Δ f t 830 597 := by
  obtain ⟨oc0, oA⟩ := okc_low Δ1 he.1
  have oC := (ok_all.mp oA).2
  have ec : cch (cxs Δ1 Γ0 (tAll tTop C)) = 9 + tch C + cch Γ0 + cch Δ1 := by
    rw [cch_cx, tch_all, tch_top]
    omega
  have c47 : 9 + tch C + cch Γ0 + cch Δ1 ≤ 47 := by omega
  have a1 := cch_five oc0
  have a2 := cch_fiv he.1
  rcases hC with ⟨k, hp, hk⟩ | ⟨k, hp, hk⟩ | ⟨k, hp, hk⟩ | ⟨hp, hz⟩
  · exact lm_v lfr1_ok lfrq_ok w he hs (lfa_get lfr1_a k18 hk rfl a1 a2 c47) (lfa_get lfrq_a k18 hk rfl a1 a2 c47) (fk_rec1 oC (by omega) k hp) (fk_recq oC (by omega) k hp) hb h5 (by omega)
  · exact lm_v lff1_ok lffq_ok w he hs (lfa_get lff1_a k18 hk rfl a1 a2 c47) (lfa_get lffq_a k18 hk rfl a1 a2 c47) (fk_fun1 oC (by omega) k hp) (fk_funq oC (by omega) k hp) hb h5 (by omega)
  · exact lm_v lft1_ok lftq_ok w he hs (lfa_get lft1_a k18 hk rfl a1 a2 c47) (lfa_get lftq_a k18 hk rfl a1 a2 c47) (fk_top1 oC (by omega) k hp) (fk_topq oC (by omega) k hp) hb h5 (by omega)
  · exact lm_v lfa1_ok lfaq_ok w he hs (lfa_get lfa1_a k18 (by omega) hz a1 a2 c47) (lfa_get lfaq_a k18 (by omega) hz a1 a2 c47) (fk_any1 oC (by omega) hp) (fk_anyq oC (by omega) hp) hb h5 (by omega)
/-- pairs -/
theorem pair_flag (x1 : TWf f (cxs Δ1 Γ0 (tAll tTop C)).length (Δ.map (fun a => a.1)) x) (x2 : TWf f (cxs Δ1 Γ0 (tAll tTop C)).length (Δ.map (fun a => a.1)) y) (he : TE (cxs Δ1 Γ0 (tAll tTop C)) Δ) (y1 : NAt f x) (y2 : NAt f y) (hv : noac (cxs Δ1 Γ0 (tAll tTop C))) (hd' : ∀ a ∈ Δ, noal a.2.1 = true) (hs : (mch x ≤ mch y ∧ smp f x) ∨ (mch y ≤ mch x ∧ smp f y)) (hC : FlC C (cch Γ0) (cch Δ1)) (k18 : 18 ≤ tch C) (h5 : 5 ≤ dch Δ) (hb : cch (cxs Δ1 Γ0 (tAll tTop C)) + dch Δ + (2 + (mch x + mch y)) ≤ 60) (h47 : cch (cxs Δ1 Γ0 (tAll tTop C)) ≤ 47) : PRn f x y (cxs Δ1 Γ0 (tAll tTop C)) Δ := by
  refine pair_ntv x1 x2 he y1 y2 hv hd' (by omega) ?_
  rcases hs with ⟨m, hs⟩ | ⟨m, hs⟩
  · exact Or.inl (flag_v x1 he hs hC k18 (by omega) (by omega) h47)
  · exact Or.inr (flag_v x2 he hs hC k18 (by omega) (by omega) h47)
end PmWb
