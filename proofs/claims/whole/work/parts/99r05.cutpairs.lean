/-! PAIRS OF TERMS IN A CONTEXT THAT IS CUT. -/
section PmR6
variable {t0 s2 : Nat} {n1 h : Nat → Nat} {B C : Ty} {Γ0 Δ1 : List Ty}
/-- exposed, a function is worth no more -/
theorem expo_cutz {ω : List Nat} (hc : okc (cA B C Γ0 Δ1)) (hcB : okc (cB kp2 B C Γ0 Δ1)) (hv : CV t0 n1 s2 h ω (cB kp2 B C Γ0 Δ1)) : ∀ (f : Nat) (S : Ty), ok (cA B C Γ0 Δ1).length S = true → hd (expo (cA B C Γ0 Δ1) f S) = 1 → nz t0 n1 s2 h ω (expo (cA B C Γ0 Δ1) f S) ≤ nz t0 n1 s2 h ω S
  | 0, S, _, _ => Nat.le_refl _
  | f + 1, S, o, e1 => by
    have e1 : hd (if 16 ≤ hd S then expo (cA B C Γ0 Δ1) f (exps (cA B C Γ0 Δ1) S) else S) = 1 := e1
    show nz t0 n1 s2 h ω (if 16 ≤ hd S then expo (cA B C Γ0 Δ1) f (exps (cA B C Γ0 Δ1) S) else S) ≤ _
    by_cases c : 16 ≤ hd S
    · rw [if_pos c] at e1 ⊢
      obtain ⟨k, hk, rfl⟩ := hd_is_var o c
      rw [exps_var] at e1 ⊢
      by_cases ek : k = Γ0.length
      · have e : lft k ((cA B C Γ0 Δ1).length - k) (bnd (cA B C Γ0 Δ1) k) = upb Γ0 Δ1 (tAll B C) := by
          subst ek
          unfold cA
          rw [cxs_up]
        rw [e, expo_lo (by rw [upb_all, hd_all]; omega), upb_all, hd_all] at e1
        exact absurd e1 (by decide)
      · have q := expo_cutz hc hcB hv f _ (ok_expose hc hk) e1
        have hk' : k < (cB kp2 B C Γ0 Δ1).length := by rw [← cAB_len (κ := kp2)]; exact hk
        have q2 := CV.exp hcB hv hk'
        have eb : bnd (cB kp2 B C Γ0 Δ1) k = bnd (cA B C Γ0 Δ1) k := by
          unfold cA cB
          exact cxs_other Γ0 _ _ ek Δ1
        rw [eb, ← cAB_len (κ := kp2)] at q2
        rw [nz_var]
        omega
    · rw [if_neg c]; exact Nat.le_refl _
end PmR6
section PmR7
variable {f : Nat} {x y C : Ty} {Γ0 Δ1 : List Ty} {Δ : List (Nat × Ty × Nat)}
theorem pair_cut (h0 : CN0 kp2 0 tTop C Γ0) (hxx : CNx kp2 0 tTop C Γ0 Δ1) (x1 : TWf f (cA tTop C Γ0 Δ1).length (Δ.map (fun a => a.1)) x) (x2 : TWf f (cA tTop C Γ0 Δ1).length (Δ.map (fun a => a.1)) y) (he : TE (cA tTop C Γ0 Δ1) Δ) (y1 : NAt f x) (y2 : NAt f y) (hv : noac (cA tTop C Γ0 Δ1)) (hd' : ∀ a ∈ Δ, noal a.2.1 = true) (hb : cch (cA tTop C Γ0 Δ1) ≤ 56) (p1 : PNt 0 f x (cA tTop C Γ0 Δ1).length) (p2 : PNt 0 f y (cA tTop C Γ0 Δ1).length) (pd : ∀ a ∈ Δ, PNw kp2 0 a.2.2 a.2.1 = true) (z : CutT C Γ0 Δ1 Δ f x ∨ CutT C Γ0 Δ1 Δ f y) : PRn f x y (cA tTop C Γ0 Δ1) Δ := by
  intro S T hS hT
  obtain ⟨oS, lS⟩ := tyF_ok f _ _ Δ S x1 he hS
  obtain ⟨oT, lT⟩ := tyF_ok f _ _ Δ T x2 he hT
  have nS := tyF_noal f _ _ Δ S x1 he y1 hv hd' hS
  have nT := tyF_noal f _ _ Δ T x2 he y2 hv hd' hT
  have pS := tyF_PNw h0 f _ Δ1 Δ S x1 he p1 hxx pd hS
  have pT := tyF_PNw h0 f _ Δ1 Δ T x2 he p2 hxx pd hT
  have lt0 : Γ0.length < (cA tTop C Γ0 Δ1).length := by rw [cA_len]; omega
  have tk : tok (cA tTop C Γ0 Δ1, S, T) := ⟨he.1, oS, oT⟩
  refine ⟨?_, fun hf => ?_⟩
  · have tb := noal_TBcut hxx.cg tk hv nS nT
    rcases z with z | z
    · exact LJ_cutS h0.ch hxx.cg (Nat.le_refl _) tk tb (PNw_KK lt0 pS) (PNw_KK lt0 pT) hb lS lT (cutT_rows true h0 hxx x1 he z p1 pd hS) (cutT_goals h0 hxx x1 he z p1 pd hS)
    · exact LJ_cutT h0.ch hxx.cg (Nat.le_refl _) tk tb (PNw_KK lt0 pS) (PNw_KK lt0 pT) hb lS lT (cutT_rows false h0 hxx x2 he z p2 pd hT) (cutT_goals h0 hxx x2 he z p2 pd hT)
  · obtain ⟨oF, lF⟩ := expo_ok he.1 he.2.1 (cA tTop C Γ0 Δ1).length S oS lS
    have nF := noal_expo he.1 hv (cA tTop C Γ0 Δ1).length S oS nS
    have pF : PNw kp2 0 (cA tTop C Γ0 Δ1).length (expo (cA tTop C Γ0 Δ1) (cA tTop C Γ0 Δ1).length S) = true := by
      rcases PNw_expo hxx (cA tTop C Γ0 Δ1).length S oS pS with e | e
      · exact e
      · rw [e, upb_all, hd_all] at hf
        exact absurd hf (by decide)
    have vF := fun b (q : nz 0 (fun _ => 1 + 1) (2 + 1) (vlr b 1) (onz 0 (fun _ => 1 + 1) (2 + 1) (vlr b 1) (cB kp2 tTop C Γ0 Δ1)) S ≤ 830) => Nat.le_trans (expo_cutz hxx.1 hxx.2.1 (onz_cv (NC_rows b 1) hxx.2.1) (cA tTop C Γ0 Δ1).length S oS hf) q
    obtain ⟨a, b, e3, oa, ob⟩ := hd_is_fun oF hf
    rw [e3, flat_fun, List.length_cons, List.length_append] at lF
    rw [e3, noal_fun, Bool.and_eq_true] at nF
    rw [e3, PNw_fun, Bool.and_eq_true] at pF
    rw [e3]
    show LB (cA tTop C Γ0 Δ1) T a
    have tk2 : tok (cA tTop C Γ0 Δ1, T, a) := ⟨he.1, oT, oa⟩
    refine LB_cut h0.ch hxx.cg tk2 (noal_TBcut hxx.cg tk2 hv nT nF.1) (PNw_KK lt0 pT) (PNw_KK lt0 pF.1) hb lT (by omega) ?_
    rcases z with z | z
    · refine Or.inr ⟨true, ?_⟩
      have q := vF true (cutT_rows true h0 hxx x1 he z p1 pd hS)
      rw [e3, nz_fun] at q
      omega
    · exact Or.inl ⟨true, cutT_rows true h0 hxx x2 he z p2 pd hT⟩
end PmR7
