/-! JOINS IN A CONTEXT THAT IS CUT. -/
section PmN8
variable {κ : Ty → Bool} {hb : Nat} {B C : Ty} {Γ0 : List Ty} {t0 s2 : Nat} {n1 h : Nat → Nat}
theorem PNw_upart {d : Nat} {r : Ty → Ty → Ru} {set m m' i : Nat} {x y a : Ty} (hr : bit m i = true → bit m' i = true → ∀ R, r x y = some R → PNw κ hb d R = true) (hx : PNw κ hb d x = true) (hy : PNw κ hb d y = true) (e : upart r set m m' i x y = some a) : PNw κ hb d a = true := by
  unfold upart at e
  by_cases h1 : bit set i = true
  · rw [if_pos h1] at e
    by_cases h2 : bit m i = true
    · rw [if_pos h2] at e
      by_cases h3 : bit m' i = true
      · rw [if_pos h3] at e; exact hr h2 h3 a e
      · rw [if_neg h3] at e; cases e; exact hx
    · rw [if_neg h2] at e; cases e; exact hy
  · rw [if_neg h1] at e; cases e; rfl
theorem upart_le {ω : List Nat} {r : Ty → Ty → Ru} {set m m' i : Nat} {x y a x1 y1 : Ty} (hr : bit m i = true → bit m' i = true → ∀ R, r x y = some R → nz t0 n1 s2 h ω R ≤ nz t0 n1 s2 h ω x1 + nz t0 n1 s2 h ω y1) (hx : bit set i = true → bit m i = true → ¬ bit m' i = true → x1 = x) (hy : bit set i = true → ¬ bit m i = true → y1 = y) (e : upart r set m m' i x y = some a) : nz t0 n1 s2 h ω a ≤ nz t0 n1 s2 h ω x1 + nz t0 n1 s2 h ω y1 := by
  unfold upart at e
  by_cases h1 : bit set i = true
  · rw [if_pos h1] at e
    by_cases h2 : bit m i = true
    · rw [if_pos h2] at e
      by_cases h3 : bit m' i = true
      · rw [if_pos h3] at e; exact hr h2 h3 a e
      · rw [if_neg h3] at e; cases e
        rw [hx h1 h2 h3]; omega
    · rw [if_neg h2] at e; cases e
      rw [hy h1 h2]; omega
  · rw [if_neg h1] at e; cases e; rw [nz_nil]; omega
/-- what a join gives: nothing that names itself, worth no more than both -/
def CRs (κ : Ty → Bool) (hb t0 : Nat) (n1 : Nat → Nat) (s2 : Nat) (h : Nat → Nat) (ω : List Nat) (d : Nat) (R S' T' : Ty) : Prop := PNw κ hb d R = true ∧ nz t0 n1 s2 h ω R ≤ nz t0 n1 s2 h ω S' + nz t0 n1 s2 h ω T'
def CuG (κ : Ty → Bool) (hb : Nat) (B C : Ty) (Γ0 : List Ty) (t0 : Nat) (n1 : Nat → Nat) (s2 : Nat) (h : Nat → Nat) (f : Nat) : Prop := ∀ (w : Nat) (Δ : List Ty) (S T R S' T' : Ty) (ω : List Nat), w ≤ 1 → CNx κ hb B C Γ0 Δ → CV t0 n1 s2 h ω (cB κ B C Γ0 Δ) → tok (cA B C Γ0 Δ, S, T) → PNw κ hb (cA B C Γ0 Δ).length S = true → PNw κ hb (cA B C Γ0 Δ).length T = true → Cst κ (cA B C Γ0 Δ) S S' T → Cst κ (cA B C Γ0 Δ) T T' S → (w = 1 → S' = S ∧ T' = T) → cu f w (cA B C Γ0 Δ) S T = some R → CRs κ hb t0 n1 s2 h ω (cA B C Γ0 Δ).length R S' T'
def CuL (κ : Ty → Bool) (hb : Nat) (B C : Ty) (Γ0 : List Ty) (t0 : Nat) (n1 : Nat → Nat) (s2 : Nat) (h : Nat → Nat) (f : Nat) : Prop := ∀ (Δ : List Ty) (T R T' : Ty) (ω : List Nat), CNx κ hb B C Γ0 Δ → CV t0 n1 s2 h ω (cB κ B C Γ0 Δ) → ok (cA B C Γ0 Δ).length T = true → PNw κ hb (cA B C Γ0 Δ).length T = true → Cst κ (cA B C Γ0 Δ) T T' (upb Γ0 Δ (tAll B C)) → bel (cA B C Γ0 Δ) T (tVar Γ0.length) = false → (cu f 0 (cA B C Γ0 Δ) (upb Γ0 Δ (tAll B C)) T = some R ∨ (¬ 16 ≤ hd T ∧ cu f 0 (cA B C Γ0 Δ) T (upb Γ0 Δ (tAll B C)) = some R)) → CRs κ hb t0 n1 s2 h ω (cA B C Γ0 Δ).length R (upb Γ0 Δ (tAll B (ct κ Γ0.length C))) T'
theorem CRs.swap {ω : List Nat} {d : Nat} {R S' T' : Ty} (q : CRs κ hb t0 n1 s2 h ω d R S' T') : CRs κ hb t0 n1 s2 h ω d R T' S' := ⟨q.1, by have := q.2; omega⟩
/-- the bound, one side -/
theorem cuL_step (h0 : CN0 κ hb B C Γ0) (hn : NC t0 n1 s2 h) {f : Nat} (ihG : CuG κ hb B C Γ0 t0 n1 s2 h f) (ihL : CuL κ hb B C Γ0 t0 n1 s2 h f) : CuL κ hb B C Γ0 t0 n1 s2 h (f + 1) := by
  intro Δ T R T' ω hx hv oT pT cT nb e
  have hl := cA_len (B := B) (C := C) (Γ0 := Γ0) (Δ := Δ)
  have lAB := cAB_len (κ := κ) (B := B) (C := C) (Γ0 := Γ0) (Δ := Δ)
  have hc : okc (cA B C Γ0 Δ) := hx.1
  have oX := hx.cg.okb
  have eq := upb_all Γ0 Δ B C
  have eq' := upb_all Γ0 Δ B (ct κ Γ0.length C)
  have hlv : ω.length = (cA B C Γ0 Δ).length := by rw [hv.len, lAB]
  have low := hv.low hx.2.1
  have oT' : ok ω.length T' = true := by rw [hlv]; exact cT.ok oT
  have pT' := nz_t0 hn low oT'
  have top : ∀ R, R = tTop → CRs κ hb t0 n1 s2 h ω (cA B C Γ0 Δ).length R (upb Γ0 Δ (tAll B (ct κ Γ0.length C))) T' := by
    intro R e; subst e
    exact ⟨rfl, by rw [nz_top]; omega⟩
  have tk : tok (cA B C Γ0 Δ, upb Γ0 Δ (tAll B C), T) := ⟨hc, oX, oT⟩
  have tk' : tok (cA B C Γ0 Δ, T, upb Γ0 Δ (tAll B C)) := ⟨hc, oT, oX⟩
  have isT : bel (cA B C Γ0 Δ) (upb Γ0 Δ (tAll B C)) T = true → CRs κ hb t0 n1 s2 h ω (cA B C Γ0 Δ).length T (upb Γ0 Δ (tAll B (ct κ Γ0.length C))) T' := by
    intro c
    refine ⟨pT, ?_⟩
    rw [cT.bel h0.1 tk c]; omega
  have isX : bel (cA B C Γ0 Δ) T (upb Γ0 Δ (tAll B C)) = true → CRs κ hb t0 n1 s2 h ω (cA B C Γ0 Δ).length (upb Γ0 Δ (tAll B C)) (upb Γ0 Δ (tAll B (ct κ Γ0.length C))) T' := by
    intro c
    have wo := bel_own h0 _ Δ T hx tk' pT (Nat.le_refl _) nb c
    refine ⟨?_, ?_⟩
    · rw [eq, PNw_all, (h0.fB _).1, h0.fC.1, wo]; simp
    · rw [eq, eq', ← h0.fC.2.2, ct_Wo _ wo]; omega
  have body : ∀ a b' R q, T = tAll a b' → a = upb Γ0 Δ B → R = tAll (upb Γ0 Δ B) q → (cu f 0 (upb Γ0 Δ B :: cA B C Γ0 Δ) (upb Γ0 Δ C) b' = some q ∨ cu f 0 (upb Γ0 Δ B :: cA B C Γ0 Δ) b' (upb Γ0 Δ C) = some q) → CRs κ hb t0 n1 s2 h ω (cA B C Γ0 Δ).length R (upb Γ0 Δ (tAll B (ct κ Γ0.length C))) T' := by
    intro a b' R q e1 e2 e3 e4
    subst e2 e1 e3
    rw [eq] at cT oX
    obtain ⟨b1, e5, c5⟩ := cT.all h0.1
    rw [PNw_all, Bool.and_eq_true, Bool.and_eq_true] at pT
    have wb : Wo κ (cA B C Γ0 Δ).length b' = true := by
      have := pT.2
      rw [hbv_hd (h0.fB 0).2] at this
      simpa using this
    have fC := h0.fC (Δ := Δ)
    have hx' := hx.ext h0 (ok_all.mp oT).1 (h0.fB _).1
    have hv' : CV t0 n1 s2 h (h (nz t0 n1 s2 h ω (upb Γ0 Δ B)) :: ω) (cB κ B C Γ0 (upb Γ0 Δ B :: Δ)) := CV.ext (Γ := cB κ B C Γ0 Δ) hn hx.2.1 (by rw [← lAB]; exact (ok_all.mp oT).1) hv
    have c6 : Cst κ (cA B C Γ0 (upb Γ0 Δ B :: Δ)) (upb Γ0 Δ C) (ct κ (cA B C Γ0 Δ).length (upb Γ0 Δ C)) b' := Or.inr ⟨(cA B C Γ0 Δ).length, Nat.lt_succ_self _, rfl, fC.2.1, wb, CWo.new _⟩
    have key : PNw κ hb ((cA B C Γ0 Δ).length + 1) q = true ∧ nz t0 n1 s2 h (h (nz t0 n1 s2 h ω (upb Γ0 Δ B)) :: ω) q ≤ nz t0 n1 s2 h (h (nz t0 n1 s2 h ω (upb Γ0 Δ B)) :: ω) (ct κ (cA B C Γ0 Δ).length (upb Γ0 Δ C)) + nz t0 n1 s2 h (h (nz t0 n1 s2 h ω (upb Γ0 Δ B)) :: ω) b1 := by
      rcases e4 with e4 | e4
      · exact ihG 0 (upb Γ0 Δ B :: Δ) (upb Γ0 Δ C) b' q _ b1 _ (by omega) hx' hv' ⟨hx'.1, (ok_all.mp oX).2, (ok_all.mp oT).2⟩ fC.1 pT.1.2 c6 c5 (fun h => absurd h (by decide)) e4
      · exact (ihG 0 (upb Γ0 Δ B :: Δ) b' (upb Γ0 Δ C) q b1 _ _ (by omega) hx' hv' ⟨hx'.1, (ok_all.mp oT).2, (ok_all.mp oX).2⟩ pT.1.2 fC.1 c5 c6 (fun h => absurd h (by decide)) e4).swap
    have wq : Wo κ (cA B C Γ0 Δ).length q = true := by
      rcases e4 with e4 | e4
      · exact cu_Wo h0.1 f 0 (upb Γ0 Δ B :: cA B C Γ0 Δ) _ _ q _ (by omega) (Nat.lt_succ_self _) (CWo.new _) ⟨hx'.1, (ok_all.mp oX).2, (ok_all.mp oT).2⟩ ⟨fun _ => ⟨fC.2.1, Wo_Pz _ wb, Or.inr wb⟩, fun h => absurd h (by decide)⟩ e4
      · exact cu_Wo h0.1 f 0 (upb Γ0 Δ B :: cA B C Γ0 Δ) _ _ q _ (by omega) (Nat.lt_succ_self _) (CWo.new _) ⟨hx'.1, (ok_all.mp oT).2, (ok_all.mp oX).2⟩ ⟨fun _ => ⟨Wo_Pz _ wb, fC.2.1, Or.inl wb⟩, fun h => absurd h (by decide)⟩ e4
    refine ⟨?_, ?_⟩
    · rw [PNw_all, (h0.fB _).1, key.1, wq]; simp
    · have k2 := key.2
      rw [e5, eq', ← fC.2.2, nz_all, nz_all, nz_all]
      omega
  rcases e with e | ⟨nv, e⟩
  · have e : cmsU (cu f) 0 (cA B C Γ0 Δ) (upb Γ0 Δ (tAll B C)) T = some R := e
    unfold cmsU at e
    rw [if_neg (by decide)] at e
    by_cases c2 : bel (cA B C Γ0 Δ) (upb Γ0 Δ (tAll B C)) T = true
    · rw [if_pos c2, if_pos rfl] at e; cases e; exact isT c2
    rw [if_neg c2] at e
    by_cases c3 : bel (cA B C Γ0 Δ) T (upb Γ0 Δ (tAll B C)) = true
    · rw [if_pos c3, if_pos rfl] at e; cases e; exact isX c3
    rw [if_neg c3, if_neg (by rw [eq, hd_all]; omega)] at e
    by_cases c6 : 16 ≤ hd T
    · rw [if_pos c6, if_neg (by decide)] at e
      obtain ⟨j, hj, rfl⟩ := hd_is_var oT c6
      have tk2 : tok (cA B C Γ0 Δ, tVar j, tVar Γ0.length) := ⟨hc, oT, ok_var (show Γ0.length < (cA B C Γ0 Δ).length by omega)⟩
      rw [bel_eq tk2] at nb
      unfold stp at nb
      rw [hd_var, hd_var] at nb
      by_cases ek : j = Γ0.length
      · rw [if_pos (Or.inr ⟨by omega, by omega⟩)] at nb
        cases nb
      rw [if_neg (by omega), if_pos (by omega), show 16 + j - 16 = j by omega] at nb
      simp only [List.all_cons, List.all_nil, Bool.and_true] at nb
      rw [exps_var] at e
      have q := ihL Δ _ R _ ω hx hv (ok_expose hc hj) (hx.exp hj ek) (Or.inl rfl) nb (Or.inl e)
      refine ⟨q.1, ?_⟩
      have q2 := q.2
      have ex := (hx.cg.ex hj ek).1
      rw [exps_var, exps_var] at ex
      have hj' : j < (cB κ B C Γ0 Δ).length := by rw [← lAB]; exact hj
      have v := CV.exp hx.2.1 hv hj'
      rw [← ex] at v
      rw [cT.var, nz_var]
      omega
    rw [if_neg c6] at e
    rw [eq, hd_all, if_neg (by omega), if_neg (by omega)] at e
    by_cases c9 : (2 = 2 ∧ hd T = 2 ∧ flat (k1 (tAll (upb Γ0 Δ B) (upb Γ0 Δ C))) = flat (k1 T))
    · rw [if_pos c9] at e
      obtain ⟨a, b', e1, oa, ob⟩ := hd_is_all oT c9.2.1
      have e2 : a = upb Γ0 Δ B := by
        have := c9.2.2
        rw [e1] at this
        rw [eq] at oX
        exact (flat_eq (ok_all.mp oX).1 oa this).symm
      rcases uAll_some e with e | ⟨q, eqq, e⟩
      · exact top R e
      · rw [e1] at eqq
        exact body a b' R q e1 e2 e (Or.inl eqq)
    · rw [if_neg c9] at e
      exact top R (tnu_some e)
  · have e : cmsU (cu f) 0 (cA B C Γ0 Δ) T (upb Γ0 Δ (tAll B C)) = some R := e
    unfold cmsU at e
    rw [if_neg (by decide)] at e
    by_cases c2 : bel (cA B C Γ0 Δ) T (upb Γ0 Δ (tAll B C)) = true
    · rw [if_pos c2, if_pos rfl] at e; cases e; exact isX c2
    rw [if_neg c2] at e
    by_cases c3 : bel (cA B C Γ0 Δ) (upb Γ0 Δ (tAll B C)) T = true
    · rw [if_pos c3, if_pos rfl] at e; cases e; exact isT c3
    rw [if_neg c3, if_neg nv, eq, hd_all, if_neg (by omega), if_neg (by omega), if_neg (by omega)] at e
    by_cases c9 : (hd T = 2 ∧ 2 = 2 ∧ flat (k1 T) = flat (k1 (tAll (upb Γ0 Δ B) (upb Γ0 Δ C))))
    · rw [if_pos c9] at e
      obtain ⟨a, b', e1, oa, ob⟩ := hd_is_all oT c9.1
      have e2 : a = upb Γ0 Δ B := by
        have := c9.2.2
        rw [e1] at this
        rw [eq] at oX
        exact flat_eq oa (ok_all.mp oX).1 this
      rcases uAll_some e with e | ⟨q, eqq, e⟩
      · exact top R e
      · rw [e1] at eqq e
        have e : R = tAll a q := e
        have eqq : cu f 0 (a :: cA B C Γ0 Δ) b' (upb Γ0 Δ C) = some q := eqq
        rw [e2] at eqq e
        exact body a b' R q e1 e2 e (Or.inr eqq)
    · rw [if_neg c9] at e
      exact top R (tnu_some e)
/-- any two types -/
theorem cuG_step (h0 : CN0 κ hb B C Γ0) (hn : NC t0 n1 s2 h) {f : Nat} (ihG : CuG κ hb B C Γ0 t0 n1 s2 h f) (ihL : CuL κ hb B C Γ0 t0 n1 s2 h f) : CuG κ hb B C Γ0 t0 n1 s2 h (f + 1) := by
  intro w Δ S T R S' T' ω w3 hx hv tk pS pT cS cT w1 e
  have hl := cA_len (B := B) (C := C) (Γ0 := Γ0) (Δ := Δ)
  have lAB := cAB_len (κ := κ) (B := B) (C := C) (Γ0 := Γ0) (Δ := Δ)
  have hc : okc (cA B C Γ0 Δ) := tk.1
  have oS : ok (cA B C Γ0 Δ).length S = true := tk.2.1
  have oT : ok (cA B C Γ0 Δ).length T = true := tk.2.2
  have hlv : ω.length = (cA B C Γ0 Δ).length := by rw [hv.len, lAB]
  have low := hv.low hx.2.1
  have oT' : ok ω.length T' = true := by rw [hlv]; exact cT.ok oT
  have pT' := nz_t0 hn low oT'
  have top : ∀ R, R = tTop → CRs κ hb t0 n1 s2 h ω (cA B C Γ0 Δ).length R S' T' := by
    intro R e; subst e
    exact ⟨rfl, by rw [nz_top]; omega⟩
  have vexp : ∀ j, j < (cA B C Γ0 Δ).length → j ≠ Γ0.length → nz t0 n1 s2 h ω (lft j ((cA B C Γ0 Δ).length - j) (bnd (cA B C Γ0 Δ) j)) ≤ vw ω j := by
    intro j hj ek
    have ex := (hx.cg.ex hj ek).1
    rw [exps_var, exps_var] at ex
    have v := CV.exp hx.2.1 hv (show j < (cB κ B C Γ0 Δ).length by rw [← lAB]; exact hj)
    rw [← ex] at v
    exact v
  have vk : nz t0 n1 s2 h ω (upb Γ0 Δ (tAll B (ct κ Γ0.length C))) ≤ vw ω Γ0.length := by
    have v := CV.exp hx.2.1 hv (show Γ0.length < (cB κ B C Γ0 Δ).length by omega)
    unfold cB at v
    rw [cxs_up] at v
    exact v
  have ek : lft Γ0.length ((cA B C Γ0 Δ).length - Γ0.length) (bnd (cA B C Γ0 Δ) Γ0.length) = upb Γ0 Δ (tAll B C) := by
    unfold cA
    rw [cxs_up]
  have e : cmsU (cu f) w (cA B C Γ0 Δ) S T = some R := e
  unfold cmsU at e
  rw [if_neg (by omega)] at e
  by_cases c2 : bel (cA B C Γ0 Δ) S T = true
  · rw [if_pos c2] at e
    by_cases c0 : w = 0
    · rw [if_pos c0] at e; cases e
      refine ⟨pT, ?_⟩
      rw [cT.bel h0.1 tk c2]; omega
    · rw [if_neg c0] at e; cases e
      refine ⟨pS, ?_⟩
      rw [(w1 (by omega)).1]; omega
  rw [if_neg c2] at e
  by_cases c3 : bel (cA B C Γ0 Δ) T S = true
  · rw [if_pos c3] at e
    by_cases c0 : w = 0
    · rw [if_pos c0] at e; cases e
      refine ⟨pS, ?_⟩
      rw [cS.bel h0.1 ⟨hc, oT, oS⟩ c3]; omega
    · rw [if_neg c0] at e; cases e
      refine ⟨pT, ?_⟩
      rw [(w1 (by omega)).2]; omega
  rw [if_neg c3] at e
  by_cases c4 : 16 ≤ hd S
  · rw [if_pos c4] at e
    by_cases c5 : w = 1
    · rw [if_pos c5] at e; cases e
    rw [if_neg c5] at e
    have w0 : w = 0 := by omega
    subst w0
    obtain ⟨j, hj, rfl⟩ := hd_is_var oS c4
    rw [exps_var] at e
    have eS := cS.var
    subst eS
    by_cases ej : j = Γ0.length
    · subst ej
      rw [ek] at e
      have q := ihL Δ T R T' ω hx hv oT pT (by have := cT.exp hj; rw [ek] at this; exact this) (by simpa using c3) (Or.inl e)
      refine ⟨q.1, ?_⟩
      have q2 := q.2
      rw [nz_var]; omega
    · have q := ihG 0 Δ _ T R _ T' ω w3 hx hv ⟨hc, ok_expose hc hj, oT⟩ (hx.exp hj ej) pT (Or.inl rfl) (cT.exp hj) (fun h => absurd h (by decide)) e
      refine ⟨q.1, ?_⟩
      have q2 := q.2
      have v := vexp j hj ej
      rw [nz_var]; omega
  rw [if_neg c4] at e
  by_cases c6 : 16 ≤ hd T
  · rw [if_pos c6] at e
    by_cases c5 : w = 1
    · rw [if_pos c5] at e; cases e
    rw [if_neg c5] at e
    have w0 : w = 0 := by omega
    subst w0
    obtain ⟨j, hj, rfl⟩ := hd_is_var oT c6
    rw [exps_var] at e
    have eT := cT.var
    subst eT
    by_cases ej : j = Γ0.length
    · subst ej
      rw [ek] at e
      have q := (ihL Δ S R S' ω hx hv oS pS (by have := cS.exp hj; rw [ek] at this; exact this) (by simpa using c2) (Or.inr ⟨c4, e⟩)).swap
      refine ⟨q.1, ?_⟩
      have q2 := q.2
      rw [nz_var]; omega
    · have q := ihG 0 Δ S _ R S' _ ω w3 hx hv ⟨hc, oS, ok_expose hc hj⟩ pS (hx.exp hj ej) (cS.exp hj) (Or.inl rfl) (fun h => absurd h (by decide)) e
      refine ⟨q.1, ?_⟩
      have q2 := q.2
      have v := vexp j hj ej
      rw [nz_var]; omega
  rw [if_neg c6] at e
  by_cases c7 : 8 ≤ hd S ∧ 8 ≤ hd T
  · rw [if_pos c7] at e
    obtain ⟨m, x, y, z, hm, rfl⟩ := hd_is_rec oS c7.1 (by omega)
    obtain ⟨m', x', y', z', hm', rfl⟩ := hd_is_rec oT c7.2 (by omega)
    obtain ⟨o0, o1, o2⟩ := (ok_rec hm).mp oS
    obtain ⟨o0', o1', o2'⟩ := (ok_rec hm').mp oT
    rw [hd_rec, hd_rec, show 8 + m - 8 = m by omega, show 8 + m' - 8 = m' by omega] at e
    rw [PNw_rec, Bool.and_eq_true, Bool.and_eq_true] at pS pT
    obtain ⟨x1, y1, z1, eS, s0, s1, s2'⟩ := cS.rec
    obtain ⟨x1', y1', z1', eT, u0, u1, u2⟩ := cT.rec
    have same : w = 1 → (x1 = x ∧ y1 = y ∧ z1 = z) ∧ (x1' = x' ∧ y1' = y' ∧ z1' = z') := by
      intro hw
      obtain ⟨a1, a2⟩ := w1 hw
      rw [eS] at a1
      rw [eT] at a2
      unfold tRec at a1 a2
      injection a1 with a1 a3
      injection a3 with a3 a4
      injection a4 with a4 a5
      injection a2 with a2 b3
      injection b3 with b3 b4
      injection b4 with b4 b5
      exact ⟨⟨a3, a4, a5⟩, b3, b4, b5⟩
    have one : ∀ (i : Nat) (p p' p1 p1' : Ty), i < 3 → (w = 1 → p1 = p ∧ p1' = p') → (bit (lset w m m') i = true → bit m i = true → ¬ bit m' i = true → p1 = p) ∧ (bit (lset w m m') i = true → ¬ bit m i = true → p1' = p') := by
      intro i p p' p1 p1' hi hp
      rcases (show w = 0 ∨ w = 1 by omega) with rfl | rfl
      · exact ⟨fun h _ h3 => absurd (lset_two m hm m' hm' i hi h).2 h3, fun h h2 => absurd (lset_two m hm m' hm' i hi h).1 h2⟩
      · exact ⟨fun _ _ _ => (hp rfl).1, fun _ _ => (hp rfl).2⟩
    rcases uRec_some e with e | ⟨a, b, c, ea, eb, ec, e⟩
    · exact top R e
    · have g0 := fun (i1 : bit m 0 = true) (i2 : bit m' 0 = true) R hR => ihG w Δ x x' R x1 x1' ω w3 hx hv ⟨hc, okl_on o0 (bit_iff.mp i1), okl_on o0' (bit_iff.mp i2)⟩ pS.1 pT.1 s0 u0 (fun hw => ⟨(same hw).1.1, (same hw).2.1⟩) hR
      have g1 := fun (i1 : bit m 1 = true) (i2 : bit m' 1 = true) R hR => ihG w Δ y y' R y1 y1' ω w3 hx hv ⟨hc, okl_on o1 (bit_iff.mp i1), okl_on o1' (bit_iff.mp i2)⟩ pS.2.1 pT.2.1 s1 u1 (fun hw => ⟨(same hw).1.2.1, (same hw).2.2.1⟩) hR
      have g2 := fun (i1 : bit m 2 = true) (i2 : bit m' 2 = true) R hR => ihG w Δ z z' R z1 z1' ω w3 hx hv ⟨hc, okl_on o2 (bit_iff.mp i1), okl_on o2' (bit_iff.mp i2)⟩ pS.2.2 pT.2.2 s2' u2 (fun hw => ⟨(same hw).1.2.2, (same hw).2.2.2⟩) hR
      have d0 := one 0 x x' x1 x1' (by decide) (fun hw => ⟨(same hw).1.1, (same hw).2.1⟩)
      have d1 := one 1 y y' y1 y1' (by decide) (fun hw => ⟨(same hw).1.2.1, (same hw).2.2.1⟩)
      have d2 := one 2 z z' z1 z1' (by decide) (fun hw => ⟨(same hw).1.2.2, (same hw).2.2.2⟩)
      have q0 := PNw_upart (fun i1 i2 R hR => (g0 i1 i2 R hR).1) pS.1 pT.1 ea
      have q1 := PNw_upart (fun i1 i2 R hR => (g1 i1 i2 R hR).1) pS.2.1 pT.2.1 eb
      have q2 := PNw_upart (fun i1 i2 R hR => (g2 i1 i2 R hR).1) pS.2.2 pT.2.2 ec
      have v0 := upart_le (fun i1 i2 R hR => (g0 i1 i2 R hR).2) d0.1 d0.2 ea
      have v1 := upart_le (fun i1 i2 R hR => (g1 i1 i2 R hR).2) d1.1 d1.2 eb
      have v2 := upart_le (fun i1 i2 R hR => (g2 i1 i2 R hR).2) d2.1 d2.2 ec
      refine ⟨?_, ?_⟩
      · rw [e, PNw_rec, q0, q1, q2]; rfl
      · have n := hn.2.2.2 w m m' hm hm'
        rw [e, eS, eT, nz_rec, nz_rec, nz_rec]
        omega
  rw [if_neg c7] at e
  by_cases c8 : hd S = 1 ∧ hd T = 1
  · rw [if_pos c8] at e
    obtain ⟨a, b, rfl, ha, hb1⟩ := hd_is_fun oS c8.1
    obtain ⟨a', b', rfl, ha', hb1'⟩ := hd_is_fun oT c8.2
    rw [PNw_fun, Bool.and_eq_true] at pS pT
    obtain ⟨b1, eS, s1⟩ := cS.fun
    obtain ⟨b1', eT, u1⟩ := cT.fun
    have same : w = 1 → b1 = b ∧ b1' = b' := by
      intro hw
      obtain ⟨a1, a2⟩ := w1 hw
      rw [eS] at a1
      rw [eT] at a2
      unfold tFun at a1 a2
      injection a1 with a1 a3
      injection a3 with a3 a4
      injection a2 with a2 b3
      injection b3 with b3 b4
      exact ⟨a4, b4⟩
    rcases uFun_some e with e | ⟨p, q, ep, eq, e⟩
    · exact top R e
    · have q1 := ihG (1 - w) Δ a a' p a a' ω (by omega) hx hv ⟨hc, ha, ha'⟩ pS.1 pT.1 (Or.inl rfl) (Or.inl rfl) (fun _ => ⟨rfl, rfl⟩) ep
      have q2 := ihG w Δ b b' q b1 b1' ω w3 hx hv ⟨hc, hb1, hb1'⟩ pS.2 pT.2 s1 u1 same eq
      refine ⟨?_, ?_⟩
      · rw [e, PNw_fun, q1.1, q2.1]; rfl
      · have v1 := q1.2
        have v2 := q2.2
        rw [e, eS, eT, nz_fun, nz_fun, nz_fun]
        omega
  rw [if_neg c8] at e
  by_cases c9 : hd S = 2 ∧ hd T = 2 ∧ flat (k1 S) = flat (k1 T)
  · rw [if_pos c9] at e
    obtain ⟨a, b, rfl, ha, hb1⟩ := hd_is_all oS c9.1
    obtain ⟨a', b', rfl, ha', hb1'⟩ := hd_is_all oT c9.2.1
    have ea : a = a' := flat_eq ha ha' c9.2.2
    subst ea
    rw [PNw_all, Bool.and_eq_true, Bool.and_eq_true] at pS pT
    obtain ⟨b1, eS, s1⟩ := cS.all h0.1
    obtain ⟨b1', eT, u1⟩ := cT.all h0.1
    have same : w = 1 → b1 = b ∧ b1' = b' := by
      intro hw
      obtain ⟨a1, a2⟩ := w1 hw
      rw [eS] at a1
      rw [eT] at a2
      unfold tAll at a1 a2
      injection a1 with a1 a3
      injection a3 with a3 a4
      injection a2 with a2 b3
      injection b3 with b3 b4
      exact ⟨a4, b4⟩
    rcases uAll_some e with e | ⟨q, eq, e⟩
    · exact top R e
    · have e : R = tAll a q := e
      have eq : cu f w (a :: cA B C Γ0 Δ) b b' = some q := eq
      have hx' := hx.ext h0 ha pS.1.1
      have hv' : CV t0 n1 s2 h (h (nz t0 n1 s2 h ω a) :: ω) (cB κ B C Γ0 (a :: Δ)) := CV.ext (Γ := cB κ B C Γ0 Δ) hn hx.2.1 (by rw [← lAB]; exact ha) hv
      have q1 := ihG w (a :: Δ) b b' q b1 b1' _ w3 hx' hv' ⟨hx'.1, hb1, hb1'⟩ pS.1.2 pT.1.2 s1 u1 same eq
      have q1a : PNw κ hb ((cA B C Γ0 Δ).length + 1) q = true := q1.1
      refine ⟨?_, ?_⟩
      · rw [e, PNw_all, pS.1.1, q1a]
        cases hh : hbv hb a with
        | false => rfl
        | true =>
          have ws : Wo κ (cA B C Γ0 Δ).length b = true := by
            have := pS.2
            rw [hh] at this
            simpa using this
          have wt : Wo κ (cA B C Γ0 Δ).length b' = true := by
            have := pT.2
            rw [hh] at this
            simpa using this
          have wq := cu_Wo h0.1 f w (a :: cA B C Γ0 Δ) b b' q (cA B C Γ0 Δ).length w3 (Nat.lt_succ_self _) (CWo.new _) ⟨hx'.1, hb1, hb1'⟩ (PW.both ws wt) eq
          rw [wq]; rfl
      · have v := q1.2
        rw [e, eS, eT, nz_all, nz_all, nz_all]
        omega
  rw [if_neg c9] at e
  exact top R (tnu_some e)
theorem cu_cut (h0 : CN0 κ hb B C Γ0) (hn : NC t0 n1 s2 h) : ∀ f, CuG κ hb B C Γ0 t0 n1 s2 h f ∧ CuL κ hb B C Γ0 t0 n1 s2 h f
  | 0 => by
    refine ⟨?_, ?_⟩
    · intro w Δ S T R S' T' ω _ _ _ _ _ _ _ _ _ e
      cases e
    · intro Δ T R T' ω _ _ _ _ _ _ e
      rcases e with e | e
      · cases e
      · cases e.2
  | f + 1 => ⟨cuG_step h0 hn (cu_cut h0 hn f).1 (cu_cut h0 hn f).2, cuL_step h0 hn (cu_cut h0 hn f).1 (cu_cut h0 hn f).2⟩
/-- a join in such a context -/
theorem cmu_cut (h0 : CN0 κ hb B C Γ0) (hn : NC t0 n1 s2 h) {w : Nat} {Δ : List Ty} {S T R : Ty} {ω : List Nat} (w3 : w ≤ 1) (hx : CNx κ hb B C Γ0 Δ) (hv : CV t0 n1 s2 h ω (cB κ B C Γ0 Δ)) (tk : tok (cA B C Γ0 Δ, S, T)) (pS : PNw κ hb (cA B C Γ0 Δ).length S = true) (pT : PNw κ hb (cA B C Γ0 Δ).length T = true) (e : cmu w (cA B C Γ0 Δ) S T = some R) : PNw κ hb (cA B C Γ0 Δ).length R = true ∧ nz t0 n1 s2 h ω R ≤ nz t0 n1 s2 h ω S + nz t0 n1 s2 h ω T := (cu_cut h0 hn _).1 w Δ S T R S T ω w3 hx hv tk pS pT (Or.inl rfl) (Or.inl rfl) (fun _ => ⟨rfl, rfl⟩) e
end PmN8
