/-! OLD TYPES: bodies that are schemes are looked at one level deeper, variables by the look of their bounds. -/
section PmMa9
variable {w : Nat} {Γ : List Ty} {a f e S T : Ty}
theorem var_gen {j : Nat} (w1 : w ≤ 1) (tk : tok (Γ, tVar j, T)) (nT : ¬ 16 ≤ hd T) (nz' : hd T ≠ 0) (q0 : trx (Γ, lft j (Γ.length - j) (bnd Γ j), T) = 0) (m1 : gm (w, Γ, lft j (Γ.length - j) (bnd Γ j), T) ≤ 1 ∧ gn (w, Γ, lft j (Γ.length - j) (bnd Γ j), T) ≤ 1) (m2 : gm (w, Γ, T, lft j (Γ.length - j) (bnd Γ j)) ≤ 1 ∧ gn (w, Γ, T, lft j (Γ.length - j) (bnd Γ j)) ≤ 1) : trx (Γ, tVar j, T) ≤ 1 ∧ trx (Γ, T, tVar j) = 0 ∧ gm (w, Γ, tVar j, T) ≤ 2 ∧ gm (w, Γ, T, tVar j) ≤ 2 ∧ gn (w, Γ, tVar j, T) ≤ 1 ∧ gn (w, Γ, T, tVar j) ≤ 1 := by
  have hc : okc Γ := tk.1
  have hj : j < Γ.length := by
    have o : ok Γ.length (tVar j) = true := tk.2.1
    rcases ok_cases o with h | ⟨k, hk, h⟩ | ⟨a, b, h, -, -⟩ | ⟨a, b, h, -, -⟩ | ⟨m, x, y, z, hm, h, -, -, -⟩
    · have := congrArg hd h; rw [hd_var, hd_top] at this; omega
    · have := congrArg hd h; rw [hd_var, hd_var] at this; omega
    · have := congrArg hd h; rw [hd_var, hd_fun] at this; omega
    · have := congrArg hd h; rw [hd_var, hd_all] at this; omega
    · have := congrArg hd h; rw [hd_var, hd_rec] at this; omega
  have hT : ok Γ.length T = true := tk.2.2
  have oX : ok Γ.length (lft j (Γ.length - j) (bnd Γ j)) = true := ok_expose hc hj
  obtain ⟨X, ex⟩ : ∃ X, lft j (Γ.length - j) (bnd Γ j) = X := ⟨_, rfl⟩
  rw [ex] at oX q0 m1 m2
  have w2 : w ≠ 2 := by omega
  have t1 : trx (Γ, tVar j, T) ≤ 1 := by
    have et := trf_var (twt (Γ, tVar j, T)) Γ j T nz' (by omega)
    have et2 : trf (twt (Γ, tVar j, T)) (Γ, tVar j, T) ≤ trf (twt (Γ, tVar j, T) + 1) (Γ, tVar j, T) := trf_up _ _
    rw [et, ex] at et2
    have q1 := trf_trx (z := (Γ, X, T)) ⟨hc, oX, hT⟩ (twt (Γ, tVar j, T))
    have e3 : trx (Γ, tVar j, T) = trf (twt (Γ, tVar j, T)) (Γ, tVar j, T) := rfl
    omega
  have t2 : trx (Γ, T, tVar j) = 0 := trx_mis nT (by rw [hd_var]; omega) (by rw [hd_var]; omega)
  have tk2 : tok (Γ, T, tVar j) := ⟨hc, hT, tk.2.1⟩
  have tu : tru (Γ, tVar j, T) ≤ 1 := by
    show max (trx (Γ, tVar j, T)) (trx (Γ, T, tVar j)) ≤ 1
    omega
  have tu2 : tru (Γ, T, tVar j) ≤ 1 := by
    show max (trx (Γ, T, tVar j)) (trx (Γ, tVar j, T)) ≤ 1
    omega
  have k1 : gro (w, Γ, tVar j, T) + sgl gm (gcs (w, Γ, tVar j, T)) ≤ 2 ∧ gno (w, Γ, tVar j, T) + sgl gn (gcs (w, Γ, tVar j, T)) ≤ 1 := by
    rcases gcs_cases (w := w) tk w2 with ⟨g1, g2, g3⟩ | ⟨q1, k, hk, eS, g1, g2, g3⟩ | ⟨q1, n1, k, hk, eT, g1, g2, g3⟩ | ⟨m, X0, X1, X2, m', Y0, Y1, Y2, hm, hm', eS, eT, g1, g2, g3⟩ | ⟨A, F, A', F', eS, eT, g1, g2, g3⟩ | ⟨A, F, F', eS, eT, g1, g2, g3⟩
    · rw [g1, g3]
      exact ⟨by show gro _ + 0 ≤ 2; omega, Nat.le_refl _⟩
    · have ek : j = k := by
        have := congrArg hd eS
        rw [hd_var, hd_var] at this
        omega
      subst ek
      rw [g1, g2, g3, ex]
      exact ⟨by show 1 + (gm (w, Γ, X, T) + 0) ≤ 2; omega, by show 0 + (gn (w, Γ, X, T) + 0) ≤ 1; omega⟩
    · exact absurd (show 16 ≤ hd (tVar j) by rw [hd_var]; omega) n1
    · have := congrArg hd eS; rw [hd_var, hd_rec] at this; omega
    · have := congrArg hd eS; rw [hd_var, hd_fun] at this; omega
    · have := congrArg hd eS; rw [hd_var, hd_all] at this; omega
  have k2 : gro (w, Γ, T, tVar j) + sgl gm (gcs (w, Γ, T, tVar j)) ≤ 2 ∧ gno (w, Γ, T, tVar j) + sgl gn (gcs (w, Γ, T, tVar j)) ≤ 1 := by
    rcases gcs_cases (w := w) tk2 w2 with ⟨g1, g2, g3⟩ | ⟨q1, k, hk, eS, g1, g2, g3⟩ | ⟨q1, n1, k, hk, eT, g1, g2, g3⟩ | ⟨m, X0, X1, X2, m', Y0, Y1, Y2, hm, hm', eS, eT, g1, g2, g3⟩ | ⟨A, F, A', F', eS, eT, g1, g2, g3⟩ | ⟨A, F, F', eS, eT, g1, g2, g3⟩
    · rw [g1, g3]
      exact ⟨by show gro _ + 0 ≤ 2; omega, Nat.le_refl _⟩
    · rw [eS, hd_var] at nT; omega
    · have ek : j = k := by
        have := congrArg hd eT
        rw [hd_var, hd_var] at this
        omega
      subst ek
      rw [g1, g2, g3, ex]
      exact ⟨by show 1 + (gm (w, Γ, T, X) + 0) ≤ 2; omega, by show 0 + (gn (w, Γ, T, X) + 0) ≤ 1; omega⟩
    · have := congrArg hd eT; rw [hd_var, hd_rec] at this; omega
    · have := congrArg hd eT; rw [hd_var, hd_fun] at this; omega
    · have := congrArg hd eT; rw [hd_var, hd_all] at this; omega
  have a1 := gm_unf (z := (w, Γ, tVar j, T)) tk w2
  have a2 := gn_unf (z := (w, Γ, tVar j, T)) tk w2
  have a3 := gm_unf (z := (w, Γ, T, tVar j)) tk2 w2
  have a4 := gn_unf (z := (w, Γ, T, tVar j)) tk2 w2
  have a1 : gm (w, Γ, tVar j, T) = max (tru (Γ, tVar j, T)) (gro (w, Γ, tVar j, T) + sgl gm (gcs (w, Γ, tVar j, T))) := a1
  have a3 : gm (w, Γ, T, tVar j) = max (tru (Γ, T, tVar j)) (gro (w, Γ, T, tVar j) + sgl gm (gcs (w, Γ, T, tVar j))) := a3
  refine ⟨t1, t2, ?_, ?_, ?_, ?_⟩ <;> omega
theorem stp_two (tk : tok (Γ, tAll a f, tAll a e)) : stp Γ (tAll a f) (tAll a e) = some [(a :: Γ, f, e)] ∧ rst (tAll a f) (tAll a e) ≤ 1 := by
  rcases stp_cases tk with e1 | ⟨e1, r1⟩ | ⟨k, hk, h, hT0, e1, r1⟩ | ⟨m, x, y, z, m', x', y', z', hm, hm', h, h', e1, r1⟩ | ⟨p, q, p', q', h, h', e1, r1⟩ | ⟨p, q, q', h, h', e1, r1⟩
  · exfalso
    unfold stp at e1
    rw [if_neg (by rw [hd_all, hd_all]; omega), if_neg (by rw [hd_all]; omega), if_neg (by rw [hd_all]; omega), if_neg (by rw [hd_all, hd_all]; omega), if_neg (by rw [hd_all]; omega), if_pos (show flat (k1 (tAll a f)) = flat (k1 (tAll a e)) from rfl)] at e1
    cases e1
  · exfalso
    unfold stp at e1
    rw [if_neg (by rw [hd_all, hd_all]; omega), if_neg (by rw [hd_all]; omega), if_neg (by rw [hd_all]; omega), if_neg (by rw [hd_all, hd_all]; omega), if_neg (by rw [hd_all]; omega), if_pos (show flat (k1 (tAll a f)) = flat (k1 (tAll a e)) from rfl)] at e1
    cases e1
  · have := congrArg hd h
    rw [hd_all, hd_var] at this
    omega
  · have := congrArg hd h
    rw [hd_all, hd_rec] at this
    omega
  · have := congrArg hd h
    rw [hd_all, hd_fun] at this
    omega
  · have a1 : a = p := congrArg k1 h
    have a2 : f = q := congrArg k2 h
    have a3 : e = q' := congrArg k2 h'
    subst a1
    subst a2
    subst a3
    exact ⟨e1, by omega⟩
theorem trx_two (tk : tok (Γ, tAll a f, tAll a e)) (t : trx (a :: Γ, f, e) = 0) : trx (Γ, tAll a f, tAll a e) ≤ 1 := by
  obtain ⟨e1, r1⟩ := stp_two tk
  have q := stp_x (z := (Γ, tAll a f, tAll a e)) tk e1
  have q : trx (a :: Γ, f, e) + 0 + rst (tAll a f) (tAll a e) = trx (Γ, tAll a f, tAll a e) := q
  omega
theorem gm_deep (tk : tok (Γ, tAll a f, tAll a e)) (t1 : trx (a :: Γ, f, e) = 0) (t2 : trx (a :: Γ, e, f) = 0) (m : gm (0, a :: Γ, f, e) ≤ 1 ∧ gn (0, a :: Γ, f, e) ≤ 1) : gm (0, Γ, tAll a f, tAll a e) ≤ 3 ∧ gn (0, Γ, tAll a f, tAll a e) ≤ 2 := by
  have t1 := trx_two tk t1
  have t2 := trx_two (Γ := Γ) (a := a) (f := e) (e := f) ⟨tk.1, tk.2.2, tk.2.1⟩ t2
  have tu : tru (Γ, tAll a f, tAll a e) ≤ 1 := by
    show max (trx (Γ, tAll a f, tAll a e)) (trx (Γ, tAll a e, tAll a f)) ≤ 1
    omega
  have a1 := gm_unf (z := (0, Γ, tAll a f, tAll a e)) tk (show (0 : Nat) ≠ 2 by decide)
  have a2 := gn_unf (z := (0, Γ, tAll a f, tAll a e)) tk (show (0 : Nat) ≠ 2 by decide)
  have key : gro (0, Γ, tAll a f, tAll a e) + sgl gm (gcs (0, Γ, tAll a f, tAll a e)) ≤ 3 ∧ gno (0, Γ, tAll a f, tAll a e) + sgl gn (gcs (0, Γ, tAll a f, tAll a e)) ≤ 2 := by
    by_cases b : bel Γ (tAll a f) (tAll a e) = true
    · obtain ⟨g1, g2, g3⟩ := gcs_bel1 (w := 0) (by decide) b
      rw [g1, g3]
      show _ + 0 ≤ 3 ∧ 1 + 0 ≤ 2
      omega
    by_cases b' : bel Γ (tAll a e) (tAll a f) = true
    · obtain ⟨g1, g2, g3⟩ := gcs_bel2 (w := 0) (by decide) b b'
      rw [g1, g3]
      show _ + 0 ≤ 3 ∧ 1 + 0 ≤ 2
      omega
    · obtain ⟨g1, g2, g3⟩ := gcs_all (w := 0) (by decide) b b'
      rw [g1, g2, g3]
      show 2 + (gm (0, a :: Γ, f, e) + 0) ≤ 3 ∧ 1 + (gn (0, a :: Γ, f, e) + 0) ≤ 2
      omega
  have a1 : gm (0, Γ, tAll a f, tAll a e) = max (tru (Γ, tAll a f, tAll a e)) (gro (0, Γ, tAll a f, tAll a e) + sgl gm (gcs (0, Γ, tAll a f, tAll a e))) := a1
  rw [a1, a2]
  omega
/-- what kms says -/
theorem kms_mis {C : Ty} (tk : tok (Γ, f, T)) (hT : hd T = hd C) (sT : hd C = 2 → shp (k1 T) = shp (k1 C)) (v : ¬ 16 ≤ hd f) (vT : ¬ 16 ≤ hd T) (q : kms C f = true) : (trx (Γ, f, T) = 0 ∧ trx (Γ, T, f) = 0) ∧ (gm (0, Γ, f, T) ≤ 1 ∧ gn (0, Γ, f, T) ≤ 1) ∧ gm (0, Γ, T, f) ≤ 1 ∧ gn (0, Γ, T, f) ≤ 1 := by
  have tk2 : tok (Γ, T, f) := ⟨tk.1, tk.2.2, tk.2.1⟩
  by_cases kk : hd f = 2 ∧ hd C = 2 ∧ shp (k1 f) ≠ shp (k1 C)
  · have ne : flat (k1 f) ≠ flat (k1 T) := by
      intro he
      refine kk.2.2 ?_
      rw [← sT kk.2.1]
      unfold shp
      rw [he]
    have h2 : hd T = 2 := by omega
    exact ⟨⟨trx_mis2 v kk.1 h2 ne, trx_mis2 vT h2 kk.1 (fun h => ne h.symm)⟩, gm_mis2 tk (by decide) kk.1 h2 ne, gm_mis2 tk2 (by decide) h2 kk.1 (fun h => ne h.symm)⟩
  · have nm : hd f ≠ hd T ∧ ¬ (8 ≤ hd f ∧ 8 ≤ hd T) := by
      unfold kms at q
      rw [Bool.or_eq_true, decide_eq_true_iff] at q
      rcases q with q | q
      · unfold kmm at q
        rw [decide_eq_true_iff] at q
        omega
      · exact absurd q kk
    exact ⟨⟨trx_mis v nm.1 (fun h => nm.2 ⟨h.1, h.2.1⟩), trx_mis vT (fun h => nm.1 h.symm) (fun h => nm.2 ⟨h.2.1, h.1⟩)⟩, gm_mis tk (by decide) v vT nm.1 nm.2, gm_mis tk2 (by decide) vT v (fun h => nm.1 h.symm) (fun h => nm.2 ⟨h.2, h.1⟩)⟩
end PmMa9
/-- as kms; schemes whose bounds look alike may have bodies of other kinds -/
def kmu (C b : Ty) : Bool := kms C b || decide (hd b = 2 ∧ hd C = 2 ∧ hd (k2 b) < 16 ∧ hd (k2 C) < 16 ∧ kms (k2 C) (k2 b) = true)
theorem kmu_lft {C : Ty} (k n : Nat) (t : Ty) (d : Nat) (o : ok d t = true) (v : hd t < 16) : kmu C (lft k n t) = kmu C t := by
  have e := (hd_lft0 (k := k) (n := n) o).2 v
  unfold kmu
  rw [kms_lft k n t d o v, e]
  by_cases h2 : hd t = 2
  · obtain ⟨a, b, rfl, ha, hb⟩ := hd_is_all o h2
    rw [lft_all]
    have e1 : k2 (tAll (lft k n a) (lft k n b)) = lft k n b := rfl
    have e2 : k2 (tAll a b) = b := rfl
    rw [e1, e2]
    by_cases v2 : hd b < 16
    · rw [(hd_lft0 (k := k) (n := n) hb).2 v2, kms_lft k n b _ hb v2]
    · have v3 : ¬ hd (lft k n b) < 16 := by
        obtain ⟨j, hj, rfl⟩ := hd_is_var hb (by omega)
        rw [lft_var]
        split <;> rw [hd_var] <;> omega
      have z1 : ¬ (hd (tAll a b) = 2 ∧ hd C = 2 ∧ hd (lft k n b) < 16 ∧ hd (k2 C) < 16 ∧ kms (k2 C) (lft k n b) = true) := fun h => v3 h.2.2.1
      have z2 : ¬ (hd (tAll a b) = 2 ∧ hd C = 2 ∧ hd b < 16 ∧ hd (k2 C) < 16 ∧ kms (k2 C) b = true) := fun h => v2 h.2.2.1
      rw [decide_eq_false z1, decide_eq_false z2]
  · have z1 : ¬ (hd t = 2 ∧ hd C = 2 ∧ hd (k2 (lft k n t)) < 16 ∧ hd (k2 C) < 16 ∧ kms (k2 C) (k2 (lft k n t)) = true) := fun h => h2 h.1
    have z2 : ¬ (hd t = 2 ∧ hd C = 2 ∧ hd (k2 t) < 16 ∧ hd (k2 C) < 16 ∧ kms (k2 C) (k2 t) = true) := fun h => h2 h.1
    rw [decide_eq_false z1, decide_eq_false z2]
/-- a bound against which the body stands only a moment -/
def gks (Q a : Ty) : Bool := decide (hd a = 0) || (decide (hd a < 16) && kms Q a)
theorem gks_lft {Q a : Ty} {k n d : Nat} (o : ok d a = true) (h : gks Q a = true) : gks Q (lft k n a) = true := by
  by_cases c : hd a < 16
  · unfold gks at h ⊢
    rw [(hd_lft0 o).2 c, kms_lft k n a d o c]
    exact h
  · unfold gks at h
    rw [decide_eq_false (show ¬ hd a = 0 by omega), decide_eq_false c] at h
    cases h
def upds (Q : Ty) (τ : Nat → Bool) (D : Nat) (a : Ty) : Nat → Bool := fun i => if i = D then gks Q a else τ i
def taus (Q : Ty) (Γ : List Ty) : Nat → Bool := fun i => gks Q (bnd Γ i)
theorem taus_cons {Q : Ty} {Γ : List Ty} {a : Ty} (i : Nat) : taus Q (a :: Γ) i = upds Q (taus Q Γ) Γ.length a i := by
  unfold taus upds
  show gks Q (if i = Γ.length then a else bnd Γ i) = _
  split <;> rfl
section PmMe9
variable {e : Nat} {B C : Ty} {Γ0 : List Ty}
theorem up_k1 {Δ : List Ty} (oC : ok (Γ0.length + 1) C = true) (h : hd C = 2) : shp (k1 (upb Γ0 Δ C)) = shp (k1 C) := by
  obtain ⟨c1, c2, rfl, oc1, oc2⟩ := hd_is_all oC h
  have eu : upb Γ0 Δ (tAll c1 c2) = tAll (upb Γ0 Δ c1) (upb Γ0 Δ c2) := by unfold upb; rw [lft_all]
  rw [eu]
  show shp (upb Γ0 Δ c1) = shp c1
  unfold upb
  exact shp_lft _ _ _
theorem ev_smallu (e1 : 1 ≤ e) (hC : hd C ≠ 0 ∧ hd C < 16) {Δ : List Ty} {f : Ty} (tk : tok (upb Γ0 Δ B :: cxs Δ Γ0 (tAll B C), f, upb Γ0 Δ C)) (oC : ok (Γ0.length + 1) C = true) (q : bdr (kmu C) (upds C (taus C (cxs Δ Γ0 (tAll B C))) (cxs Δ Γ0 (tAll B C)).length (upb Γ0 Δ B)) f = true) : EVb e B C Dsm Γ0 Δ f ∧ gn (0, upb Γ0 Δ B :: cxs Δ Γ0 (tAll B C), f, upb Γ0 Δ C) ≤ 2 ∧ gn (0, upb Γ0 Δ B :: cxs Δ Γ0 (tAll B C), upb Γ0 Δ C, f) ≤ 2 := by
  have hX : hd (upb Γ0 Δ C) = hd C := (hd_lft0 oC).2 hC.2
  have nX : ¬ 16 ≤ hd (upb Γ0 Δ C) := by omega
  have tk2 : tok (upb Γ0 Δ B :: cxs Δ Γ0 (tAll B C), upb Γ0 Δ C, f) := ⟨tk.1, tk.2.2, tk.2.1⟩
  obtain ⟨d1, d2, -⟩ := Dsm_num (upb Γ0 Δ B :: cxs Δ Γ0 (tAll B Dsm)) false e1
  obtain ⟨-, d3, -⟩ := Dsm_num (upb Γ0 Δ B :: cxs Δ Γ0 (tAll B Dsm)) true e1
  unfold EVb
  rw [up_Dsm, d1]
  unfold bdr at q
  rw [Bool.or_eq_true] at q
  by_cases v : 16 ≤ hd f
  · obtain ⟨j, hj, rfl⟩ := hd_is_var tk.2.1 v
    rw [if_pos v, hd_var, show 16 + j - 16 = j by omega] at q
    have q : upds C (taus C (cxs Δ Γ0 (tAll B C))) (cxs Δ Γ0 (tAll B C)).length (upb Γ0 Δ B) j = true := by
      rcases q with q | q
      · rw [decide_eq_true_iff] at q; omega
      · exact q
    have hb : gks C (bnd (upb Γ0 Δ B :: cxs Δ Γ0 (tAll B C)) j) = true := by
      unfold upds taus at q
      show gks C (if j = (cxs Δ Γ0 (tAll B C)).length then upb Γ0 Δ B else bnd (cxs Δ Γ0 (tAll B C)) j) = true
      by_cases ej : j = (cxs Δ Γ0 (tAll B C)).length
      · rw [if_pos ej] at q ⊢
        exact q
      · rw [if_neg ej] at q ⊢
        exact q
    unfold gks at hb
    rw [Bool.or_eq_true, Bool.and_eq_true, decide_eq_true_iff, decide_eq_true_iff] at hb
    rcases hb with hb | ⟨hb, hm⟩
    · obtain ⟨r1, r2, r3, r4, r5, r6⟩ := var_mis tk hb nX (by omega)
      refine ⟨⟨r1, by rw [r2]; omega, by omega, by omega⟩, by omega, by omega⟩
    · have ob : ok j (bnd (upb Γ0 Δ B :: cxs Δ Γ0 (tAll B C)) j) = true := okc_bnd' tk.1 hj
      have hm' := hm
      rw [← kms_lft j ((upb Γ0 Δ B :: cxs Δ Γ0 (tAll B C)).length - j) _ _ ob hb] at hm'
      have hs : hd (lft j ((upb Γ0 Δ B :: cxs Δ Γ0 (tAll B C)).length - j) (bnd (upb Γ0 Δ B :: cxs Δ Γ0 (tAll B C)) j)) = hd (bnd (upb Γ0 Δ B :: cxs Δ Γ0 (tAll B C)) j) := (hd_lft0 ob).2 hb
      have z := kms_mis (C := C) (Γ := upb Γ0 Δ B :: cxs Δ Γ0 (tAll B C)) (f := lft j ((upb Γ0 Δ B :: cxs Δ Γ0 (tAll B C)).length - j) (bnd (upb Γ0 Δ B :: cxs Δ Γ0 (tAll B C)) j)) (T := upb Γ0 Δ C) ⟨tk.1, ok_expose tk.1 hj, tk.2.2⟩ hX (up_k1 oC) (by rw [hs]; omega) nX hm'
      obtain ⟨r1, r2, r3, r4, r5, r6⟩ := var_gen (w := 0) (by decide) tk nX (by omega) z.1.1 z.2.1 z.2.2
      refine ⟨⟨r1, by rw [r2]; omega, by omega, by omega⟩, by omega, by omega⟩
  rw [if_neg v] at q
  by_cases h0 : hd f = 0
  · have g1 := gm_mis (w := 0) tk (by decide) v nX (by omega) (by omega)
    have g2 := gm_mis (w := 0) tk2 (by decide) nX v (by omega) (by omega)
    have t1 : trx (upb Γ0 Δ B :: cxs Δ Γ0 (tAll B C), f, upb Γ0 Δ C) = 0 := trx_mis v (by omega) (by omega)
    have t2 : trx (upb Γ0 Δ B :: cxs Δ Γ0 (tAll B C), upb Γ0 Δ C, f) = 0 := trx_mis nX (by omega) (by omega)
    refine ⟨⟨by omega, by omega, by omega, by omega⟩, by omega, by omega⟩
  have q : kmu C f = true := by
    rcases q with q | q
    · rw [decide_eq_true_iff] at q
      exact absurd q h0
    · exact q
  by_cases q1 : kms C f = true
  · have z := kms_mis (C := C) tk hX (up_k1 oC) v nX q1
    refine ⟨⟨by omega, by omega, by omega, by omega⟩, by omega, by omega⟩
  have kk : hd f = 2 ∧ hd C = 2 ∧ hd (k2 f) < 16 ∧ hd (k2 C) < 16 ∧ kms (k2 C) (k2 f) = true := by
    unfold kmu at q
    rw [Bool.or_eq_true, decide_eq_true_iff] at q
    exact q.resolve_left q1
  obtain ⟨c1, c2, rfl, oc1, oc2⟩ := hd_is_all oC kk.2.1
  obtain ⟨f1, f2, rfl, of1, of2⟩ := hd_is_all (show ok _ f = true from tk.2.1) kk.1
  have eu : upb Γ0 Δ (tAll c1 c2) = tAll (upb Γ0 Δ c1) (upb Γ0 Δ c2) := by unfold upb; rw [lft_all]
  have kf : k2 (tAll f1 f2) = f2 := rfl
  have kc : k2 (tAll c1 c2) = c2 := rfl
  rw [kf, kc] at kk
  have h2 : hd (upb Γ0 Δ c2) = hd c2 := (hd_lft0 oc2).2 kk.2.2.2.1
  have s2 : hd c2 = 2 → shp (k1 (upb Γ0 Δ c2)) = shp (k1 c2) := by
    intro h
    obtain ⟨p1, p2, rfl, -, -⟩ := hd_is_all oc2 h
    have eu2 : upb Γ0 Δ (tAll p1 p2) = tAll (upb Γ0 Δ p1) (upb Γ0 Δ p2) := by unfold upb; rw [lft_all]
    rw [eu2]
    show shp (upb Γ0 Δ p1) = shp p1
    unfold upb
    exact shp_lft _ _ _
  rw [eu] at tk tk2 ⊢
  have kx : k1 (tAll f1 f2) = f1 := rfl
  have ky : k1 (tAll (upb Γ0 Δ c1) (upb Γ0 Δ c2)) = upb Γ0 Δ c1 := rfl
  by_cases ef : flat f1 = flat (upb Γ0 Δ c1)
  · have o9 := ok_all.mp (show ok _ (tAll (upb Γ0 Δ c1) (upb Γ0 Δ c2)) = true from tk.2.2)
    have e9 : f1 = upb Γ0 Δ c1 := flat_eq of1 o9.1 ef
    subst e9
    have z := kms_mis (C := c2) (Γ := upb Γ0 Δ c1 :: (upb Γ0 Δ B :: cxs Δ Γ0 (tAll B (tAll c1 c2)))) (f := f2) (T := upb Γ0 Δ c2) ⟨⟨o9.1, tk.1⟩, of2, o9.2⟩ h2 s2 (by omega) (by omega) kk.2.2.2.2
    have g1 := gm_deep tk z.1.1 z.1.2 z.2.1
    have g2 := gm_deep tk2 z.1.2 z.1.1 z.2.2
    have t1 := trx_two tk z.1.1
    have t2 := trx_two tk2 z.1.2
    refine ⟨⟨by omega, by omega, by omega, by omega⟩, by omega, by omega⟩
  · have ne : flat (k1 (tAll f1 f2)) ≠ flat (k1 (tAll (upb Γ0 Δ c1) (upb Γ0 Δ c2))) := by rw [kx, ky]; exact ef
    have nv1 : ¬ 16 ≤ hd (tAll f1 f2) := by rw [hd_all]; omega
    have nv2 : ¬ 16 ≤ hd (tAll (upb Γ0 Δ c1) (upb Γ0 Δ c2)) := by rw [hd_all]; omega
    have g1 := gm_mis2 (w := 0) tk (by decide) (hd_all _ _) (hd_all _ _) ne
    have g2 := gm_mis2 (w := 0) tk2 (by decide) (hd_all _ _) (hd_all _ _) (fun h => ne h.symm)
    have t1 : trx (upb Γ0 Δ B :: cxs Δ Γ0 (tAll B (tAll c1 c2)), tAll f1 f2, tAll (upb Γ0 Δ c1) (upb Γ0 Δ c2)) = 0 := trx_mis2 nv1 (hd_all _ _) (hd_all _ _) ne
    have t2 : trx (upb Γ0 Δ B :: cxs Δ Γ0 (tAll B (tAll c1 c2)), tAll (upb Γ0 Δ c1) (upb Γ0 Δ c2), tAll f1 f2) = 0 := trx_mis2 nv2 (hd_all _ _) (hd_all _ _) (fun h => ne h.symm)
    refine ⟨⟨by omega, by omega, by omega, by omega⟩, by omega, by omega⟩
end PmMe9
def ku9 (Q : Ty) (tq : Nat → Ty → Bool) (κ : Ty → Bool) : (Nat → Bool) → Nat → Ty → Bool
  | τ, D, .tag c (.append a b) => if c = 2 then ((!(tq D a)) || bdr κ (upds Q τ D a) b) && (ku9 Q tq κ τ D a && ku9 Q tq κ (upds Q τ D a) (D + 1) b) else ku9 Q tq κ τ D a && ku9 Q tq κ τ D b
  | τ, D, .append a b => ku9 Q tq κ τ D a && ku9 Q tq κ τ D b
  | _, _, _ => true
section PmMb9
variable {Q : Ty} {tq : Nat → Ty → Bool} {κ : Ty → Bool}
theorem ku9_top (τ : Nat → Bool) (D : Nat) : ku9 Q tq κ τ D tTop = true := by simp [tTop, ku9]
theorem ku9_var (τ : Nat → Bool) (D k : Nat) : ku9 Q tq κ τ D (tVar k) = true := by simp [tVar, ku9]
theorem ku9_nil (τ : Nat → Bool) (D : Nat) : ku9 Q tq κ τ D .nil = true := by simp [ku9]
theorem ku9_fun {τ : Nat → Bool} {D : Nat} {a b : Ty} : ku9 Q tq κ τ D (tFun a b) = true ↔ ku9 Q tq κ τ D a = true ∧ ku9 Q tq κ τ D b = true := by simp [tFun, ku9]
theorem ku9_all {τ : Nat → Bool} {D : Nat} {a b : Ty} : ku9 Q tq κ τ D (tAll a b) = true ↔ (tq D a = true → bdr κ (upds Q τ D a) b = true) ∧ ku9 Q tq κ τ D a = true ∧ ku9 Q tq κ (upds Q τ D a) (D + 1) b = true := by
  simp only [tAll, ku9, if_true, Bool.and_eq_true, Bool.or_eq_true, Bool.not_eq_true']
  constructor
  · rintro ⟨h1, h2⟩
    exact ⟨fun e => h1.resolve_left (fun n => by rw [e] at n; cases n), h2⟩
  · rintro ⟨h1, h2⟩
    refine ⟨?_, h2⟩
    by_cases e : tq D a = true
    · exact Or.inr (h1 e)
    · exact Or.inl (by simpa using e)
theorem ku9_rec {τ : Nat → Bool} {D c : Nat} {x y z : Ty} : ku9 Q tq κ τ D (tRec c x y z) = true ↔ ku9 Q tq κ τ D x = true ∧ ku9 Q tq κ τ D y = true ∧ ku9 Q tq κ τ D z = true := by
  have e : ¬ 8 + c = 2 := by omega
  simp [tRec, ku9, e]
theorem ku9_lft {k n : Nat} (hκ : ∀ (t : Ty) (d : Nat), ok d t = true → hd t < 16 → κ (lft k n t) = κ t) : ∀ (f : Nat) (t : Ty) (D : Nat) (τ τ' : Nat → Bool), (flat t).length ≤ f → k ≤ D → ok D t = true → (∀ i, i < D → τ i = true → τ' (if k ≤ i then i + n else i) = true) → (∀ (a : Ty) (d : Nat), k ≤ d → ok d a = true → tq (d + n) (lft k n a) = true → tq d a = true) → ku9 Q tq κ τ D t = true → ku9 Q tq κ τ' (D + n) (lft k n t) = true
  | 0, t, D, _, _, hf, _, o, _, _, _ => by have := flat_pos o; omega
  | f + 1, t, D, τ, τ', hf, hk, o, hτ, h16, ht => by
    rcases ok_cases o with rfl | ⟨j, hj, rfl⟩ | ⟨a, b, rfl, ha, hb⟩ | ⟨a, b, rfl, ha, hb⟩ | ⟨c, x, y, z, hm, rfl, h0, h1, h2⟩
    · rw [lft_top]; exact ku9_top _ _
    · rw [lft_var]
      split <;> exact ku9_var _ _ _
    · rw [flat_fun, List.length_cons, List.length_append] at hf
      rw [ku9_fun] at ht
      rw [lft_fun, ku9_fun]
      exact ⟨ku9_lft hκ f a D τ τ' (by omega) hk ha hτ h16 ht.1, ku9_lft hκ f b D τ τ' (by omega) hk hb hτ h16 ht.2⟩
    · rw [flat_all, List.length_cons, List.length_append] at hf
      rw [ku9_all] at ht
      rw [lft_all, ku9_all]
      have hτ2 : ∀ i, i < D + 1 → upds Q τ D a i = true → upds Q τ' (D + n) (lft k n a) (if k ≤ i then i + n else i) = true := by
        intro i hi q
        unfold upds at q ⊢
        by_cases e : i = D
        · subst e
          rw [if_pos rfl] at q
          rw [if_pos hk, if_pos rfl]
          exact gks_lft ha q
        · rw [if_neg e] at q
          have q2 := hτ i (by omega) q
          rw [if_neg (by split <;> omega)]
          exact q2
      refine ⟨fun e => ?_, ku9_lft hκ f a D τ τ' (by omega) hk ha hτ h16 ht.2.1, ?_⟩
      · have ea : tq D a = true := h16 a D hk ha e
        have q := ht.1 ea
        unfold bdr at q ⊢
        rw [Bool.or_eq_true] at q ⊢
        rcases q with q | q
        · left
          rw [decide_eq_true_iff] at q ⊢
          exact (hd_lft0 hb).1.mpr q
        · right
          by_cases v : 16 ≤ hd b
          · obtain ⟨j, hj, rfl⟩ := hd_is_var hb v
            rw [if_pos v, hd_var, show 16 + j - 16 = j by omega] at q
            have q2 := hτ2 j hj q
            rw [lft_var]
            by_cases e2 : k ≤ j
            · rw [if_pos e2] at q2 ⊢
              rw [hd_var, if_pos (by omega), show 16 + (j + n) - 16 = j + n by omega]
              exact q2
            · rw [if_neg e2] at q2 ⊢
              rw [hd_var, if_pos (by omega), show 16 + j - 16 = j by omega]
              exact q2
          · rw [if_neg v] at q
            have e2 := (hd_lft0 (k := k) (n := n) hb).2 (by omega)
            rw [e2, if_neg v, hκ b _ hb (by omega)]
            exact q
      · have q := ku9_lft hκ f b (D + 1) (upds Q τ D a) (upds Q τ' (D + n) (lft k n a)) (by omega) (by omega) hb hτ2 h16 ht.2.2
        rw [show D + 1 + n = D + n + 1 by omega] at q
        exact q
    · rw [flat_rec, List.length_cons, List.length_append, List.length_append] at hf
      rw [ku9_rec] at ht
      rw [lft_rec hm, ku9_rec]
      have key : ∀ (i : Nat) (p : Ty), (flat p).length ≤ f → okl D c i p → ku9 Q tq κ τ D p = true → ku9 Q tq κ τ' (D + n) (lft k n p) = true := by
        intro i p hp ho hn
        unfold okl at ho
        by_cases hb : bit c i = true
        · rw [if_pos hb] at ho
          exact ku9_lft hκ f p D τ τ' hp hk ho hτ h16 hn
        · rw [if_neg hb] at ho
          rw [ho]; exact ku9_nil _ _
      exact ⟨key 0 x (by omega) h0 ht.1, key 1 y (by omega) h1 ht.2.1, key 2 z (by omega) h2 ht.2.2⟩
/-- where more bounds are known to be Top -/
theorem ku9_more : ∀ (f : Nat) (t : Ty) (D : Nat) (τ τ' : Nat → Bool), (flat t).length ≤ f → ok D t = true → (∀ i, i < D → τ i = true → τ' i = true) → ku9 Q tq κ τ D t = true → ku9 Q tq κ τ' D t = true
  | 0, t, D, _, _, hf, o, _, _ => by have := flat_pos o; omega
  | f + 1, t, D, τ, τ', hf, o, hτ, ht => by
    rcases ok_cases o with rfl | ⟨j, hj, rfl⟩ | ⟨a, b, rfl, ha, hb⟩ | ⟨a, b, rfl, ha, hb⟩ | ⟨c, x, y, z, hm, rfl, h0, h1, h2⟩
    · exact ku9_top _ _
    · exact ku9_var _ _ _
    · rw [flat_fun, List.length_cons, List.length_append] at hf
      rw [ku9_fun] at ht ⊢
      exact ⟨ku9_more f a D τ τ' (by omega) ha hτ ht.1, ku9_more f b D τ τ' (by omega) hb hτ ht.2⟩
    · rw [flat_all, List.length_cons, List.length_append] at hf
      rw [ku9_all] at ht ⊢
      have hτ2 : ∀ i, i < D + 1 → upds Q τ D a i = true → upds Q τ' D a i = true := by
        intro i hi q
        unfold upds at q ⊢
        by_cases e : i = D
        · rw [if_pos e] at q ⊢; exact q
        · rw [if_neg e] at q ⊢
          exact hτ i (by omega) q
      refine ⟨fun e => ?_, ku9_more f a D τ τ' (by omega) ha hτ ht.2.1, ku9_more f b (D + 1) _ _ (by omega) hb hτ2 ht.2.2⟩
      have q := ht.1 e
      unfold bdr at q ⊢
      rw [Bool.or_eq_true] at q ⊢
      rcases q with q | q
      · exact Or.inl q
      · right
        by_cases v : 16 ≤ hd b
        · rw [if_pos v] at q ⊢
          obtain ⟨j, hj, rfl⟩ := hd_is_var hb v
          rw [hd_var, show 16 + j - 16 = j by omega] at q ⊢
          exact hτ2 j hj q
        · rw [if_neg v] at q ⊢; exact q
    · rw [flat_rec, List.length_cons, List.length_append, List.length_append] at hf
      rw [ku9_rec] at ht ⊢
      have key : ∀ (i : Nat) (p : Ty), (flat p).length ≤ f → okl D c i p → ku9 Q tq κ τ D p = true → ku9 Q tq κ τ' D p = true := by
        intro i p hp ho hn
        unfold okl at ho
        by_cases hb : bit c i = true
        · rw [if_pos hb] at ho
          exact ku9_more f p D τ τ' hp ho hτ hn
        · rw [if_neg hb] at ho
          rw [ho]; exact ku9_nil _ _
      exact ⟨key 0 x (by omega) h0 ht.1, key 1 y (by omega) h1 ht.2.1, key 2 z (by omega) h2 ht.2.2⟩
end PmMb9
section PmMc9
variable {e : Nat} {B C : Ty} {Γ0 : List Ty}
/-- every inner scheme with that bound (in the body, the bound, the bounds before) has a body of another kind -/
def HKs9 (B C : Ty) (Γ0 : List Ty) : Prop := (True ∧ hd B < 16) ∧ (hd C ≠ 0 ∧ hd C < 16) ∧ (∀ j, j < Γ0.length → ku9 C (tqN B Γ0.length) (kmu C) (taus C Γ0) j (bnd Γ0 j) = true) ∧ ku9 C (tqN B Γ0.length) (kmu C) (taus C Γ0) Γ0.length B = true ∧ ku9 C (tqN B Γ0.length) (kmu C) (upds C (taus C Γ0) Γ0.length B) (Γ0.length + 1) C = true
def Ks9 (B C : Ty) (Γ0 : List Ty) (l : Nat) (Δ : List Ty) (t : Ty) : Prop := (Γ0.length < l ∧ l ≤ (cxs Δ Γ0 (tAll B C)).length) ∧ okc (cxs Δ Γ0 (tAll B C)) ∧ gqc 5 Γ0.length l (cxs Δ Γ0 (tAll B C)) ∧ (∀ j, j < (cxs Δ Γ0 (tAll B C)).length → (j < Γ0.length ∨ l ≤ j) → ku9 C (tqN B Γ0.length) (kmu C) (taus C (cxs Δ Γ0 (tAll B C))) j (bnd (cxs Δ Γ0 (tAll B C)) j) = true) ∧ ok (cxs Δ Γ0 (tAll B C)).length t = true ∧ gq 5 Γ0.length l t = true ∧ ku9 C (tqN B Γ0.length) (kmu C) (taus C (cxs Δ Γ0 (tAll B C))) (cxs Δ Γ0 (tAll B C)).length t = true
/-- one binder more, that is old -/
theorem Ks9.ext {l : Nat} {Δ : List Ty} {a b t : Ty} (k : Ks9 B C Γ0 l Δ t) (oa : ok (cxs Δ Γ0 (tAll B C)).length a = true) (ob : ok ((cxs Δ Γ0 (tAll B C)).length + 1) b = true) (ga : gq 5 Γ0.length l a = true) (gb : gq 5 Γ0.length l b = true) (ka : ku9 C (tqN B Γ0.length) (kmu C) (taus C (cxs Δ Γ0 (tAll B C))) (cxs Δ Γ0 (tAll B C)).length a = true) (kb : ku9 C (tqN B Γ0.length) (kmu C) (upds C (taus C (cxs Δ Γ0 (tAll B C))) (cxs Δ Γ0 (tAll B C)).length a) ((cxs Δ Γ0 (tAll B C)).length + 1) b = true) : Ks9 B C Γ0 l (a :: Δ) b := by
  obtain ⟨⟨l1, l2⟩, hc, hg, hk, -, -, -⟩ := k
  have le : (cxs (a :: Δ) Γ0 (tAll B C)).length = (cxs Δ Γ0 (tAll B C)).length + 1 := rfl
  refine ⟨⟨l1, by rw [le]; omega⟩, ⟨oa, hc⟩, ?_, ?_, ob, gb, ?_⟩
  · intro j hj hp
    show gq 5 Γ0.length (min l j) (if j = (cxs Δ Γ0 (tAll B C)).length then a else bnd (cxs Δ Γ0 (tAll B C)) j) = true
    by_cases ej : j = (cxs Δ Γ0 (tAll B C)).length
    · rw [if_pos ej, ej, Nat.min_eq_left l2]; exact ga
    · rw [if_neg ej]
      exact hg j (by rw [le] at hj; omega) hp
  · intro j hj hp
    have agree : ∀ i, i < (cxs Δ Γ0 (tAll B C)).length → taus C (cxs Δ Γ0 (tAll B C)) i = true → taus C (cxs (a :: Δ) Γ0 (tAll B C)) i = true := by
      intro i hi q
      have q2 := taus_cons (Q := C) (Γ := cxs Δ Γ0 (tAll B C)) (a := a) i
      show taus C (a :: cxs Δ Γ0 (tAll B C)) i = true
      rw [q2]
      unfold upds
      rw [if_neg (by omega)]
      exact q
    show ku9 C (tqN B Γ0.length) (kmu C) (taus C (cxs (a :: Δ) Γ0 (tAll B C))) j (if j = (cxs Δ Γ0 (tAll B C)).length then a else bnd (cxs Δ Γ0 (tAll B C)) j) = true
    by_cases ej : j = (cxs Δ Γ0 (tAll B C)).length
    · rw [if_pos ej, ej]
      exact ku9_more _ a _ _ _ (Nat.le_refl _) oa agree ka
    · rw [if_neg ej]
      have hj' : j < (cxs Δ Γ0 (tAll B C)).length := by rw [le] at hj; omega
      exact ku9_more _ _ j _ _ (Nat.le_refl _) (okc_bnd' hc hj') (fun i hi => agree i (by omega)) (hk j hj' hp)
  · exact ku9_more _ b _ _ _ (Nat.le_refl _) ob (fun i _ q => by
      have q2 := taus_cons (Q := C) (Γ := cxs Δ Γ0 (tAll B C)) (a := a) i
      show taus C (a :: cxs Δ Γ0 (tAll B C)) i = true
      rw [q2]; exact q) kb
theorem Ks9.part {l : Nat} {Δ : List Ty} {t b : Ty} (k : Ks9 B C Γ0 l Δ t) (ob : ok (cxs Δ Γ0 (tAll B C)).length b = true) (gb : gq 5 Γ0.length l b = true) (kb : ku9 C (tqN B Γ0.length) (kmu C) (taus C (cxs Δ Γ0 (tAll B C))) (cxs Δ Γ0 (tAll B C)).length b = true) : Ks9 B C Γ0 l Δ b := ⟨k.1, k.2.1, k.2.2.1, k.2.2.2.1, ob, gb, kb⟩
theorem Ks_KP (e1 : 1 ≤ e) (H : HKs9 B C Γ0) (l : Nat) : KPc e B C Dsm Γ0 (Ks9 B C Γ0 l) ∧ KGc B C Dsm Γ0 (Ks9 B C Γ0 l) := by
  obtain ⟨⟨h16, hB⟩, hC, -, -, -⟩ := H
  have body : ∀ Δ f, Ks9 B C Γ0 l Δ (tAll (upb Γ0 Δ B) f) → ok (Γ0.length + 1) C = true ∧ bdr (kmu C) (upds C (taus C (cxs Δ Γ0 (tAll B C))) (cxs Δ Γ0 (tAll B C)).length (upb Γ0 Δ B)) f = true := by
    intro Δ f k
    obtain ⟨-, hc, -, -, -, -, kt⟩ := k
    have oA := okc_mid hc
    refine ⟨(ok_all.mp oA).2, (ku9_all.mp kt).1 ?_⟩
    exact tqN_up
  refine ⟨⟨⟨by unfold Dsm; exact ok_all.mpr ⟨rfl, rfl⟩, by unfold Dsm; rw [hd_all]; decide⟩, fun Δ t k => ?_⟩, fun Δ t k f et tk => ?_⟩
  · have k' := k
    obtain ⟨⟨l1, l2⟩, hc, hg, hk, ot, gt, kt⟩ := k'
    refine ⟨?_, ?_, ?_, ?_, ?_⟩
    · intro a b et
      subst et
      have o := ok_fun.mp ot
      rw [gq_fun] at gt
      rw [ku9_fun] at kt
      exact ⟨k.part o.1 gt.1 kt.1, k.part o.2 gt.2 kt.2⟩
    · intro m x y z hm et
      subst et
      have o := (ok_rec hm).mp ot
      rw [gq_rec] at gt
      rw [ku9_rec] at kt
      exact ⟨fun b => k.part (okl_on o.1 (bit_iff.mp b)) gt.1 kt.1, fun b => k.part (okl_on o.2.1 (bit_iff.mp b)) gt.2.1 kt.2.1, fun b => k.part (okl_on o.2.2 (bit_iff.mp b)) gt.2.2 kt.2.2⟩
    · intro a b et
      subst et
      have o := ok_all.mp ot
      rw [gq_all] at gt
      rw [ku9_all] at kt
      exact k.ext o.1 o.2 gt.2.1 gt.2.2 kt.2.1 kt.2.2
    · intro j et hj
      subst et
      rw [gq_var] at gt
      refine ⟨by omega, k.part (ok_expose hc hj) ?_ ?_⟩
      · exact gq_lft (by decide) (by omega) _ (bnd (cxs Δ Γ0 (tAll B C)) j) j (Nat.le_refl _) (okc_bnd' hc hj) (hg j hj gt)
      · have q := ku9_lft (kmu_lft _ _) (k := j) (n := (cxs Δ Γ0 (tAll B C)).length - j) _ (bnd (cxs Δ Γ0 (tAll B C)) j) j (taus C (cxs Δ Γ0 (tAll B C))) (taus C (cxs Δ Γ0 (tAll B C))) (Nat.le_refl _) (Nat.le_refl _) (okc_bnd' hc hj) (fun i hi q => by rw [if_neg (by omega)]; exact q) (tqN_lft (by have := cxs_len Δ Γ0 (tAll B C); omega)) (hk j hj gt)
        rw [show j + ((cxs Δ Γ0 (tAll B C)).length - j) = (cxs Δ Γ0 (tAll B C)).length by omega] at q
        exact q
    · intro f et tb
      subst et
      obtain ⟨oC, q⟩ := body Δ f k
      exact (ev_smallu e1 hC tb.1 oC q).1
  · subst et
    obtain ⟨oC, q⟩ := body Δ f k
    have ev := (ev_smallu (e := 1) (by decide) hC tk oC q).2
    obtain ⟨-, -, d⟩ := Dsm_num (e := 1) (upb Γ0 Δ B :: cxs Δ Γ0 (tAll B Dsm)) false (by decide)
    rw [up_Dsm, d]
    exact ev
theorem HKs9.ov (e1 : 1 ≤ e) (H : HKs9 B C Γ0) : OVq e B C Dsm Γ0 := by
  have H' := H
  obtain ⟨⟨h16, hB⟩, hC, h0, hkB, hkC⟩ := H'
  refine ⟨⟨by unfold Dsm; exact ok_all.mpr ⟨rfl, rfl⟩, by unfold Dsm; rw [hd_all]; decide⟩, fun Δ hc => ?_⟩
  have K := Ks_KP (e := e) e1 H (cxs Δ Γ0 (tAll B C)).length
  refine ⟨_, K.1, K.2, ?_⟩
  have oA := okc_mid hc
  have oB := (ok_all.mp oA).1
  have oC := (ok_all.mp oA).2
  have le : (cxs Δ Γ0 (tAll B C)).length = Γ0.length + (Δ.length + 1) := by rw [cxs_len]; omega
  have agree : ∀ i, i < Γ0.length → taus C Γ0 i = true → taus C (cxs Δ Γ0 (tAll B C)) i = true := by
    intro i hi q
    unfold taus at q ⊢
    rw [cxs_lowb Δ i hi]
    exact q
  have base : Ks9 B C Γ0 (cxs Δ Γ0 (tAll B C)).length Δ tTop := by
    refine ⟨⟨by omega, Nat.le_refl _⟩, hc, ?_, ?_, rfl, gq_top, ku9_top _ _⟩
    · intro j hj hp
      have hj0 : j < Γ0.length := by omega
      rw [Nat.min_eq_right (by omega)]
      exact gq5 _ _ j (Nat.le_refl _) (okc_bnd' hc hj) (Nat.le_refl _) (fun i hi => Or.inl (by omega))
    · intro j hj hp
      have hj0 : j < Γ0.length := by omega
      have ob := okc_bnd' hc hj
      rw [cxs_lowb Δ j hj0] at ob ⊢
      exact ku9_more _ _ j _ _ (Nat.le_refl _) ob (fun i hi => agree i (by omega)) (h0 j hj0)
  have oUB : ok (cxs Δ Γ0 (tAll B C)).length (upb Γ0 Δ B) = true ∧ ok ((cxs Δ Γ0 (tAll B C)).length + 1) (upb Γ0 Δ C) = true := by
    have a := up_ok (B := B) (C := C) hc
    rw [upb_all] at a
    exact ok_all.mp a
  have gB : gq 5 Γ0.length (cxs Δ Γ0 (tAll B C)).length (upb Γ0 Δ B) = true := by
    refine gq_lft (by decide) (Nat.le_of_eq le) _ B _ (Nat.le_refl _) oB ?_
    rw [Nat.min_eq_right (by omega)]
    exact gq5 _ B _ (Nat.le_refl _) oB (Nat.le_refl _) (fun i hi => Or.inl hi)
  have gC : gq 5 Γ0.length (cxs Δ Γ0 (tAll B C)).length (upb Γ0 Δ C) = true := by
    refine gq_lft (by decide) (Nat.le_of_eq le) _ C _ (Nat.le_refl _) oC ?_
    rw [Nat.min_eq_right (by omega)]
    exact gq5 _ C _ (Nat.le_refl _) oC (by omega) (fun i hi => by omega)
  have kB := ku9_lft (kmu_lft _ _) (k := Γ0.length) (n := Δ.length + 1) _ B Γ0.length (taus C Γ0) (taus C (cxs Δ Γ0 (tAll B C))) (Nat.le_refl _) (Nat.le_refl _) oB (fun i hi q => by rw [if_neg (by omega)]; exact agree i hi q) (tqN_lft (by omega)) hkB
  rw [← le] at kB
  have kC := ku9_lft (kmu_lft _ _) (k := Γ0.length) (n := Δ.length + 1) _ C (Γ0.length + 1) (upds C (taus C Γ0) Γ0.length B) (upds C (taus C (cxs Δ Γ0 (tAll B C))) (cxs Δ Γ0 (tAll B C)).length (upb Γ0 Δ B)) (Nat.le_refl _) (by omega) oC (fun i hi q => by
    unfold upds at q ⊢
    by_cases ei : i = Γ0.length
    · rw [if_pos ei] at q
      rw [if_pos (show Γ0.length ≤ i by omega), if_pos (by omega)]
      exact gks_lft oB q
    · rw [if_neg ei] at q
      have hi0 : i < Γ0.length := by omega
      rw [if_neg (show ¬ Γ0.length ≤ i by omega), if_neg (by omega)]
      exact agree i hi0 q) (tqN_lft (by omega)) hkC
  rw [show Γ0.length + 1 + (Δ.length + 1) = (cxs Δ Γ0 (tAll B C)).length + 1 by omega] at kC
  exact base.ext oUB.1 oUB.2 gB gC kB kC
end PmMc9
