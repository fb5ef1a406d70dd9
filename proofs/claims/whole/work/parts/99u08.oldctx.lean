/-! A SCHEME WHOSE INNER SCHEMES HAVE BODIES OF ANOTHER KIND: its body may be replaced by a small one. -/
section PmUg
variable {e w : Nat} {Γ : List Ty} {S T : Ty}
theorem trx_mis2 (nS : ¬ 16 ≤ hd S) (e1 : hd S = 2) (e2 : hd T = 2) (ne : flat (k1 S) ≠ flat (k1 T)) : trx (Γ, S, T) = 0 := by
  refine trx_none ?_
  show stp Γ S T = none
  unfold stp
  rw [if_neg (by omega), if_neg nS, if_neg (by omega), if_neg (by omega), if_neg (by omega), if_neg ne]
theorem gm_mis2 (tk : tok (Γ, S, T)) (w1 : w ≤ 1) (e1 : hd S = 2) (e2 : hd T = 2) (ne : flat (k1 S) ≠ flat (k1 T)) : gm (w, Γ, S, T) ≤ 1 ∧ gn (w, Γ, S, T) ≤ 1 := by
  have w2 : w ≠ 2 := by omega
  have t1 : trx (Γ, S, T) = 0 := trx_mis2 (by omega) e1 e2 ne
  have t2 : trx (Γ, T, S) = 0 := trx_mis2 (by omega) e2 e1 (fun h => ne h.symm)
  have tu : tru (Γ, S, T) = 0 := by
    show max (trx (Γ, S, T)) (trx (Γ, T, S)) = 0
    omega
  have key : gcs (w, Γ, S, T) = [] ∧ gro (w, Γ, S, T) ≤ 1 ∧ gno (w, Γ, S, T) = 1 := by
    by_cases b : bel Γ S T = true
    · exact gcs_bel1 w2 b
    by_cases b' : bel Γ T S = true
    · exact gcs_bel2 w2 b b'
    · exact gcs_no w2 b b' (by omega) (by omega) (by omega) (by omega) (fun h => ne h.2.2)
  have a1 := gm_unf (z := (w, Γ, S, T)) tk w2
  have a2 := gn_unf (z := (w, Γ, S, T)) tk w2
  rw [key.1] at a1 a2
  have a1 : gm (w, Γ, S, T) = max (tru (Γ, S, T)) (gro (w, Γ, S, T) + 0) := a1
  have a2 : gn (w, Γ, S, T) = max 1 (gno (w, Γ, S, T) + 0) := a2
  rw [a1, a2, tu]
  omega
theorem trx_mis (nS : ¬ 16 ≤ hd S) (ne : hd S ≠ hd T) (nr : ¬ (8 ≤ hd S ∧ 8 ≤ hd T ∧ hd T < 16)) : trx (Γ, S, T) = 0 := by
  by_cases h0 : hd T = 0
  · exact trf_top _ h0
  · refine trx_none ?_
    show stp Γ S T = none
    unfold stp
    rw [if_neg (by omega), if_neg nS, if_neg nr, if_pos (Or.inl ne)]
theorem gm_mis (tk : tok (Γ, S, T)) (w1 : w ≤ 1) (nS : ¬ 16 ≤ hd S) (nT : ¬ 16 ≤ hd T) (ne : hd S ≠ hd T) (nr : ¬ (8 ≤ hd S ∧ 8 ≤ hd T)) : gm (w, Γ, S, T) ≤ 1 ∧ gn (w, Γ, S, T) ≤ 1 := by
  have w2 : w ≠ 2 := by omega
  have t1 : trx (Γ, S, T) = 0 := trx_mis nS ne (fun h => nr ⟨h.1, h.2.1⟩)
  have t2 : trx (Γ, T, S) = 0 := trx_mis nT (fun h => ne h.symm) (fun h => nr ⟨h.2.1, h.1⟩)
  have tu : tru (Γ, S, T) = 0 := by
    show max (trx (Γ, S, T)) (trx (Γ, T, S)) = 0
    omega
  have key : gcs (w, Γ, S, T) = [] ∧ gro (w, Γ, S, T) ≤ 1 ∧ gno (w, Γ, S, T) = 1 := by
    by_cases b : bel Γ S T = true
    · exact gcs_bel1 w2 b
    by_cases b' : bel Γ T S = true
    · exact gcs_bel2 w2 b b'
    · exact gcs_no w2 b b' nS nT nr (by omega) (by omega)
  have a1 := gm_unf (z := (w, Γ, S, T)) tk w2
  have a2 := gn_unf (z := (w, Γ, S, T)) tk w2
  rw [key.1] at a1 a2
  have a1 : gm (w, Γ, S, T) = max (tru (Γ, S, T)) (gro (w, Γ, S, T) + 0) := a1
  have a2 : gn (w, Γ, S, T) = max 1 (gno (w, Γ, S, T) + 0) := a2
  rw [a1, a2, tu]
  omega
/-- a variable whose bound is Top against what is no variable -/
theorem var_mis {j : Nat} (tk : tok (Γ, tVar j, T)) (h0 : hd (bnd Γ j) = 0) (nT : ¬ 16 ≤ hd T) (nz' : hd T ≠ 0) : trx (Γ, tVar j, T) ≤ 1 ∧ trx (Γ, T, tVar j) = 0 ∧ gm (0, Γ, tVar j, T) ≤ 2 ∧ gm (0, Γ, T, tVar j) ≤ 2 ∧ gn (0, Γ, tVar j, T) ≤ 1 ∧ gn (0, Γ, T, tVar j) ≤ 1 := by
  have hc : okc Γ := tk.1
  have hj : j < Γ.length := by
    have o : ok Γ.length (tVar j) = true := tk.2.1
    rcases ok_cases o with h | ⟨k, hk, h⟩ | ⟨a, b, h, -, -⟩ | ⟨a, b, h, -, -⟩ | ⟨m, x, y, z, hm, h, -, -, -⟩
    · have := congrArg hd h; rw [hd_var, hd_top] at this; omega
    · have := congrArg hd h; rw [hd_var, hd_var] at this; omega
    · have := congrArg hd h; rw [hd_var, hd_fun] at this; omega
    · have := congrArg hd h; rw [hd_var, hd_all] at this; omega
    · have := congrArg hd h; rw [hd_var, hd_rec] at this; omega
  have hT : ok Γ.length T = true := tk.2.2
  have eb : bnd Γ j = tTop := by
    rcases ok_cases (okc_bnd' hc hj) with h | ⟨k, hk, h⟩ | ⟨a, b, h, -, -⟩ | ⟨a, b, h, -, -⟩ | ⟨m, x, y, z, hm, h, -, -, -⟩
    · exact h
    · rw [h, hd_var] at h0; omega
    · rw [h, hd_fun] at h0; omega
    · rw [h, hd_all] at h0; omega
    · rw [h, hd_rec] at h0; omega
  have ex : lft j (Γ.length - j) (bnd Γ j) = tTop := by rw [eb]; exact lft_top _ _
  have ht : hd tTop = 0 := hd_top
  have q0 : trx (Γ, tTop, T) = 0 := trx_mis (by omega) (by omega) (by omega)
  have t1 : trx (Γ, tVar j, T) ≤ 1 := by
    have et := trf_var (twt (Γ, tVar j, T)) Γ j T nz' (by omega)
    have et2 : trf (twt (Γ, tVar j, T)) (Γ, tVar j, T) ≤ trf (twt (Γ, tVar j, T) + 1) (Γ, tVar j, T) := trf_up _ _
    rw [et, ex] at et2
    have q1 := trf_trx (z := (Γ, tTop, T)) ⟨hc, rfl, hT⟩ (twt (Γ, tVar j, T))
    have e3 : trx (Γ, tVar j, T) = trf (twt (Γ, tVar j, T)) (Γ, tVar j, T) := rfl
    omega
  have t2 : trx (Γ, T, tVar j) = 0 := trx_mis nT (by rw [hd_var]; omega) (by rw [hd_var]; omega)
  have m1 := gm_mis (w := 0) (Γ := Γ) (S := tTop) (T := T) ⟨hc, rfl, hT⟩ (by decide) (by omega) nT (by omega) (by omega)
  have m2 := gm_mis (w := 0) (Γ := Γ) (S := T) (T := tTop) ⟨hc, hT, rfl⟩ (by decide) nT (by omega) (by omega) (by omega)
  have tk2 : tok (Γ, T, tVar j) := ⟨hc, hT, tk.2.1⟩
  have tu : tru (Γ, tVar j, T) ≤ 1 := by
    show max (trx (Γ, tVar j, T)) (trx (Γ, T, tVar j)) ≤ 1
    omega
  have tu2 : tru (Γ, T, tVar j) ≤ 1 := by
    show max (trx (Γ, T, tVar j)) (trx (Γ, tVar j, T)) ≤ 1
    omega
  have k1 : gro (0, Γ, tVar j, T) + sgl gm (gcs (0, Γ, tVar j, T)) ≤ 2 ∧ gno (0, Γ, tVar j, T) + sgl gn (gcs (0, Γ, tVar j, T)) ≤ 1 := by
    rcases gcs_cases (w := 0) tk (by decide) with ⟨g1, g2, g3⟩ | ⟨q1, k, hk, eS, g1, g2, g3⟩ | ⟨q1, n1, k, hk, eT, g1, g2, g3⟩ | ⟨m, X0, X1, X2, m', Y0, Y1, Y2, hm, hm', eS, eT, g1, g2, g3⟩ | ⟨A, F, A', F', eS, eT, g1, g2, g3⟩ | ⟨A, F, F', eS, eT, g1, g2, g3⟩
    · rw [g1, g3]
      exact ⟨by show gro _ + 0 ≤ 2; omega, Nat.le_refl _⟩
    · have ek : j = k := by
        have := congrArg hd eS
        rw [hd_var, hd_var] at this
        omega
      subst ek
      rw [g1, g2, g3, ex]
      exact ⟨by show 1 + (gm (0, Γ, tTop, T) + 0) ≤ 2; omega, by show 0 + (gn (0, Γ, tTop, T) + 0) ≤ 1; omega⟩
    · exact absurd (show 16 ≤ hd (tVar j) by rw [hd_var]; omega) n1
    · have := congrArg hd eS; rw [hd_var, hd_rec] at this; omega
    · have := congrArg hd eS; rw [hd_var, hd_fun] at this; omega
    · have := congrArg hd eS; rw [hd_var, hd_all] at this; omega
  have k2 : gro (0, Γ, T, tVar j) + sgl gm (gcs (0, Γ, T, tVar j)) ≤ 2 ∧ gno (0, Γ, T, tVar j) + sgl gn (gcs (0, Γ, T, tVar j)) ≤ 1 := by
    rcases gcs_cases (w := 0) tk2 (by decide) with ⟨g1, g2, g3⟩ | ⟨q1, k, hk, eS, g1, g2, g3⟩ | ⟨q1, n1, k, hk, eT, g1, g2, g3⟩ | ⟨m, X0, X1, X2, m', Y0, Y1, Y2, hm, hm', eS, eT, g1, g2, g3⟩ | ⟨A, F, A', F', eS, eT, g1, g2, g3⟩ | ⟨A, F, F', eS, eT, g1, g2, g3⟩
    · rw [g1, g3]
      exact ⟨by show gro _ + 0 ≤ 2; omega, Nat.le_refl _⟩
    · rw [eS, hd_var] at nT; omega
    · have ek : j = k := by
        have := congrArg hd eT
        rw [hd_var, hd_var] at this
        omega
      subst ek
      rw [g1, g2, g3, ex]
      exact ⟨by show 1 + (gm (0, Γ, T, tTop) + 0) ≤ 2; omega, by show 0 + (gn (0, Γ, T, tTop) + 0) ≤ 1; omega⟩
    · have := congrArg hd eT; rw [hd_var, hd_rec] at this; omega
    · have := congrArg hd eT; rw [hd_var, hd_fun] at this; omega
    · have := congrArg hd eT; rw [hd_var, hd_all] at this; omega
  have a1 := gm_unf (z := (0, Γ, tVar j, T)) tk (show (0 : Nat) ≠ 2 by decide)
  have a2 := gn_unf (z := (0, Γ, tVar j, T)) tk (show (0 : Nat) ≠ 2 by decide)
  have a3 := gm_unf (z := (0, Γ, T, tVar j)) tk2 (show (0 : Nat) ≠ 2 by decide)
  have a4 := gn_unf (z := (0, Γ, T, tVar j)) tk2 (show (0 : Nat) ≠ 2 by decide)
  have a1 : gm (0, Γ, tVar j, T) = max (tru (Γ, tVar j, T)) (gro (0, Γ, tVar j, T) + sgl gm (gcs (0, Γ, tVar j, T))) := a1
  have a3 : gm (0, Γ, T, tVar j) = max (tru (Γ, T, tVar j)) (gro (0, Γ, T, tVar j) + sgl gm (gcs (0, Γ, T, tVar j))) := a3
  refine ⟨t1, t2, ?_, ?_, ?_, ?_⟩ <;> omega
end PmUg
/-- another kind -/
def kmm (d c : Nat) : Bool := decide ((c = 1 ∧ d ≠ 1) ∨ (c = 2 ∧ d ≠ 2) ∨ (8 ≤ c ∧ d < 8))
/-- a type's nodes, its variables alike -/
def shp (t : Ty) : List Int := (flat t).map (fun c => if 16 ≤ c then 16 else c)
theorem shp_lft (k n : Nat) (t : Ty) : shp (lft k n t) = shp t := by
  unfold shp
  rw [flat_lft, List.map_map]
  refine List.map_congr_left (fun c _ => ?_)
  show (if 16 ≤ lfc k n c then (16 : Int) else lfc k n c) = _
  unfold lfc
  split <;> split <;> (try split) <;> omega
/-- another kind, or a scheme whose bound looks otherwise -/
def kms (C b : Ty) : Bool := kmm (hd C) (hd b) || decide (hd b = 2 ∧ hd C = 2 ∧ shp (k1 b) ≠ shp (k1 C))
theorem kms_lft {C : Ty} (k n : Nat) (t : Ty) (d : Nat) (o : ok d t = true) (v : hd t < 16) : kms C (lft k n t) = kms C t := by
  have e := (hd_lft0 (k := k) (n := n) o).2 v
  unfold kms
  rw [e]
  by_cases h2 : hd t = 2
  · rcases ok_cases o with rfl | ⟨j, hj, rfl⟩ | ⟨a, b, rfl, ha, hb⟩ | ⟨a, b, rfl, ha, hb⟩ | ⟨c, x, y, z, hm, rfl, h0, h1, h2'⟩
    · rw [hd_top] at h2; omega
    · rw [hd_var] at h2; omega
    · rw [hd_fun] at h2; omega
    · rw [lft_all]
      have e1 : k1 (tAll (lft k n a) (lft k n b)) = lft k n a := rfl
      have e2 : k1 (tAll a b) = a := rfl
      rw [e1, e2, shp_lft]
    · rw [hd_rec] at h2; omega
  · have z1 : ¬ (hd t = 2 ∧ hd C = 2 ∧ shp (k1 (lft k n t)) ≠ shp (k1 C)) := fun h => h2 h.1
    have z2 : ¬ (hd t = 2 ∧ hd C = 2 ∧ shp (k1 t) ≠ shp (k1 C)) := fun h => h2 h.1
    rw [decide_eq_false z1, decide_eq_false z2]
def tauc (Γ : List Ty) : Nat → Bool := fun i => decide (hd (bnd Γ i) = 0)
def Dsm : Ty := tAll tTop tTop
section PmUh
variable {e : Nat} {B C : Ty} {Γ0 : List Ty} {h : Nat}
theorem up_Dsm (Δ : List Ty) : upb Γ0 Δ Dsm = Dsm := by
  unfold upb Dsm
  rw [lft_all, lft_top]
theorem Dsm_num (Γ : List Ty) (b : Bool) (e1 : 1 ≤ e) : pmz (qu e) true (oq (qu e) Γ) Dsm = 1 ∧ 3 ≤ urm b e 0 Γ Dsm ∧ gz Γ Dsm = 2 := by
  refine ⟨?_, ?_, ?_⟩
  · have p1 : pmz (qu e) true (oq (qu e) Γ) (tAll tTop tTop) = 1 + pmz (qu e) true (oq (qu e) (tTop :: Γ)) tTop := pmz_all _ _ _
    unfold Dsm
    rw [p1, pmz_top]
    rfl
  · have p1 : urm b e 0 Γ (tAll tTop tTop) = (2 + e) + urm b e 0 (tTop :: Γ) tTop := mrz_all _ _ _ _
    unfold Dsm
    rw [p1]
    omega
  · unfold Dsm
    rw [gz_all, gz_top]
/-- a small walk -/
theorem ev_small (e1 : 1 ≤ e) (hC : hd C ≠ 0 ∧ hd C < 16) {Δ : List Ty} {f : Ty} (tk : tok (upb Γ0 Δ B :: cxs Δ Γ0 (tAll B C), f, upb Γ0 Δ C)) (oC : ok (Γ0.length + 1) C = true) (q : bdk (kms C) (updt (tauc (cxs Δ Γ0 (tAll B C))) (cxs Δ Γ0 (tAll B C)).length (upb Γ0 Δ B)) f = true) : EVb e B C Dsm Γ0 Δ f ∧ gn (0, upb Γ0 Δ B :: cxs Δ Γ0 (tAll B C), f, upb Γ0 Δ C) ≤ 2 ∧ gn (0, upb Γ0 Δ B :: cxs Δ Γ0 (tAll B C), upb Γ0 Δ C, f) ≤ 2 := by
  have hX : hd (upb Γ0 Δ C) = hd C := (hd_lft0 oC).2 hC.2
  have nX : ¬ 16 ≤ hd (upb Γ0 Δ C) := by omega
  have tk2 : tok (upb Γ0 Δ B :: cxs Δ Γ0 (tAll B C), upb Γ0 Δ C, f) := ⟨tk.1, tk.2.2, tk.2.1⟩
  obtain ⟨d1, d2, -⟩ := Dsm_num (upb Γ0 Δ B :: cxs Δ Γ0 (tAll B Dsm)) false e1
  obtain ⟨-, d3, -⟩ := Dsm_num (upb Γ0 Δ B :: cxs Δ Γ0 (tAll B Dsm)) true e1
  unfold EVb
  rw [up_Dsm, d1]
  unfold bdk at q
  rw [Bool.or_eq_true] at q
  by_cases v : 16 ≤ hd f
  · obtain ⟨j, hj, rfl⟩ := hd_is_var tk.2.1 v
    rw [if_pos v, hd_var, show 16 + j - 16 = j by omega] at q
    have q : updt (tauc (cxs Δ Γ0 (tAll B C))) (cxs Δ Γ0 (tAll B C)).length (upb Γ0 Δ B) j = true := by
      rcases q with q | q
      · rw [decide_eq_true_iff] at q; omega
      · exact q
    have hb : hd (bnd (upb Γ0 Δ B :: cxs Δ Γ0 (tAll B C)) j) = 0 := by
      unfold updt tauc at q
      show hd (if j = (cxs Δ Γ0 (tAll B C)).length then upb Γ0 Δ B else bnd (cxs Δ Γ0 (tAll B C)) j) = 0
      by_cases ej : j = (cxs Δ Γ0 (tAll B C)).length
      · rw [if_pos ej] at q ⊢
        exact decide_eq_true_iff.mp q
      · rw [if_neg ej] at q ⊢
        exact decide_eq_true_iff.mp q
    obtain ⟨r1, r2, r3, r4, r5, r6⟩ := var_mis tk hb nX (by omega)
    refine ⟨⟨r1, by rw [r2]; omega, by omega, by omega⟩, by omega, by omega⟩
  · by_cases kk : hd f = 2 ∧ hd C = 2 ∧ shp (k1 f) ≠ shp (k1 C)
    · have hX2 : hd (upb Γ0 Δ C) = 2 := by rw [hX]; exact kk.2.1
      have ne : flat (k1 f) ≠ flat (k1 (upb Γ0 Δ C)) := by
        intro he
        refine kk.2.2 ?_
        have e1 : shp (k1 f) = shp (k1 (upb Γ0 Δ C)) := by unfold shp; rw [he]
        rw [e1]
        have e2 : k1 (upb Γ0 Δ C) = upb Γ0 Δ (k1 C) := by
          rcases ok_cases oC with h | ⟨j, hj, h⟩ | ⟨a, b, h, -, -⟩ | ⟨a, b, h, -, -⟩ | ⟨m, x, y, z, hm, h, -, -, -⟩
          · have := congrArg hd h; rw [kk.2.1, hd_top] at this; omega
          · have := congrArg hd h; rw [kk.2.1, hd_var] at this; omega
          · have := congrArg hd h; rw [kk.2.1, hd_fun] at this; omega
          · rw [h]; unfold upb; rw [lft_all]; rfl
          · have := congrArg hd h; rw [kk.2.1, hd_rec] at this; omega
        rw [e2]
        unfold upb
        exact shp_lft _ _ _
      have g1 := gm_mis2 (w := 0) tk (by decide) kk.1 hX2 ne
      have g2 := gm_mis2 (w := 0) tk2 (by decide) hX2 kk.1 (fun h => ne h.symm)
      have t1 : trx (upb Γ0 Δ B :: cxs Δ Γ0 (tAll B C), f, upb Γ0 Δ C) = 0 := trx_mis2 v kk.1 hX2 ne
      have t2 : trx (upb Γ0 Δ B :: cxs Δ Γ0 (tAll B C), upb Γ0 Δ C, f) = 0 := trx_mis2 nX hX2 kk.1 (fun h => ne h.symm)
      refine ⟨⟨by omega, by omega, by omega, by omega⟩, by omega, by omega⟩
    have nm : hd f ≠ hd (upb Γ0 Δ C) ∧ ¬ (8 ≤ hd f ∧ 8 ≤ hd (upb Γ0 Δ C)) := by
      rw [hX]
      rw [if_neg v] at q
      rcases q with q | q
      · rw [decide_eq_true_iff] at q
        omega
      · unfold kms at q
        rw [Bool.or_eq_true, decide_eq_true_iff] at q
        rcases q with q | q
        · unfold kmm at q
          rw [decide_eq_true_iff] at q
          omega
        · exact absurd q kk
    have g1 := gm_mis (w := 0) tk (by decide) v nX nm.1 nm.2
    have g2 := gm_mis (w := 0) tk2 (by decide) nX v (fun h => nm.1 h.symm) (fun h => nm.2 ⟨h.2, h.1⟩)
    have t1 : trx (upb Γ0 Δ B :: cxs Δ Γ0 (tAll B C), f, upb Γ0 Δ C) = 0 := trx_mis v nm.1 (fun h => nm.2 ⟨h.1, h.2.1⟩)
    have t2 : trx (upb Γ0 Δ B :: cxs Δ Γ0 (tAll B C), upb Γ0 Δ C, f) = 0 := trx_mis nX (fun h => nm.1 h.symm) (fun h => nm.2 ⟨h.2.1, h.1⟩)
    refine ⟨⟨by omega, by omega, by omega, by omega⟩, by omega, by omega⟩
end PmUh
