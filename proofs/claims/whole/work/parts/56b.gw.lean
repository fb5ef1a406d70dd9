/-! NOT MORE THAN BY WEIGHTS. -/
def tsw (x : Tsk) : Nat := swt (oms x.1) x.2.1 + swt (oms x.1) x.2.2
theorem tsw_two {x : Tsk} (h : tok x) : 2 ≤ tsw x := by
  have h1 := swt_pos h.1 h.2.1
  have h2 := swt_pos h.1 h.2.2
  unfold tsw
  omega
def gmW (z : Gz) : Nat := if z.1 = 2 then 0 else trw z.2 + tsw z.2 / 2
def gnW (z : Gz) : Nat := if z.1 = 2 then 1 else 4 * tsw z.2 / 5
theorem gmW_eq {w : Nat} {x : Tsk} (h : w ≠ 2) : gmW (w, x) = trw x + tsw x / 2 := if_neg h
theorem gnW_eq {w : Nat} {x : Tsk} (h : w ≠ 2) : gnW (w, x) = 4 * tsw x / 5 := if_neg h
section PmGw
variable {W : Nat} {Γ : List Ty} {ls m m' i : Nat} {X Y : Ty}
theorem gzl_sgm (w2 : W ≠ 2) (hin : bit ls i = true → bit m i = true ∨ bit m' i = true) : sgl gmW (gzl W Γ ls m m' i X Y) ≤ (rwt (omr Γ) X + rwt (omr Γ) Y) + (swt (oms Γ) X + swt (oms Γ) Y) / 2 := by
  rcases gzl_cases (W := W) (Γ := Γ) (X := X) (Y := Y) hin with ⟨h1, h2, h3, e⟩ | ⟨h1, h2, h3, e⟩ | ⟨h1, h2, h3, e⟩ | ⟨h1, e⟩
  · rw [e]
    show gmW (W, Γ, X, Y) + 0 ≤ _
    rw [gmW_eq w2]
    exact Nat.le_refl _
  · rw [e]; exact Nat.zero_le _
  · rw [e]; exact Nat.zero_le _
  · rw [e]; exact Nat.zero_le _
theorem gzl_sgn (w2 : W ≠ 2) (hc : okc Γ) (hX : okl Γ.length m i X) (hY : okl Γ.length m' i Y) (hin : bit ls i = true → bit m i = true ∨ bit m' i = true) : sgl gnW (gzl W Γ ls m m' i X Y) ≤ (4 * (swt (oms Γ) X + swt (oms Γ) Y) + 1) / 5 := by
  rcases gzl_cases (W := W) (Γ := Γ) (X := X) (Y := Y) hin with ⟨h1, h2, h3, e⟩ | ⟨h1, h2, h3, e⟩ | ⟨h1, h2, h3, e⟩ | ⟨h1, e⟩
  · rw [e]
    show gnW (W, Γ, X, Y) + 0 ≤ _
    rw [gnW_eq w2]
    show 4 * (swt (oms Γ) X + swt (oms Γ) Y) / 5 + 0 ≤ _
    omega
  · have o := swt_pos hc (okl_on hX (bit_iff.mp h2))
    rw [e]
    show 1 + 0 ≤ _
    omega
  · have o := swt_pos hc (okl_on hY (bit_iff.mp h3))
    rw [e]
    show 1 + 0 ≤ _
    omega
  · rw [e]; exact Nat.zero_le _
end PmGw
theorem gW_step {w : Nat} {Γ : List Ty} {S T : Ty} (h : tok (Γ, S, T)) (w2 : w ≠ 2) : gro (w, Γ, S, T) + sgl gmW (gcs (w, Γ, S, T)) ≤ gmW (w, Γ, S, T) ∧ gno (w, Γ, S, T) + sgl gnW (gcs (w, Γ, S, T)) ≤ gnW (w, Γ, S, T) := by
  have hc : okc Γ := h.1
  have hS : ok Γ.length S = true := h.2.1
  have hT : ok Γ.length T = true := h.2.2
  have t2 : 2 ≤ swt (oms Γ) S + swt (oms Γ) T := tsw_two h
  have em : gmW (w, Γ, S, T) = (rwt (omr Γ) S + rwt (omr Γ) T) + (swt (oms Γ) S + swt (oms Γ) T) / 2 := gmW_eq w2
  have en : gnW (w, Γ, S, T) = 4 * (swt (oms Γ) S + swt (oms Γ) T) / 5 := gnW_eq w2
  rcases gcs_cases (w := w) h w2 with ⟨e, e1, e2⟩ | ⟨w1, k, hk, rfl, e, e1, e2⟩ | ⟨w1, -, k, hk, rfl, e, e1, e2⟩ | ⟨m, X0, X1, X2, m', Y0, Y1, Y2, hm, hm', rfl, rfl, e, e1, e2⟩ | ⟨A, C, A', C', rfl, rfl, e, e1, e2⟩ | ⟨A, C, C', rfl, rfl, e, e1, e2⟩
  · rw [e, em, en, e2]
    show _ + 0 ≤ _ ∧ 1 + 0 ≤ _
    omega
  · rw [e, em, en, e1, e2]
    show 1 + (gmW (w, Γ, lft k (Γ.length - k) (bnd Γ k), T) + 0) ≤ _ ∧ 0 + (gnW (w, Γ, lft k (Γ.length - k) (bnd Γ k), T) + 0) ≤ _
    rw [gmW_eq w2, gnW_eq w2]
    show 1 + ((rwt (omr Γ) (lft k (Γ.length - k) (bnd Γ k)) + rwt (omr Γ) T) + (swt (oms Γ) (lft k (Γ.length - k) (bnd Γ k)) + swt (oms Γ) T) / 2 + 0) ≤ _ ∧ 0 + (4 * (swt (oms Γ) (lft k (Γ.length - k) (bnd Γ k)) + swt (oms Γ) T) / 5 + 0) ≤ _
    rw [rwt_expose hc hk, rwt_var, swt_expose hc hk, swt_var]; omega
  · rw [e, em, en, e1, e2]
    show 1 + (gmW (w, Γ, S, lft k (Γ.length - k) (bnd Γ k)) + 0) ≤ _ ∧ 0 + (gnW (w, Γ, S, lft k (Γ.length - k) (bnd Γ k)) + 0) ≤ _
    rw [gmW_eq w2, gnW_eq w2]
    show 1 + ((rwt (omr Γ) S + rwt (omr Γ) (lft k (Γ.length - k) (bnd Γ k))) + (swt (oms Γ) S + swt (oms Γ) (lft k (Γ.length - k) (bnd Γ k))) / 2 + 0) ≤ _ ∧ 0 + (4 * (swt (oms Γ) S + swt (oms Γ) (lft k (Γ.length - k) (bnd Γ k))) / 5 + 0) ≤ _
    rw [rwt_expose hc hk, rwt_var, swt_expose hc hk, swt_var]; omega
  · have oS := (ok_rec hm).mp hS
    have oT := (ok_rec hm').mp hT
    have i0 := lset_in w m hm m' hm' 0 (by decide)
    have i1 := lset_in w m hm m' hm' 1 (by decide)
    have i2 := lset_in w m hm m' hm' 2 (by decide)
    have s0 := gzl_sgm (Γ := Γ) (X := X0) (Y := Y0) w2 i0
    have s1 := gzl_sgm (Γ := Γ) (X := X1) (Y := Y1) w2 i1
    have s2 := gzl_sgm (Γ := Γ) (X := X2) (Y := Y2) w2 i2
    have m0 := gzl_sgn w2 hc oS.1 oT.1 i0
    have m1 := gzl_sgn w2 hc oS.2.1 oT.2.1 i1
    have m2 := gzl_sgn w2 hc oS.2.2 oT.2.2 i2
    rw [rwt_rec, rwt_rec, swt_rec, swt_rec] at em
    rw [swt_rec, swt_rec] at en
    rw [e, em, en, e1, e2, sgl_app, sgl_app, sgl_app, sgl_app]
    omega
  · rw [rwt_fun, rwt_fun, swt_fun, swt_fun] at em
    rw [swt_fun, swt_fun] at en
    have w3 : 1 - w ≠ 2 := by omega
    rw [e, em, en, e1, e2]
    show 1 + (gmW (1 - w, Γ, A, A') + (gmW (w, Γ, C, C') + 0)) ≤ _ ∧ 1 + (gnW (1 - w, Γ, A, A') + (gnW (w, Γ, C, C') + 0)) ≤ _
    rw [gmW_eq w3, gnW_eq w3, gmW_eq w2, gnW_eq w2]
    show 1 + ((rwt (omr Γ) A + rwt (omr Γ) A') + (swt (oms Γ) A + swt (oms Γ) A') / 2 + ((rwt (omr Γ) C + rwt (omr Γ) C') + (swt (oms Γ) C + swt (oms Γ) C') / 2 + 0)) ≤ _ ∧ 1 + (4 * (swt (oms Γ) A + swt (oms Γ) A') / 5 + (4 * (swt (oms Γ) C + swt (oms Γ) C') / 5 + 0)) ≤ _
    omega
  · rw [rwt_all, rwt_all, swt_all, swt_all] at em
    rw [swt_all, swt_all] at en
    rw [e, em, en, e1, e2]
    show 2 + (gmW (w, A :: Γ, C, C') + 0) ≤ _ ∧ 1 + (gnW (w, A :: Γ, C, C') + 0) ≤ _
    rw [gmW_eq w2, gnW_eq w2]
    show 2 + ((rwt (rwt (omr Γ) A :: omr Γ) C + rwt (rwt (omr Γ) A :: omr Γ) C') + (swt (swt (oms Γ) A :: oms Γ) C + swt (swt (oms Γ) A :: oms Γ) C') / 2 + 0) ≤ _ ∧ 1 + (4 * (swt (swt (oms Γ) A :: oms Γ) C + swt (swt (oms Γ) A :: oms Γ) C') / 5 + 0) ≤ _
    omega
/-- what keeps the steps is no less -/
theorem gm_least {μ : Gz → Nat} (P : Gz → Prop) (hP : ∀ z, P z → z.1 ≠ 2 → tok z.2 ∧ (∀ y ∈ gcs z, P y) ∧ tru z.2 ≤ μ z ∧ gro z + sgl (fun y => if y.1 = 2 then 0 else μ y) (gcs z) ≤ μ z) : ∀ (f : Nat) (z : Gz), P z → z.1 ≠ 2 → gmf f z ≤ μ z
  | 0, _, _, _ => Nat.zero_le _
  | f + 1, z, h, w2 => by
    obtain ⟨t, c, a, b⟩ := hP z h w2
    unfold gmf
    rw [if_neg w2]
    refine Nat.max_le.mpr ⟨a, Nat.le_trans (Nat.add_le_add_left (sgl_mono (fun y hy => ?_)) _) b⟩
    show gmf f y ≤ if y.1 = 2 then 0 else μ y
    by_cases e : y.1 = 2
    · rw [if_pos e, gmf_two _ e]; exact Nat.le_refl _
    · rw [if_neg e]; exact gm_least P hP f y (c y hy) e
theorem gn_least {μ : Gz → Nat} (P : Gz → Prop) (hP : ∀ z, P z → z.1 ≠ 2 → tok z.2 ∧ (∀ y ∈ gcs z, P y) ∧ 1 ≤ μ z ∧ gno z + sgl (fun y => if y.1 = 2 then 1 else μ y) (gcs z) ≤ μ z) : ∀ (f : Nat) (z : Gz), P z → z.1 ≠ 2 → gnf f z ≤ μ z
  | 0, z, h, w2 => (hP z h w2).2.2.1
  | f + 1, z, h, w2 => by
    obtain ⟨t, c, a, b⟩ := hP z h w2
    unfold gnf
    rw [if_neg w2]
    refine Nat.max_le.mpr ⟨a, Nat.le_trans (Nat.add_le_add_left (sgl_mono (fun y hy => ?_)) _) b⟩
    show gnf f y ≤ if y.1 = 2 then 1 else μ y
    by_cases e : y.1 = 2
    · rw [if_pos e, gnf_two _ e]; exact Nat.le_refl _
    · rw [if_neg e]; exact gn_least P hP f y (c y hy) e
theorem gm_gmW {z : Gz} (h : tok z.2) (w2 : z.1 ≠ 2) : gm z ≤ trw z.2 + tsw z.2 / 2 ∧ gn z ≤ 4 * tsw z.2 / 5 := by
  have a1 := gm_least (μ := gmW) (fun z => tok z.2) (fun z t w2 => by
    have t2 := tsw_two t
    have t3 := tru_trw t
    refine ⟨t, fun y hy => (gcs_w (w := z.1) (Γ := z.2.1) (S := z.2.2.1) (T := z.2.2.2) t w2 y hy).1, ?_, ?_⟩
    · unfold gmW; rw [if_neg w2]; omega
    · refine Nat.le_trans (Nat.add_le_add_left (sgl_mono (fun y hy => ?_)) _) (gW_step (w := z.1) (Γ := z.2.1) (S := z.2.2.1) (T := z.2.2.2) t w2).1
      show (if y.1 = 2 then 0 else gmW y) ≤ gmW y
      split
      · exact Nat.zero_le _
      · exact Nat.le_refl _) (twt z.2) z h w2
  have a2 := gn_least (μ := gnW) (fun z => tok z.2) (fun z t w2 => by
    have t2 := tsw_two t
    refine ⟨t, fun y hy => (gcs_w (w := z.1) (Γ := z.2.1) (S := z.2.2.1) (T := z.2.2.2) t w2 y hy).1, ?_, ?_⟩
    · unfold gnW; rw [if_neg w2]; omega
    · refine Nat.le_trans (Nat.add_le_add_left (sgl_mono (fun y hy => ?_)) _) (gW_step (w := z.1) (Γ := z.2.1) (S := z.2.2.1) (T := z.2.2.2) t w2).2
      show (if y.1 = 2 then 1 else gnW y) ≤ gnW y
      split
      · rename_i e; unfold gnW; rw [if_pos e]; exact Nat.le_refl _
      · exact Nat.le_refl _) (twt z.2) z h w2
  unfold gmW at a1
  unfold gnW at a2
  rw [if_neg w2] at a1 a2
  exact ⟨a1, a2⟩
