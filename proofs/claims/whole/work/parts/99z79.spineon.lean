/-! ON: records, functions, the scheme itself, the whole bound. -/
section PmIk
variable {β : Ty} {Γ0 Δ : List Ty} {Kp : List Ty → Ty → Prop} {a c x y z : Ty} {p r g p0 p1 p2 r0 r1 r2 g0 g1 g2 m : Nat}
theorem land_bit : ∀ m, m < 8 → ∀ m', m' < 8 → ∀ i, i < 3 → bit (lset 0 m m') i = true → bit m i = true ∧ bit m' i = true := by decide
/-- goals and rows of two records at one label, joins -/
theorem gzl_h {f : Gz → Nat} {m m' i v : Nat} {Γ : List Ty} {X Y : Ty} (hm : m < 8) (hm' : m' < 8) (hi : i < 3) (hf : bit m i = true → bit m' i = true → f (0, Γ, X, Y) ≤ v) : sgl f (gzl 0 Γ (lset 0 m m') m m' i X Y) ≤ v := by
  unfold gzl
  by_cases q : bit (lset 0 m m') i = true
  · obtain ⟨q1, q2⟩ := land_bit m hm m' hm' i hi q
    rw [if_pos q, if_pos q1, if_pos q2]
    have := hf q1 q2
    show f (0, Γ, X, Y) + 0 ≤ v
    omega
  · rw [if_neg q]
    exact Nat.zero_le _
theorem TB_rec {Γ : List Ty} {m m' : Nat} {x y z x' y' z' : Ty} (hm : m < 8) (hm' : m' < 8) (tb : TB 1 (Γ, tRec m x y z, tRec m' x' y' z')) : (bit m 0 = true → bit m' 0 = true → TB 1 (Γ, x, x')) ∧ (bit m 1 = true → bit m' 1 = true → TB 1 (Γ, y, y')) ∧ (bit m 2 = true → bit m' 2 = true → TB 1 (Γ, z, z')) := by
  have hS : ok Γ.length (tRec m x y z) = true := tb.1.2.1
  have hT : ok Γ.length (tRec m' x' y' z') = true := tb.1.2.2
  have oS := (ok_rec hm).mp hS
  have oT := (ok_rec hm').mp hT
  have dS := (cbd_rec _ _ _ _).mp tb.2.2.1
  have dT := (cbd_rec _ _ _ _).mp tb.2.2.2
  exact ⟨fun b b' => ⟨⟨tb.1.1, okl_on oS.1 (bit_iff.mp b), okl_on oT.1 (bit_iff.mp b')⟩, tb.2.1, dS.1, dT.1⟩, fun b b' => ⟨⟨tb.1.1, okl_on oS.2.1 (bit_iff.mp b), okl_on oT.2.1 (bit_iff.mp b')⟩, tb.2.1, dS.2.1, dT.2.1⟩, fun b b' => ⟨⟨tb.1.1, okl_on oS.2.2 (bit_iff.mp b), okl_on oT.2.2 (bit_iff.mp b')⟩, tb.2.1, dS.2.2, dT.2.2⟩⟩
theorem HN9_rec {Kp' : List Ty → Ty → Prop} (K : ∀ t, Kp Δ t → ∀ m x y z, m < 8 → t = tRec m x y z → (bit m 0 = true → Kp' Δ x) ∧ (bit m 1 = true → Kp' Δ y) ∧ (bit m 2 = true → Kp' Δ z)) (hm : m < 8) (h0 : bit m 0 = true → HA9 β Γ0 Kp' Δ x p0 r0 g0) (h1 : bit m 1 = true → HA9 β Γ0 Kp' Δ y p1 r1 g1) (h2 : bit m 2 = true → HA9 β Γ0 Kp' Δ z p2 r2 g2) (l0 : p0 ≤ r0) (l1 : p1 ≤ r1) (l2 : p2 ≤ r2) : HN9 β Γ0 Kp Δ (tRec m x y z) (p0 + (p1 + p2)) (1 + (r0 + (r1 + r2))) (1 + (g0 + (g1 + g2))) := by
  refine ⟨⟨by omega, by omega⟩, fun t k tb nv => ?_⟩
  have hc : okc (cxs Δ Γ0 β) := tb.1.1
  have ot : ok (cxs Δ Γ0 β).length t = true := tb.1.2.1
  have ou : ok (cxs Δ Γ0 β).length (tRec m x y z) = true := tb.1.2.2
  have kr := K t k
  have u1 : trx (cxs Δ Γ0 β, tRec m x y z, t) ≤ p0 + (p1 + p2) := by
    rcases stp_cases (show tok (cxs Δ Γ0 β, tRec m x y z, t) from ⟨hc, ou, ot⟩) with e1 | ⟨e1, q1⟩ | ⟨k', hk', e, -, e1, q1⟩ | ⟨m1, x1, y1, z1, m', x', y', z', hm1, hm', e, e', e1, q1⟩ | ⟨a, b, a', b', e, e', e1, q1⟩ | ⟨a, b, b', e, e', e1, q1⟩
    · rw [trx_none (z := (cxs Δ Γ0 β, tRec m x y z, t)) e1]; exact Nat.zero_le _
    · have q := stp_x (z := (cxs Δ Γ0 β, tRec m x y z, t)) ⟨hc, ou, ot⟩ e1
      have q : 0 + rst (tRec m x y z) t = trx (cxs Δ Γ0 β, tRec m x y z, t) := q
      omega
    · have := congrArg hd e
      rw [hd_var, hd_rec] at this
      omega
    · obtain ⟨rfl, rfl, rfl, rfl⟩ := rec_inj e
      subst e'
      obtain ⟨k0, k1, k2⟩ := kr m' x' y' z' hm' rfl
      obtain ⟨b0, b1, b2⟩ := TB_rec hm' hm tb
      have sb := stp_sub hm hm' e1
      have q := stp_x (z := (cxs Δ Γ0 β, tRec m x y z, tRec m' x' y' z')) ⟨hc, ou, ot⟩ e1
      have q : rxs (stl (cxs Δ Γ0 β) m' 2 z z' ++ (stl (cxs Δ Γ0 β) m' 1 y y' ++ stl (cxs Δ Γ0 β) m' 0 x x')) + rst (tRec m x y z) (tRec m' x' y' z') = trx (cxs Δ Γ0 β, tRec m x y z, tRec m' x' y' z') := q
      rw [rxs_app, rxs_app] at q
      have j0 := stl_hb (Γ := cxs Δ Γ0 β) (m := m') (i := 0) (X := x) (Y := x') (v := p0) (fun b => ((h0 (sb 0 (by decide) b)).2 x' (k0 b) (b0 b (sb 0 (by decide) b))).1.1)
      have j1 := stl_hb (Γ := cxs Δ Γ0 β) (m := m') (i := 1) (X := y) (Y := y') (v := p1) (fun b => ((h1 (sb 1 (by decide) b)).2 y' (k1 b) (b1 b (sb 1 (by decide) b))).1.1)
      have j2 := stl_hb (Γ := cxs Δ Γ0 β) (m := m') (i := 2) (X := z) (Y := z') (v := p2) (fun b => ((h2 (sb 2 (by decide) b)).2 z' (k2 b) (b2 b (sb 2 (by decide) b))).1.1)
      omega
    · have := congrArg hd e
      rw [hd_rec, hd_fun] at this
      omega
    · have := congrArg hd e
      rw [hd_rec, hd_all] at this
      omega
  have u2 : trx (cxs Δ Γ0 β, t, tRec m x y z) ≤ p0 + (p1 + p2) := by
    rcases stp_cases tb.1 with e1 | ⟨e1, q1⟩ | ⟨k', hk', e, -, e1, q1⟩ | ⟨m', x', y', z', m1, x1, y1, z1, hm', hm1, e', e, e1, q1⟩ | ⟨a, b, a', b', e', e, e1, q1⟩ | ⟨a, b, b', e', e, e1, q1⟩
    · rw [trx_none (z := (cxs Δ Γ0 β, t, tRec m x y z)) e1]; exact Nat.zero_le _
    · have q := stp_x (z := (cxs Δ Γ0 β, t, tRec m x y z)) ⟨hc, ot, ou⟩ e1
      have q : 0 + rst t (tRec m x y z) = trx (cxs Δ Γ0 β, t, tRec m x y z) := q
      omega
    · exact absurd (by rw [e, hd_var]; omega) nv
    · obtain ⟨rfl, rfl, rfl, rfl⟩ := rec_inj e
      subst e'
      obtain ⟨k0, k1, k2⟩ := kr m' x' y' z' hm' rfl
      obtain ⟨b0, b1, b2⟩ := TB_rec hm' hm tb
      have sb := stp_sub hm' hm e1
      have q := stp_x (z := (cxs Δ Γ0 β, tRec m' x' y' z', tRec m x y z)) ⟨hc, ot, ou⟩ e1
      have q : rxs (stl (cxs Δ Γ0 β) m 2 z' z ++ (stl (cxs Δ Γ0 β) m 1 y' y ++ stl (cxs Δ Γ0 β) m 0 x' x)) + rst (tRec m' x' y' z') (tRec m x y z) = trx (cxs Δ Γ0 β, tRec m' x' y' z', tRec m x y z) := q
      rw [rxs_app, rxs_app] at q
      have j0 := stl_hb (Γ := cxs Δ Γ0 β) (m := m) (i := 0) (X := x') (Y := x) (v := p0) (fun b => ((h0 b).2 x' (k0 (sb 0 (by decide) b)) (b0 (sb 0 (by decide) b) b)).1.2)
      have j1 := stl_hb (Γ := cxs Δ Γ0 β) (m := m) (i := 1) (X := y') (Y := y) (v := p1) (fun b => ((h1 b).2 y' (k1 (sb 1 (by decide) b)) (b1 (sb 1 (by decide) b) b)).1.2)
      have j2 := stl_hb (Γ := cxs Δ Γ0 β) (m := m) (i := 2) (X := z') (Y := z) (v := p2) (fun b => ((h2 b).2 z' (k2 (sb 2 (by decide) b)) (b2 (sb 2 (by decide) b) b)).1.2)
      omega
    · have := congrArg hd e
      rw [hd_rec, hd_fun] at this
      omega
    · have := congrArg hd e
      rw [hd_rec, hd_all] at this
      omega
  have t3 : tru (cxs Δ Γ0 β, t, tRec m x y z) ≤ p0 + (p1 + p2) := Nat.max_le.mpr ⟨u2, u1⟩
  have t4 : tru (cxs Δ Γ0 β, tRec m x y z, t) ≤ p0 + (p1 + p2) := Nat.max_le.mpr ⟨u1, u2⟩
  have gm_tu : gm (0, cxs Δ Γ0 β, t, tRec m x y z) ≤ 1 + (r0 + (r1 + r2)) := by
    rw [gm_unf (z := (0, cxs Δ Γ0 β, t, tRec m x y z)) (show tok (cxs Δ Γ0 β, t, tRec m x y z) from tb.1) (show (0 : Nat) ≠ 2 by decide)]
    refine Nat.max_le.mpr ⟨Nat.le_trans t3 (by omega), ?_⟩
    rcases gcs_cases (w := 0) (show tok (cxs Δ Γ0 β, t, tRec m x y z) from tb.1) (by decide) with ⟨b1, b2, b3⟩ | ⟨q1, k', hk', e, b1, b2, b3⟩ | ⟨q1, n1, k', hk', e, b1, b2, b3⟩ | ⟨m3, X0, X1, X2, m4, Y0, Y1, Y2, hm3, hm4, e, e', b1, b2, b3⟩ | ⟨A, F, A', F', e, e', b1, b2, b3⟩ | ⟨A, F, F', e, e', b1, b2, b3⟩
    · rw [b1]
      show gro _ + 0 ≤ _
      omega
    · exact absurd (by rw [e, hd_var]; omega) nv
    · have := congrArg hd e
      rw [hd_rec, hd_var] at this
      omega
    · obtain ⟨rfl, rfl, rfl, rfl⟩ := rec_inj e'
      subst e
      obtain ⟨k0, k1, k2⟩ := kr m3 X0 X1 X2 hm3 rfl
      obtain ⟨c0, c1, c2⟩ := TB_rec hm3 hm tb
      have j0 := gzl_h (f := gm) (Γ := cxs Δ Γ0 β) (i := 0) (X := X0) (Y := x) (v := r0) hm3 hm (by decide) (fun b b' => ((h0 b').2 X0 (k0 b) (c0 b b')).2.1.1)
      have j1 := gzl_h (f := gm) (Γ := cxs Δ Γ0 β) (i := 1) (X := X1) (Y := y) (v := r1) hm3 hm (by decide) (fun b b' => ((h1 b').2 X1 (k1 b) (c1 b b')).2.1.1)
      have j2 := gzl_h (f := gm) (Γ := cxs Δ Γ0 β) (i := 2) (X := X2) (Y := z) (v := r2) hm3 hm (by decide) (fun b b' => ((h2 b').2 X2 (k2 b) (c2 b b')).2.1.1)
      rw [b1, b2, sgl_app, sgl_app]
      omega
    · have := congrArg hd e'
      rw [hd_rec, hd_fun] at this
      omega
    · have := congrArg hd e'
      rw [hd_rec, hd_all] at this
      omega
  have gm_ut : gm (0, cxs Δ Γ0 β, tRec m x y z, t) ≤ 1 + (r0 + (r1 + r2)) := by
    rw [gm_unf (z := (0, cxs Δ Γ0 β, tRec m x y z, t)) (show tok (cxs Δ Γ0 β, tRec m x y z, t) from ⟨hc, ou, ot⟩) (show (0 : Nat) ≠ 2 by decide)]
    refine Nat.max_le.mpr ⟨Nat.le_trans t4 (by omega), ?_⟩
    rcases gcs_cases (w := 0) (show tok (cxs Δ Γ0 β, tRec m x y z, t) from ⟨hc, ou, ot⟩) (by decide) with ⟨b1, b2, b3⟩ | ⟨q1, k', hk', e, b1, b2, b3⟩ | ⟨q1, n1, k', hk', e, b1, b2, b3⟩ | ⟨m3, X0, X1, X2, m4, Y0, Y1, Y2, hm3, hm4, e, e', b1, b2, b3⟩ | ⟨A, F, A', F', e, e', b1, b2, b3⟩ | ⟨A, F, F', e, e', b1, b2, b3⟩
    · rw [b1]
      show gro _ + 0 ≤ _
      omega
    · have := congrArg hd e
      rw [hd_rec, hd_var] at this
      omega
    · exact absurd (by rw [e, hd_var]; omega) nv
    · obtain ⟨rfl, rfl, rfl, rfl⟩ := rec_inj e
      subst e'
      obtain ⟨k0, k1, k2⟩ := kr m4 Y0 Y1 Y2 hm4 rfl
      obtain ⟨c0, c1, c2⟩ := TB_rec hm4 hm tb
      have j0 := gzl_h (f := gm) (Γ := cxs Δ Γ0 β) (i := 0) (X := x) (Y := Y0) (v := r0) hm hm4 (by decide) (fun b b' => ((h0 b).2 Y0 (k0 b') (c0 b' b)).2.1.2)
      have j1 := gzl_h (f := gm) (Γ := cxs Δ Γ0 β) (i := 1) (X := y) (Y := Y1) (v := r1) hm hm4 (by decide) (fun b b' => ((h1 b).2 Y1 (k1 b') (c1 b' b)).2.1.2)
      have j2 := gzl_h (f := gm) (Γ := cxs Δ Γ0 β) (i := 2) (X := z) (Y := Y2) (v := r2) hm hm4 (by decide) (fun b b' => ((h2 b).2 Y2 (k2 b') (c2 b' b)).2.1.2)
      rw [b1, b2, sgl_app, sgl_app]
      omega
    · have := congrArg hd e
      rw [hd_rec, hd_fun] at this
      omega
    · have := congrArg hd e
      rw [hd_rec, hd_all] at this
      omega
  have gn_tu : gn (0, cxs Δ Γ0 β, t, tRec m x y z) ≤ 1 + (g0 + (g1 + g2)) := by
    rw [gn_unf (z := (0, cxs Δ Γ0 β, t, tRec m x y z)) (show tok (cxs Δ Γ0 β, t, tRec m x y z) from tb.1) (show (0 : Nat) ≠ 2 by decide)]
    refine Nat.max_le.mpr ⟨by omega, ?_⟩
    rcases gcs_cases (w := 0) (show tok (cxs Δ Γ0 β, t, tRec m x y z) from tb.1) (by decide) with ⟨b1, b2, b3⟩ | ⟨q1, k', hk', e, b1, b2, b3⟩ | ⟨q1, n1, k', hk', e, b1, b2, b3⟩ | ⟨m3, X0, X1, X2, m4, Y0, Y1, Y2, hm3, hm4, e, e', b1, b2, b3⟩ | ⟨A, F, A', F', e, e', b1, b2, b3⟩ | ⟨A, F, F', e, e', b1, b2, b3⟩
    · rw [b1, b3]
      show 1 + 0 ≤ _
      omega
    · exact absurd (by rw [e, hd_var]; omega) nv
    · have := congrArg hd e
      rw [hd_rec, hd_var] at this
      omega
    · obtain ⟨rfl, rfl, rfl, rfl⟩ := rec_inj e'
      subst e
      obtain ⟨k0, k1, k2⟩ := kr m3 X0 X1 X2 hm3 rfl
      obtain ⟨c0, c1, c2⟩ := TB_rec hm3 hm tb
      have j0 := gzl_h (f := gn) (Γ := cxs Δ Γ0 β) (i := 0) (X := X0) (Y := x) (v := g0) hm3 hm (by decide) (fun b b' => ((h0 b').2 X0 (k0 b) (c0 b b')).2.2.1)
      have j1 := gzl_h (f := gn) (Γ := cxs Δ Γ0 β) (i := 1) (X := X1) (Y := y) (v := g1) hm3 hm (by decide) (fun b b' => ((h1 b').2 X1 (k1 b) (c1 b b')).2.2.1)
      have j2 := gzl_h (f := gn) (Γ := cxs Δ Γ0 β) (i := 2) (X := X2) (Y := z) (v := g2) hm3 hm (by decide) (fun b b' => ((h2 b').2 X2 (k2 b) (c2 b b')).2.2.1)
      rw [b1, b3, sgl_app, sgl_app]
      omega
    · have := congrArg hd e'
      rw [hd_rec, hd_fun] at this
      omega
    · have := congrArg hd e'
      rw [hd_rec, hd_all] at this
      omega
  have gn_ut : gn (0, cxs Δ Γ0 β, tRec m x y z, t) ≤ 1 + (g0 + (g1 + g2)) := by
    rw [gn_unf (z := (0, cxs Δ Γ0 β, tRec m x y z, t)) (show tok (cxs Δ Γ0 β, tRec m x y z, t) from ⟨hc, ou, ot⟩) (show (0 : Nat) ≠ 2 by decide)]
    refine Nat.max_le.mpr ⟨by omega, ?_⟩
    rcases gcs_cases (w := 0) (show tok (cxs Δ Γ0 β, tRec m x y z, t) from ⟨hc, ou, ot⟩) (by decide) with ⟨b1, b2, b3⟩ | ⟨q1, k', hk', e, b1, b2, b3⟩ | ⟨q1, n1, k', hk', e, b1, b2, b3⟩ | ⟨m3, X0, X1, X2, m4, Y0, Y1, Y2, hm3, hm4, e, e', b1, b2, b3⟩ | ⟨A, F, A', F', e, e', b1, b2, b3⟩ | ⟨A, F, F', e, e', b1, b2, b3⟩
    · rw [b1, b3]
      show 1 + 0 ≤ _
      omega
    · have := congrArg hd e
      rw [hd_rec, hd_var] at this
      omega
    · exact absurd (by rw [e, hd_var]; omega) nv
    · obtain ⟨rfl, rfl, rfl, rfl⟩ := rec_inj e
      subst e'
      obtain ⟨k0, k1, k2⟩ := kr m4 Y0 Y1 Y2 hm4 rfl
      obtain ⟨c0, c1, c2⟩ := TB_rec hm4 hm tb
      have j0 := gzl_h (f := gn) (Γ := cxs Δ Γ0 β) (i := 0) (X := x) (Y := Y0) (v := g0) hm hm4 (by decide) (fun b b' => ((h0 b).2 Y0 (k0 b') (c0 b' b)).2.2.2)
      have j1 := gzl_h (f := gn) (Γ := cxs Δ Γ0 β) (i := 1) (X := y) (Y := Y1) (v := g1) hm hm4 (by decide) (fun b b' => ((h1 b).2 Y1 (k1 b') (c1 b' b)).2.2.2)
      have j2 := gzl_h (f := gn) (Γ := cxs Δ Γ0 β) (i := 2) (X := z) (Y := Y2) (v := g2) hm hm4 (by decide) (fun b b' => ((h2 b).2 Y2 (k2 b') (c2 b' b)).2.2.2)
      rw [b1, b3, sgl_app, sgl_app]
      omega
    · have := congrArg hd e
      rw [hd_rec, hd_fun] at this
      omega
    · have := congrArg hd e
      rw [hd_rec, hd_all] at this
      omega
  exact ⟨⟨u1, u2⟩, ⟨gm_tu, gm_ut⟩, gn_tu, gn_ut⟩
theorem TB_fn {Γ : List Ty} {a b a' b' : Ty} (tb : TB 1 (Γ, tFun a b, tFun a' b')) : TB 1 (Γ, a, a') ∧ TB 1 (Γ, b, b') := by
  have hS : ok Γ.length (tFun a b) = true := tb.1.2.1
  have hT : ok Γ.length (tFun a' b') = true := tb.1.2.2
  have oS := ok_fun.mp hS
  have oT := ok_fun.mp hT
  have dS := (cbd_fun _ _ _).mp tb.2.2.1
  have dT := (cbd_fun _ _ _).mp tb.2.2.2
  exact ⟨⟨⟨tb.1.1, oS.1, oT.1⟩, tb.2.1, dS.1, dT.1⟩, ⟨⟨tb.1.1, oS.2, oT.2⟩, tb.2.1, dS.2, dT.2⟩⟩
theorem HN9_fun {Kp' : List Ty → Ty → Prop} (K : ∀ t, Kp Δ t → ∀ a b, t = tFun a b → Kp' Δ b) (ha : HW9 (cxs Δ Γ0 β) a p0 r0 g0) (hq : HA9 β Γ0 Kp' Δ c p r g) : HN9 β Γ0 Kp Δ (tFun a c) (p0 + p) (1 + (r0 + r)) (1 + (g0 + g)) := by
  have la := ha.1
  have lq := hq.1
  refine ⟨⟨by omega, by omega⟩, fun t k tb nv => ?_⟩
  have hc : okc (cxs Δ Γ0 β) := tb.1.1
  have ot : ok (cxs Δ Γ0 β).length t = true := tb.1.2.1
  have ou : ok (cxs Δ Γ0 β).length (tFun a c) = true := tb.1.2.2
  have kf := K t k
  have u1 : trx (cxs Δ Γ0 β, tFun a c, t) ≤ p0 + p := by
    rcases stp_cases (show tok (cxs Δ Γ0 β, tFun a c, t) from ⟨hc, ou, ot⟩) with e1 | ⟨e1, q1⟩ | ⟨k', hk', e, -, e1, q1⟩ | ⟨m1, x1, y1, z1, m', x', y', z', hm1, hm', e, e', e1, q1⟩ | ⟨a1, b1, a2, b2, e, e', e1, q1⟩ | ⟨a1, b1, b2, e, e', e1, q1⟩
    · rw [trx_none (z := (cxs Δ Γ0 β, tFun a c, t)) e1]; exact Nat.zero_le _
    · have q := stp_x (z := (cxs Δ Γ0 β, tFun a c, t)) ⟨hc, ou, ot⟩ e1
      have q : 0 + rst (tFun a c) (t) = trx (cxs Δ Γ0 β, tFun a c, t) := q
      omega
    · have := congrArg hd e
      rw [hd_fun, hd_var] at this
      omega
    · have := congrArg hd e
      rw [hd_fun, hd_rec] at this
      omega
    · obtain ⟨rfl, rfl⟩ := fun_inj e
      subst e'
      have k2 := kf a2 b2 rfl
      obtain ⟨c1, c2⟩ := TB_fn tb
      have j1 := (ha.2 1 a2 (Nat.le_refl _) c1).1.2
      have j2 := (hq.2 b2 k2 c2).1.1
      have q := stp_x (z := (cxs Δ Γ0 β, tFun a c, tFun a2 b2)) ⟨hc, ou, ot⟩ e1
      have q : trx (cxs Δ Γ0 β, c, b2) + (trx (cxs Δ Γ0 β, a2, a) + 0) + rst (tFun a c) (tFun a2 b2) = trx (cxs Δ Γ0 β, tFun a c, tFun a2 b2) := q
      omega
    · have := congrArg hd e
      rw [hd_fun, hd_all] at this
      omega
  have u2 : trx (cxs Δ Γ0 β, t, tFun a c) ≤ p0 + p := by
    rcases stp_cases tb.1 with e1 | ⟨e1, q1⟩ | ⟨k', hk', e, -, e1, q1⟩ | ⟨m1, x1, y1, z1, m', x', y', z', hm1, hm', e, e', e1, q1⟩ | ⟨a1, b1, a2, b2, e, e', e1, q1⟩ | ⟨a1, b1, b2, e, e', e1, q1⟩
    · rw [trx_none (z := (cxs Δ Γ0 β, t, tFun a c)) e1]; exact Nat.zero_le _
    · have q := stp_x (z := (cxs Δ Γ0 β, t, tFun a c)) ⟨hc, ot, ou⟩ e1
      have q : 0 + rst (t) (tFun a c) = trx (cxs Δ Γ0 β, t, tFun a c) := q
      omega
    · exact absurd (by rw [e, hd_var]; omega) nv
    · have := congrArg hd e'
      rw [hd_fun, hd_rec] at this
      omega
    · obtain ⟨rfl, rfl⟩ := fun_inj e'
      subst e
      have k2 := kf a1 b1 rfl
      obtain ⟨c1, c2⟩ := TB_fn tb
      have j1 := (ha.2 1 a1 (Nat.le_refl _) c1).1.1
      have j2 := (hq.2 b1 k2 c2).1.2
      have q := stp_x (z := (cxs Δ Γ0 β, tFun a1 b1, tFun a c)) ⟨hc, ot, ou⟩ e1
      have q : trx (cxs Δ Γ0 β, b1, c) + (trx (cxs Δ Γ0 β, a, a1) + 0) + rst (tFun a1 b1) (tFun a c) = trx (cxs Δ Γ0 β, tFun a1 b1, tFun a c) := q
      omega
    · have := congrArg hd e'
      rw [hd_fun, hd_all] at this
      omega
  have t3 : tru (cxs Δ Γ0 β, t, tFun a c) ≤ p0 + p := Nat.max_le.mpr ⟨u2, u1⟩
  have t4 : tru (cxs Δ Γ0 β, tFun a c, t) ≤ p0 + p := Nat.max_le.mpr ⟨u1, u2⟩
  have gm_tu : gm (0, cxs Δ Γ0 β, t, tFun a c) ≤ 1 + (r0 + r) := by
    rw [gm_unf (z := (0, cxs Δ Γ0 β, t, tFun a c)) (show tok (cxs Δ Γ0 β, t, tFun a c) from tb.1) (show (0 : Nat) ≠ 2 by decide)]
    refine Nat.max_le.mpr ⟨Nat.le_trans t3 (by omega), ?_⟩
    rcases gcs_cases (w := 0) (show tok (cxs Δ Γ0 β, t, tFun a c) from tb.1) (by decide) with ⟨b1, b2, b3⟩ | ⟨q1, k', hk', e, b1, b2, b3⟩ | ⟨q1, n1, k', hk', e, b1, b2, b3⟩ | ⟨m3, X0, X1, X2, m4, Y0, Y1, Y2, hm3, hm4, e, e', b1, b2, b3⟩ | ⟨A, F, A', F', e, e', b1, b2, b3⟩ | ⟨A, F, F', e, e', b1, b2, b3⟩
    · rw [b1]
      show gro _ + 0 ≤ _
      omega
    · exact absurd (by rw [e, hd_var]; omega) nv
    · have := congrArg hd e
      rw [hd_fun, hd_var] at this
      omega
    · have := congrArg hd e'
      rw [hd_fun, hd_rec] at this
      omega
    · obtain ⟨rfl, rfl⟩ := fun_inj e'
      subst e
      have k2 := kf A F rfl
      obtain ⟨c1, c2⟩ := TB_fn tb
      have j1 := ((ha.2 1 A (Nat.le_refl _) c1).2.1.1)
      have j2 := ((hq.2 F k2 c2).2.1.1)
      rw [b1, b2]
      show 1 + (gm (1, cxs Δ Γ0 β, A, a) + (gm (0, cxs Δ Γ0 β, F, c) + 0)) ≤ _
      omega
    · have := congrArg hd e'
      rw [hd_fun, hd_all] at this
      omega
  have gm_ut : gm (0, cxs Δ Γ0 β, tFun a c, t) ≤ 1 + (r0 + r) := by
    rw [gm_unf (z := (0, cxs Δ Γ0 β, tFun a c, t)) (show tok (cxs Δ Γ0 β, tFun a c, t) from ⟨hc, ou, ot⟩) (show (0 : Nat) ≠ 2 by decide)]
    refine Nat.max_le.mpr ⟨Nat.le_trans t4 (by omega), ?_⟩
    rcases gcs_cases (w := 0) (show tok (cxs Δ Γ0 β, tFun a c, t) from ⟨hc, ou, ot⟩) (by decide) with ⟨b1, b2, b3⟩ | ⟨q1, k', hk', e, b1, b2, b3⟩ | ⟨q1, n1, k', hk', e, b1, b2, b3⟩ | ⟨m3, X0, X1, X2, m4, Y0, Y1, Y2, hm3, hm4, e, e', b1, b2, b3⟩ | ⟨A, F, A', F', e, e', b1, b2, b3⟩ | ⟨A, F, F', e, e', b1, b2, b3⟩
    · rw [b1]
      show gro _ + 0 ≤ _
      omega
    · have := congrArg hd e
      rw [hd_fun, hd_var] at this
      omega
    · exact absurd (by rw [e, hd_var]; omega) nv
    · have := congrArg hd e
      rw [hd_fun, hd_rec] at this
      omega
    · obtain ⟨rfl, rfl⟩ := fun_inj e
      subst e'
      have k2 := kf A' F' rfl
      obtain ⟨c1, c2⟩ := TB_fn tb
      have j1 := ((ha.2 1 A' (Nat.le_refl _) c1).2.1.2)
      have j2 := ((hq.2 F' k2 c2).2.1.2)
      rw [b1, b2]
      show 1 + (gm (1, cxs Δ Γ0 β, a, A') + (gm (0, cxs Δ Γ0 β, c, F') + 0)) ≤ _
      omega
    · have := congrArg hd e
      rw [hd_fun, hd_all] at this
      omega
  have gn_tu : gn (0, cxs Δ Γ0 β, t, tFun a c) ≤ 1 + (g0 + g) := by
    rw [gn_unf (z := (0, cxs Δ Γ0 β, t, tFun a c)) (show tok (cxs Δ Γ0 β, t, tFun a c) from tb.1) (show (0 : Nat) ≠ 2 by decide)]
    refine Nat.max_le.mpr ⟨by omega, ?_⟩
    rcases gcs_cases (w := 0) (show tok (cxs Δ Γ0 β, t, tFun a c) from tb.1) (by decide) with ⟨b1, b2, b3⟩ | ⟨q1, k', hk', e, b1, b2, b3⟩ | ⟨q1, n1, k', hk', e, b1, b2, b3⟩ | ⟨m3, X0, X1, X2, m4, Y0, Y1, Y2, hm3, hm4, e, e', b1, b2, b3⟩ | ⟨A, F, A', F', e, e', b1, b2, b3⟩ | ⟨A, F, F', e, e', b1, b2, b3⟩
    · rw [b1, b3]
      show 1 + 0 ≤ _
      omega
    · exact absurd (by rw [e, hd_var]; omega) nv
    · have := congrArg hd e
      rw [hd_fun, hd_var] at this
      omega
    · have := congrArg hd e'
      rw [hd_fun, hd_rec] at this
      omega
    · obtain ⟨rfl, rfl⟩ := fun_inj e'
      subst e
      have k2 := kf A F rfl
      obtain ⟨c1, c2⟩ := TB_fn tb
      have j1 := ((ha.2 1 A (Nat.le_refl _) c1).2.2.1)
      have j2 := ((hq.2 F k2 c2).2.2.1)
      rw [b1, b3]
      show 1 + (gn (1, cxs Δ Γ0 β, A, a) + (gn (0, cxs Δ Γ0 β, F, c) + 0)) ≤ _
      omega
    · have := congrArg hd e'
      rw [hd_fun, hd_all] at this
      omega
  have gn_ut : gn (0, cxs Δ Γ0 β, tFun a c, t) ≤ 1 + (g0 + g) := by
    rw [gn_unf (z := (0, cxs Δ Γ0 β, tFun a c, t)) (show tok (cxs Δ Γ0 β, tFun a c, t) from ⟨hc, ou, ot⟩) (show (0 : Nat) ≠ 2 by decide)]
    refine Nat.max_le.mpr ⟨by omega, ?_⟩
    rcases gcs_cases (w := 0) (show tok (cxs Δ Γ0 β, tFun a c, t) from ⟨hc, ou, ot⟩) (by decide) with ⟨b1, b2, b3⟩ | ⟨q1, k', hk', e, b1, b2, b3⟩ | ⟨q1, n1, k', hk', e, b1, b2, b3⟩ | ⟨m3, X0, X1, X2, m4, Y0, Y1, Y2, hm3, hm4, e, e', b1, b2, b3⟩ | ⟨A, F, A', F', e, e', b1, b2, b3⟩ | ⟨A, F, F', e, e', b1, b2, b3⟩
    · rw [b1, b3]
      show 1 + 0 ≤ _
      omega
    · have := congrArg hd e
      rw [hd_fun, hd_var] at this
      omega
    · exact absurd (by rw [e, hd_var]; omega) nv
    · have := congrArg hd e
      rw [hd_fun, hd_rec] at this
      omega
    · obtain ⟨rfl, rfl⟩ := fun_inj e
      subst e'
      have k2 := kf A' F' rfl
      obtain ⟨c1, c2⟩ := TB_fn tb
      have j1 := ((ha.2 1 A' (Nat.le_refl _) c1).2.2.2)
      have j2 := ((hq.2 F' k2 c2).2.2.2)
      rw [b1, b3]
      show 1 + (gn (1, cxs Δ Γ0 β, a, A') + (gn (0, cxs Δ Γ0 β, c, F') + 0)) ≤ _
      omega
    · have := congrArg hd e
      rw [hd_fun, hd_all] at this
      omega
  exact ⟨⟨u1, u2⟩, ⟨gm_tu, gm_ut⟩, gn_tu, gn_ut⟩
/-- what holds no scheme with that bound, against the scheme -/
theorem HN9_all (hs : ∀ f, ¬ Kp Δ (tAll a f)) : HN9 β Γ0 Kp Δ (tAll a c) 0 1 1 := by
  refine ⟨⟨by omega, Nat.le_refl _⟩, fun t k tb nv => ?_⟩
  have hc : okc (cxs Δ Γ0 β) := tb.1.1
  have ot : ok (cxs Δ Γ0 β).length t = true := tb.1.2.1
  have ou : ok (cxs Δ Γ0 β).length (tAll a c) = true := tb.1.2.2
  have ne : ∀ {a1 b1 b2 : Ty}, tAll a c = tAll a1 b1 → t = tAll a1 b2 → False := by
    intro a1 b1 b2 e e'
    obtain ⟨rfl, rfl⟩ := all_inj e
    subst e'
    exact hs _ k
  have u1 : trx (cxs Δ Γ0 β, tAll a c, t) ≤ 0 := by
    rcases stp_cases (show tok (cxs Δ Γ0 β, tAll a c, t) from ⟨hc, ou, ot⟩) with e1 | ⟨e1, q1⟩ | ⟨k', hk', e, -, e1, q1⟩ | ⟨m1, x1, y1, z1, m', x', y', z', hm1, hm', e, e', e1, q1⟩ | ⟨a1, b1, a2, b2, e, e', e1, q1⟩ | ⟨a1, b1, b2, e, e', e1, q1⟩
    · rw [trx_none (z := (cxs Δ Γ0 β, tAll a c, t)) e1]; exact Nat.zero_le _
    · have q := stp_x (z := (cxs Δ Γ0 β, tAll a c, t)) ⟨hc, ou, ot⟩ e1
      have q : 0 + rst (tAll a c) (t) = trx (cxs Δ Γ0 β, tAll a c, t) := q
      omega
    · have := congrArg hd e
      rw [hd_all, hd_var] at this
      omega
    · have := congrArg hd e
      rw [hd_all, hd_rec] at this
      omega
    · have := congrArg hd e
      rw [hd_all, hd_fun] at this
      omega
    · exact (ne e e').elim
  have u2 : trx (cxs Δ Γ0 β, t, tAll a c) ≤ 0 := by
    rcases stp_cases tb.1 with e1 | ⟨e1, q1⟩ | ⟨k', hk', e, -, e1, q1⟩ | ⟨m1, x1, y1, z1, m', x', y', z', hm1, hm', e, e', e1, q1⟩ | ⟨a1, b1, a2, b2, e, e', e1, q1⟩ | ⟨a1, b1, b2, e, e', e1, q1⟩
    · rw [trx_none (z := (cxs Δ Γ0 β, t, tAll a c)) e1]; exact Nat.zero_le _
    · have q := stp_x (z := (cxs Δ Γ0 β, t, tAll a c)) ⟨hc, ot, ou⟩ e1
      have q : 0 + rst (t) (tAll a c) = trx (cxs Δ Γ0 β, t, tAll a c) := q
      omega
    · exact absurd (by rw [e, hd_var]; omega) nv
    · have := congrArg hd e'
      rw [hd_all, hd_rec] at this
      omega
    · have := congrArg hd e'
      rw [hd_all, hd_fun] at this
      omega
    · exact (ne e' e).elim
  have t3 : tru (cxs Δ Γ0 β, t, tAll a c) ≤ 0 := Nat.max_le.mpr ⟨u2, u1⟩
  have t4 : tru (cxs Δ Γ0 β, tAll a c, t) ≤ 0 := Nat.max_le.mpr ⟨u1, u2⟩
  have gm_tu : gm (0, cxs Δ Γ0 β, t, tAll a c) ≤ 1 := by
    rw [gm_unf (z := (0, cxs Δ Γ0 β, t, tAll a c)) (show tok (cxs Δ Γ0 β, t, tAll a c) from tb.1) (show (0 : Nat) ≠ 2 by decide)]
    refine Nat.max_le.mpr ⟨Nat.le_trans t3 (by omega), ?_⟩
    rcases gcs_cases (w := 0) (show tok (cxs Δ Γ0 β, t, tAll a c) from tb.1) (by decide) with ⟨b1, b2, b3⟩ | ⟨q1, k', hk', e, b1, b2, b3⟩ | ⟨q1, n1, k', hk', e, b1, b2, b3⟩ | ⟨m3, X0, X1, X2, m4, Y0, Y1, Y2, hm3, hm4, e, e', b1, b2, b3⟩ | ⟨A, F, A', F', e, e', b1, b2, b3⟩ | ⟨A, F, F', e, e', b1, b2, b3⟩
    · rw [b1]
      show gro _ + 0 ≤ _
      omega
    · exact absurd (by rw [e, hd_var]; omega) nv
    · have := congrArg hd e
      rw [hd_all, hd_var] at this
      omega
    · have := congrArg hd e'
      rw [hd_all, hd_rec] at this
      omega
    · have := congrArg hd e'
      rw [hd_all, hd_fun] at this
      omega
    · exact (ne e' e).elim
  have gm_ut : gm (0, cxs Δ Γ0 β, tAll a c, t) ≤ 1 := by
    rw [gm_unf (z := (0, cxs Δ Γ0 β, tAll a c, t)) (show tok (cxs Δ Γ0 β, tAll a c, t) from ⟨hc, ou, ot⟩) (show (0 : Nat) ≠ 2 by decide)]
    refine Nat.max_le.mpr ⟨Nat.le_trans t4 (by omega), ?_⟩
    rcases gcs_cases (w := 0) (show tok (cxs Δ Γ0 β, tAll a c, t) from ⟨hc, ou, ot⟩) (by decide) with ⟨b1, b2, b3⟩ | ⟨q1, k', hk', e, b1, b2, b3⟩ | ⟨q1, n1, k', hk', e, b1, b2, b3⟩ | ⟨m3, X0, X1, X2, m4, Y0, Y1, Y2, hm3, hm4, e, e', b1, b2, b3⟩ | ⟨A, F, A', F', e, e', b1, b2, b3⟩ | ⟨A, F, F', e, e', b1, b2, b3⟩
    · rw [b1]
      show gro _ + 0 ≤ _
      omega
    · have := congrArg hd e
      rw [hd_all, hd_var] at this
      omega
    · exact absurd (by rw [e, hd_var]; omega) nv
    · have := congrArg hd e
      rw [hd_all, hd_rec] at this
      omega
    · have := congrArg hd e
      rw [hd_all, hd_fun] at this
      omega
    · exact (ne e e').elim
  have gn_tu : gn (0, cxs Δ Γ0 β, t, tAll a c) ≤ 1 := by
    rw [gn_unf (z := (0, cxs Δ Γ0 β, t, tAll a c)) (show tok (cxs Δ Γ0 β, t, tAll a c) from tb.1) (show (0 : Nat) ≠ 2 by decide)]
    refine Nat.max_le.mpr ⟨by omega, ?_⟩
    rcases gcs_cases (w := 0) (show tok (cxs Δ Γ0 β, t, tAll a c) from tb.1) (by decide) with ⟨b1, b2, b3⟩ | ⟨q1, k', hk', e, b1, b2, b3⟩ | ⟨q1, n1, k', hk', e, b1, b2, b3⟩ | ⟨m3, X0, X1, X2, m4, Y0, Y1, Y2, hm3, hm4, e, e', b1, b2, b3⟩ | ⟨A, F, A', F', e, e', b1, b2, b3⟩ | ⟨A, F, F', e, e', b1, b2, b3⟩
    · rw [b1, b3]
      show 1 + 0 ≤ _
      omega
    · exact absurd (by rw [e, hd_var]; omega) nv
    · have := congrArg hd e
      rw [hd_all, hd_var] at this
      omega
    · have := congrArg hd e'
      rw [hd_all, hd_rec] at this
      omega
    · have := congrArg hd e'
      rw [hd_all, hd_fun] at this
      omega
    · exact (ne e' e).elim
  have gn_ut : gn (0, cxs Δ Γ0 β, tAll a c, t) ≤ 1 := by
    rw [gn_unf (z := (0, cxs Δ Γ0 β, tAll a c, t)) (show tok (cxs Δ Γ0 β, tAll a c, t) from ⟨hc, ou, ot⟩) (show (0 : Nat) ≠ 2 by decide)]
    refine Nat.max_le.mpr ⟨by omega, ?_⟩
    rcases gcs_cases (w := 0) (show tok (cxs Δ Γ0 β, tAll a c, t) from ⟨hc, ou, ot⟩) (by decide) with ⟨b1, b2, b3⟩ | ⟨q1, k', hk', e, b1, b2, b3⟩ | ⟨q1, n1, k', hk', e, b1, b2, b3⟩ | ⟨m3, X0, X1, X2, m4, Y0, Y1, Y2, hm3, hm4, e, e', b1, b2, b3⟩ | ⟨A, F, A', F', e, e', b1, b2, b3⟩ | ⟨A, F, F', e, e', b1, b2, b3⟩
    · rw [b1, b3]
      show 1 + 0 ≤ _
      omega
    · have := congrArg hd e
      rw [hd_all, hd_var] at this
      omega
    · exact absurd (by rw [e, hd_var]; omega) nv
    · have := congrArg hd e
      rw [hd_all, hd_rec] at this
      omega
    · have := congrArg hd e
      rw [hd_all, hd_fun] at this
      omega
    · exact (ne e e').elim
  exact ⟨⟨by omega, by omega⟩, ⟨by omega, by omega⟩, gn_tu, gn_ut⟩
end PmIk
