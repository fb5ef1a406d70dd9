/-! WHAT IS OLD AGAINST A BOUND WITH A SCHEME INSIDE: numbers, from what stands inside outwards. -/
/-- any old type against u: rows of comparisons, rows and goals of joins (w = 0) -/
def HA9 (β : Ty) (Γ0 : List Ty) (Kp : List Ty → Ty → Prop) (Δ : List Ty) (u : Ty) (p r g : Nat) : Prop := (p ≤ r ∧ 1 ≤ g) ∧ ∀ t, Kp Δ t → TB 1 (cxs Δ Γ0 β, t, u) → (trx (cxs Δ Γ0 β, u, t) ≤ p ∧ trx (cxs Δ Γ0 β, t, u) ≤ p) ∧ (gm (0, cxs Δ Γ0 β, t, u) ≤ r ∧ gm (0, cxs Δ Γ0 β, u, t) ≤ r) ∧ gn (0, cxs Δ Γ0 β, t, u) ≤ g ∧ gn (0, cxs Δ Γ0 β, u, t) ≤ g
/-- the same for what is no variable -/
def HN9 (β : Ty) (Γ0 : List Ty) (Kp : List Ty → Ty → Prop) (Δ : List Ty) (u : Ty) (p r g : Nat) : Prop := (p ≤ r ∧ 1 ≤ g) ∧ ∀ t, Kp Δ t → TB 1 (cxs Δ Γ0 β, t, u) → ¬ 16 ≤ hd t → (trx (cxs Δ Γ0 β, u, t) ≤ p ∧ trx (cxs Δ Γ0 β, t, u) ≤ p) ∧ (gm (0, cxs Δ Γ0 β, t, u) ≤ r ∧ gm (0, cxs Δ Γ0 β, u, t) ≤ r) ∧ gn (0, cxs Δ Γ0 β, t, u) ≤ g ∧ gn (0, cxs Δ Γ0 β, u, t) ≤ g
/-- any type, joins and meets -/
def HW9 (Γ : List Ty) (u : Ty) (p r g : Nat) : Prop := (p ≤ r ∧ 1 ≤ g) ∧ ∀ (w : Nat) (t : Ty), w ≤ 1 → TB 1 (Γ, t, u) → (trx (Γ, u, t) ≤ p ∧ trx (Γ, t, u) ≤ p) ∧ (gm (w, Γ, t, u) ≤ r ∧ gm (w, Γ, u, t) ≤ r) ∧ gn (w, Γ, t, u) ≤ g ∧ gn (w, Γ, u, t) ≤ g
section PmIj
variable {β : Ty} {Γ0 Δ : List Ty} {Kp : List Ty → Ty → Prop} {u a c x y z : Ty} {p r g p' r' g' p0 p1 p2 r0 r1 r2 g0 g1 g2 m : Nat}
theorem HA9.up (h : HA9 β Γ0 Kp Δ u p r g) (l1 : p ≤ p') (l2 : r ≤ r') (l3 : g ≤ g') (l4 : p' ≤ r') : HA9 β Γ0 Kp Δ u p' r' g' := ⟨⟨l4, by have := h.1.2; omega⟩, fun t k tb => by
  obtain ⟨⟨a1, a2⟩, ⟨a3, a4⟩, a5, a6⟩ := h.2 t k tb
  exact ⟨⟨by omega, by omega⟩, ⟨by omega, by omega⟩, by omega, by omega⟩⟩
theorem HW9.ha (h : HW9 (cxs Δ Γ0 β) u p r g) : HA9 β Γ0 Kp Δ u p r g := ⟨h.1, fun t _ tb => h.2 0 t (Nat.zero_le _) tb⟩
/-- by nature -/
theorem HW9_nat {Γ : List Ty} (hc : okc Γ) (o : ok Γ.length u = true) (h0 : ∀ d, pmz (qu 1) d (oq (qu 1) Γ) u ≤ p) (h1 : ∀ b, mz b 1 Γ u ≤ r) (h2 : gz Γ u ≤ g) (h3 : 1 ≤ g) (h4 : p ≤ r) : HW9 Γ u p r g := by
  refine ⟨⟨h4, h3⟩, fun w t w1 tb => ⟨⟨?_, ?_⟩, ⟨?_, ?_⟩, ?_, ?_⟩⟩
  · exact Nat.le_trans (trx_S (TB_swap tb)) (h0 true)
  · exact Nat.le_trans (trx_T tb) (h0 false)
  · exact Nat.le_trans (gm_rowsT (z := (w, Γ, t, u)) (Nat.le_refl _) tb w1) (Nat.le_trans (urm_nz hc o) (h1 false))
  · exact Nat.le_trans (gm_rowsS (z := (w, Γ, u, t)) (Nat.le_refl _) (TB_swap tb) w1) (Nat.le_trans (urm_nz hc o) (h1 true))
  · exact Nat.le_trans (gn_T (z := (w, Γ, t, u)) tb.1 w1) (Nat.le_trans (ugT_nz hc o) h2)
  · exact Nat.le_trans (gn_S (z := (w, Γ, u, t)) (TB_swap tb).1 w1) (Nat.le_trans (ugS_nz hc o) h2)
/-- a variable costs one row more -/
theorem HN9.ha (K : KCy β Γ0 Kp) (h : HN9 β Γ0 Kp Δ u p r g) (nu : ¬ 16 ≤ hd u) : HA9 β Γ0 Kp Δ u (p + 1) (r + 1) g := by
  refine ⟨⟨by have := h.1.1; omega, h.1.2⟩, fun t k tb => ?_⟩
  by_cases nv : 16 ≤ hd t
  · obtain ⟨j, hj, rfl⟩ := hd_is_var tb.1.2.1 nv
    have hc : okc (cxs Δ Γ0 β) := tb.1.1
    have ou : ok (cxs Δ Γ0 β).length u = true := tb.1.2.2
    have ot : ok (cxs Δ Γ0 β).length (tVar j) = true := tb.1.2.1
    have kj := ((K Δ _ k).2.2.2 j rfl hj).2
    obtain ⟨c1, c2, c3⟩ := cl_expose hc tb.2.1 hj
    have t1 : TB 1 (cxs Δ Γ0 β, lft j ((cxs Δ Γ0 β).length - j) (bnd (cxs Δ Γ0 β) j), u) := ⟨⟨hc, ok_expose hc hj, ou⟩, tb.2.1, c2, tb.2.2.2⟩
    have n2 : ¬ 16 ≤ hd (lft j ((cxs Δ Γ0 β).length - j) (bnd (cxs Δ Γ0 β) j)) := by
      intro q
      obtain ⟨i, hi, e⟩ := hd_is_var (ok_expose hc hj) q
      rw [e, chn_var] at c1
      have := (cl_expose hc tb.2.1 hi).1
      omega
    obtain ⟨⟨a1, a2⟩, ⟨a3, a4⟩, a5, a6⟩ := h.2 _ kj t1 n2
    have hg := h.1.2
    have hp := h.1.1
    have u1 : trx (cxs Δ Γ0 β, u, tVar j) ≤ p + 1 := by
      rcases stp_cases (show tok (cxs Δ Γ0 β, u, tVar j) from ⟨hc, ou, ot⟩) with e1 | ⟨e1, q1⟩ | ⟨k', hk', e, -, e1, q1⟩ | ⟨m, x, y, z, m', x', y', z', hm, hm', e, e', e1, q1⟩ | ⟨a, b, a', b', e, e', e1, q1⟩ | ⟨a, b, b', e, e', e1, q1⟩
      · rw [trx_none (z := (cxs Δ Γ0 β, u, tVar j)) e1]; exact Nat.zero_le _
      · have q := stp_x (z := (cxs Δ Γ0 β, u, tVar j)) ⟨hc, ou, ot⟩ e1
        have q : 0 + rst u (tVar j) = trx (cxs Δ Γ0 β, u, tVar j) := q
        omega
      · exact absurd (by rw [e, hd_var]; omega) nu
      · have := congrArg hd e'
        rw [hd_var, hd_rec] at this
        omega
      · have := congrArg hd e'
        rw [hd_var, hd_fun] at this
        omega
      · have := congrArg hd e'
        rw [hd_var, hd_all] at this
        omega
    have u2 : trx (cxs Δ Γ0 β, tVar j, u) ≤ p + 1 := by
      rcases stp_cases (show tok (cxs Δ Γ0 β, tVar j, u) from ⟨hc, ot, ou⟩) with e1 | ⟨e1, q1⟩ | ⟨k', hk', e, -, e1, q1⟩ | ⟨m, x, y, z, m', x', y', z', hm, hm', e, e', e1, q1⟩ | ⟨a, b, a', b', e, e', e1, q1⟩ | ⟨a, b, b', e, e', e1, q1⟩
      · rw [trx_none (z := (cxs Δ Γ0 β, tVar j, u)) e1]; exact Nat.zero_le _
      · have q := stp_x (z := (cxs Δ Γ0 β, tVar j, u)) ⟨hc, ot, ou⟩ e1
        have q : 0 + rst (tVar j) u = trx (cxs Δ Γ0 β, tVar j, u) := q
        omega
      · have ej : j = k' := by
          have := congrArg hd e
          rw [hd_var, hd_var] at this
          omega
        subst ej
        have q := stp_x (z := (cxs Δ Γ0 β, tVar j, u)) ⟨hc, ot, ou⟩ e1
        have q : trx (cxs Δ Γ0 β, lft j ((cxs Δ Γ0 β).length - j) (bnd (cxs Δ Γ0 β) j), u) + 0 + rst (tVar j) u = trx (cxs Δ Γ0 β, tVar j, u) := q
        omega
      · have := congrArg hd e
        rw [hd_var, hd_rec] at this
        omega
      · have := congrArg hd e
        rw [hd_var, hd_fun] at this
        omega
      · have := congrArg hd e
        rw [hd_var, hd_all] at this
        omega
    have t3 : tru (cxs Δ Γ0 β, tVar j, u) ≤ p + 1 := Nat.max_le.mpr ⟨u2, u1⟩
    have t4 : tru (cxs Δ Γ0 β, u, tVar j) ≤ p + 1 := Nat.max_le.mpr ⟨u1, u2⟩
    refine ⟨⟨u1, u2⟩, ⟨?_, ?_⟩, ?_, ?_⟩
    · rw [gm_unf (z := (0, cxs Δ Γ0 β, tVar j, u)) ⟨hc, ot, ou⟩ (show (0 : Nat) ≠ 2 by decide)]
      refine Nat.max_le.mpr ⟨Nat.le_trans t3 (by omega), ?_⟩
      rcases gcs_cases (w := 0) (show tok (cxs Δ Γ0 β, tVar j, u) from ⟨hc, ot, ou⟩) (by decide) with ⟨b1, b2, b3⟩ | ⟨q1, k', hk', e, b1, b2, b3⟩ | ⟨q1, n1, k', hk', e, b1, b2, b3⟩ | ⟨m, X0, X1, X2, m', Y0, Y1, Y2, hm, hm', e, e', b1, b2, b3⟩ | ⟨A, C, A', C', e, e', b1, b2, b3⟩ | ⟨A, C, C', e, e', b1, b2, b3⟩
      · rw [b1]
        show gro _ + 0 ≤ _
        omega
      · have ej : j = k' := by
          have := congrArg hd e
          rw [hd_var, hd_var] at this
          omega
        subst ej
        rw [b1, b2]
        show 1 + (gm (0, cxs Δ Γ0 β, lft j ((cxs Δ Γ0 β).length - j) (bnd (cxs Δ Γ0 β) j), u) + 0) ≤ _
        omega
      · rw [hd_var] at n1; omega
      · have := congrArg hd e
        rw [hd_var, hd_rec] at this
        omega
      · have := congrArg hd e
        rw [hd_var, hd_fun] at this
        omega
      · have := congrArg hd e
        rw [hd_var, hd_all] at this
        omega
    · rw [gm_unf (z := (0, cxs Δ Γ0 β, u, tVar j)) ⟨hc, ou, ot⟩ (show (0 : Nat) ≠ 2 by decide)]
      refine Nat.max_le.mpr ⟨Nat.le_trans t4 (by omega), ?_⟩
      rcases gcs_cases (w := 0) (show tok (cxs Δ Γ0 β, u, tVar j) from ⟨hc, ou, ot⟩) (by decide) with ⟨b1, b2, b3⟩ | ⟨q1, k', hk', e, b1, b2, b3⟩ | ⟨q1, n1, k', hk', e, b1, b2, b3⟩ | ⟨m, X0, X1, X2, m', Y0, Y1, Y2, hm, hm', e, e', b1, b2, b3⟩ | ⟨A, C, A', C', e, e', b1, b2, b3⟩ | ⟨A, C, C', e, e', b1, b2, b3⟩
      · rw [b1]
        show gro _ + 0 ≤ _
        omega
      · exact absurd (by rw [e, hd_var]; omega) nu
      · have ej : j = k' := by
          have := congrArg hd e
          rw [hd_var, hd_var] at this
          omega
        subst ej
        rw [b1, b2]
        show 1 + (gm (0, cxs Δ Γ0 β, u, lft j ((cxs Δ Γ0 β).length - j) (bnd (cxs Δ Γ0 β) j)) + 0) ≤ _
        omega
      · have := congrArg hd e'
        rw [hd_var, hd_rec] at this
        omega
      · have := congrArg hd e'
        rw [hd_var, hd_fun] at this
        omega
      · have := congrArg hd e'
        rw [hd_var, hd_all] at this
        omega
    · rw [gn_unf (z := (0, cxs Δ Γ0 β, tVar j, u)) ⟨hc, ot, ou⟩ (show (0 : Nat) ≠ 2 by decide)]
      refine Nat.max_le.mpr ⟨hg, ?_⟩
      rcases gcs_cases (w := 0) (show tok (cxs Δ Γ0 β, tVar j, u) from ⟨hc, ot, ou⟩) (by decide) with ⟨b1, b2, b3⟩ | ⟨q1, k', hk', e, b1, b2, b3⟩ | ⟨q1, n1, k', hk', e, b1, b2, b3⟩ | ⟨m, X0, X1, X2, m', Y0, Y1, Y2, hm, hm', e, e', b1, b2, b3⟩ | ⟨A, C, A', C', e, e', b1, b2, b3⟩ | ⟨A, C, C', e, e', b1, b2, b3⟩
      · rw [b1, b3]
        show 1 + 0 ≤ _
        omega
      · have ej : j = k' := by
          have := congrArg hd e
          rw [hd_var, hd_var] at this
          omega
        subst ej
        rw [b1, b3]
        show 0 + (gn (0, cxs Δ Γ0 β, lft j ((cxs Δ Γ0 β).length - j) (bnd (cxs Δ Γ0 β) j), u) + 0) ≤ _
        omega
      · rw [hd_var] at n1; omega
      · have := congrArg hd e
        rw [hd_var, hd_rec] at this
        omega
      · have := congrArg hd e
        rw [hd_var, hd_fun] at this
        omega
      · have := congrArg hd e
        rw [hd_var, hd_all] at this
        omega
    · rw [gn_unf (z := (0, cxs Δ Γ0 β, u, tVar j)) ⟨hc, ou, ot⟩ (show (0 : Nat) ≠ 2 by decide)]
      refine Nat.max_le.mpr ⟨hg, ?_⟩
      rcases gcs_cases (w := 0) (show tok (cxs Δ Γ0 β, u, tVar j) from ⟨hc, ou, ot⟩) (by decide) with ⟨b1, b2, b3⟩ | ⟨q1, k', hk', e, b1, b2, b3⟩ | ⟨q1, n1, k', hk', e, b1, b2, b3⟩ | ⟨m, X0, X1, X2, m', Y0, Y1, Y2, hm, hm', e, e', b1, b2, b3⟩ | ⟨A, C, A', C', e, e', b1, b2, b3⟩ | ⟨A, C, C', e, e', b1, b2, b3⟩
      · rw [b1, b3]
        show 1 + 0 ≤ _
        omega
      · exact absurd (by rw [e, hd_var]; omega) nu
      · have ej : j = k' := by
          have := congrArg hd e
          rw [hd_var, hd_var] at this
          omega
        subst ej
        rw [b1, b3]
        show 0 + (gn (0, cxs Δ Γ0 β, u, lft j ((cxs Δ Γ0 β).length - j) (bnd (cxs Δ Γ0 β) j)) + 0) ≤ _
        omega
      · have := congrArg hd e'
        rw [hd_var, hd_rec] at this
        omega
      · have := congrArg hd e'
        rw [hd_var, hd_fun] at this
        omega
      · have := congrArg hd e'
        rw [hd_var, hd_all] at this
        omega
  · obtain ⟨⟨a1, a2⟩, ⟨a3, a4⟩, a5, a6⟩ := h.2 t k tb nv
    exact ⟨⟨by omega, by omega⟩, ⟨by omega, by omega⟩, a5, a6⟩
end PmIj
