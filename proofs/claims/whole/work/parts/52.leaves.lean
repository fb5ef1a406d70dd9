/-! WHAT PART LEAVES, case by case. -/
theorem RS_set {N : pm_M} {u g a p : Int} {R : Ty} {dd : Nat} (a0 : 0 ≤ a) (a1 : a < u) (p0 : 0 ≤ p) (p1 : p + (flat R).length ≤ 17) (ra : Row N a p (flat R)) (hR : ok dd R = true) : RS (mset (mset (mset N 84 g 1) 85 g a) 86 g p) u g (some (some R)) := by
  have e4 : mset (mset (mset N 84 g 1) 85 g a) 86 g p 84 g = 1 := by (repeat (first | rw [mset_s] | rw [mset_p _ _ _ _ (by decide)] | rw [mset_i _ _ _ _ (by omega)] | rw [mput_p _ _ _ _ (by decide)]))
  have e5 : mset (mset (mset N 84 g 1) 85 g a) 86 g p 85 g = a := by (repeat (first | rw [mset_s] | rw [mset_p _ _ _ _ (by decide)] | rw [mset_i _ _ _ _ (by omega)] | rw [mput_p _ _ _ _ (by decide)]))
  have e6 : mset (mset (mset N 84 g 1) 85 g a) 86 g p 86 g = p := by (repeat (first | rw [mset_s] | rw [mset_p _ _ _ _ (by decide)] | rw [mset_i _ _ _ _ (by omega)] | rw [mput_p _ _ _ _ (by decide)]))
  refine ⟨e4, by rw [e5]; exact a0, by rw [e5]; exact a1, by rw [e6]; exact p0, by rw [e6]; exact p1, ?_, ok_pre R dd hR⟩
  rw [e5, e6]
  exact Row.same (fun i _ _ => by (repeat (first | rw [mset_s] | rw [mset_p _ _ _ _ (by decide)] | rw [mset_i _ _ _ _ (by omega)] | rw [mput_p _ _ _ _ (by decide)]))) ra
theorem RS_top {N : pm_M} {u g : Int} (u0 : 0 ≤ u) : RS (mset (mset (mset (mset (mset N 56 22 (u + 1)) 73 (17 * u) 0) 84 g 1) 85 g u) 86 g 0) (u + 1) g (some (some tTop)) := by
  refine RS_set (dd := 0) u0 (by omega) (Int.le_refl _) (by rw [flat_top]; simp) ?_ (ok_top 0)
  rw [flat_top]
  exact ⟨by rw [Int.add_zero, mset_s], trivial⟩
section PmM20
variable {d : Nat} {N N1 N2 : pm_M} {u x g G : Int} {z : Gz}
theorem UK.hg (k1 : UK N N1 u x) (hg : N 56 36 = G) : N1 56 36 = G := by
  rw [k1.1 56 36 (fun _ => by decide) (fun e => by omega) (fun e => by omega) (fun e => by omega)]; exact hg
theorem oa_row {r j : Int} {R : Ty} {dd : Nat} (k1 : UK N N1 u x) (hg : N 56 36 = G) (e82 : N 82 g = -1) (g0 : 0 ≤ g) (g1 : g < G) (u1 : u ≤ 1100) (r0 : 0 ≤ r) (r1 : r < u) (j0 : 0 ≤ j) (j1 : j + (flat R).length ≤ 17) (rr : Row N1 r j (flat R)) (hR : ok dd R = true) (hv : gv z = some (some R)) : PF N (mset (mset (mset N1 84 g 1) 85 g r) 86 g j) u x g G ∧ (∀ p i, R32 (mset (mset (mset N1 84 g 1) 85 g r) 86 g j p i)) ∧ OA (mset (mset (mset N1 84 g 1) 85 g r) 86 g j) u x g G u z := by
  refine ⟨?_, mset_R32 (mset_R32 (mset_R32 k1.2.1 ⟨by omega, by omega⟩) ⟨by omega, by omega⟩) ⟨by omega, by omega⟩, ?_, ?_, ?_, Int.le_refl _, by omega, ?_, ?_⟩
  · repeat (first | refine PF.set ?_ (by unfold WR; omega) | refine PF.put ?_ (fun j hj => by unfold WR; omega))
    exact k1.pf g G
  · (repeat (first | rw [mset_s] | rw [mset_p _ _ _ _ (by decide)] | rw [mset_i _ _ _ _ (by omega)] | rw [mput_p _ _ _ _ (by decide)]))
    all_goals exact k1.2.2.1
  · (repeat (first | rw [mset_s] | rw [mset_p _ _ _ _ (by decide)] | rw [mset_i _ _ _ _ (by omega)] | rw [mput_p _ _ _ _ (by decide)]))
    all_goals exact k1.2.2.2
  · (repeat (first | rw [mset_s] | rw [mset_p _ _ _ _ (by decide)] | rw [mset_i _ _ _ _ (by omega)] | rw [mput_p _ _ _ _ (by decide)]))
    all_goals exact k1.hg hg
  · (repeat (first | rw [mset_s] | rw [mset_p _ _ _ _ (by decide)] | rw [mset_i _ _ _ _ (by omega)] | rw [mput_p _ _ _ _ (by decide)]))
    rw [k1.at _ _ (by decide)]; exact e82
  · rw [hv]
    exact RS_set r0 r1 j0 j1 rr hR
theorem oa_none (k1 : UK N N1 u x) (hg : N 56 36 = G) (e82 : N 82 g = -1) (e84 : N 84 g = 0) (hv : gv z = none) : PF N N1 u x g G ∧ (∀ p i, R32 (N1 p i)) ∧ OA N1 u x g G u z := by
  refine ⟨k1.pf g G, k1.2.1, k1.2.2.1, k1.2.2.2, k1.hg hg, Int.le_refl _, by omega, ?_, ?_⟩
  · rw [k1.at _ _ (by decide)]; exact e82
  · rw [hv]
    show N1 84 g = 0
    rw [k1.at _ _ (by decide)]; exact e84
theorem oa_none' (k1 : UK N N1 u x) (hg : N 56 36 = G) (e82 : N 82 g = -1) (e84 : N 84 g = 0) (g0 : 0 ≤ g) (g1 : g < G) (g2 : G + 3 ≤ 600) (hv : gv z = none) : PF N (mset N1 83 g G) u x g G ∧ (∀ p i, R32 (mset N1 83 g G p i)) ∧ OA (mset N1 83 g G) u x g G u z := by
  refine ⟨?_, mset_R32 k1.2.1 ⟨by omega, by omega⟩, ?_, ?_, ?_, Int.le_refl _, by omega, ?_, ?_⟩
  · repeat (first | refine PF.set ?_ (by unfold WR; omega) | refine PF.put ?_ (fun j hj => by unfold WR; omega))
    exact k1.pf g G
  · (repeat (first | rw [mset_s] | rw [mset_p _ _ _ _ (by decide)] | rw [mset_i _ _ _ _ (by omega)] | rw [mput_p _ _ _ _ (by decide)]))
    all_goals exact k1.2.2.1
  · (repeat (first | rw [mset_s] | rw [mset_p _ _ _ _ (by decide)] | rw [mset_i _ _ _ _ (by omega)] | rw [mput_p _ _ _ _ (by decide)]))
    all_goals exact k1.2.2.2
  · (repeat (first | rw [mset_s] | rw [mset_p _ _ _ _ (by decide)] | rw [mset_i _ _ _ _ (by omega)] | rw [mput_p _ _ _ _ (by decide)]))
    all_goals exact k1.hg hg
  · (repeat (first | rw [mset_s] | rw [mset_p _ _ _ _ (by decide)] | rw [mset_i _ _ _ _ (by omega)] | rw [mput_p _ _ _ _ (by decide)]))
    rw [k1.at _ _ (by decide)]; exact e82
  · rw [hv]
    show mset N1 83 g G 84 g = 0
    (repeat (first | rw [mset_s] | rw [mset_p _ _ _ _ (by decide)] | rw [mset_i _ _ _ _ (by omega)] | rw [mput_p _ _ _ _ (by decide)]))
    rw [k1.at _ _ (by decide)]; exact e84
theorem oa_top (k1 : UK N N1 u x) (hgm : 1 ≤ gm z) (hg : N 56 36 = G) (e82 : N 82 g = -1) (g0 : 0 ≤ g) (g1 : g < G) (g2 : G + 3 ≤ 600) (u0 : 0 ≤ u) (u1 : u < 1100) (hv : gv z = some (some tTop)) : PF N (mset (mset (mset (mset (mset (mset N1 83 g G) 56 22 (u + 1)) 73 (17 * u) 0) 84 g 1) 85 g u) 86 g 0) u x g G ∧ (∀ p i, R32 (mset (mset (mset (mset (mset (mset N1 83 g G) 56 22 (u + 1)) 73 (17 * u) 0) 84 g 1) 85 g u) 86 g 0 p i)) ∧ OA (mset (mset (mset (mset (mset (mset N1 83 g G) 56 22 (u + 1)) 73 (17 * u) 0) 84 g 1) 85 g u) 86 g 0) u x g G (u + 1) z := by
  refine ⟨?_, mset_R32 (mset_R32 (mset_R32 (mset_R32 (mset_R32 (mset_R32 k1.2.1 ⟨by omega, by omega⟩) ⟨by omega, by omega⟩) ⟨by omega, by omega⟩) ⟨by omega, by omega⟩) ⟨by omega, by omega⟩) ⟨by omega, by omega⟩, ?_, ?_, ?_, by omega, by omega, ?_, ?_⟩
  · repeat (first | refine PF.set ?_ (by unfold WR; omega) | refine PF.put ?_ (fun j hj => by unfold WR; omega))
    exact k1.pf g G
  · (repeat (first | rw [mset_s] | rw [mset_p _ _ _ _ (by decide)] | rw [mset_i _ _ _ _ (by omega)] | rw [mput_p _ _ _ _ (by decide)]))
  · (repeat (first | rw [mset_s] | rw [mset_p _ _ _ _ (by decide)] | rw [mset_i _ _ _ _ (by omega)] | rw [mput_p _ _ _ _ (by decide)]))
    all_goals exact k1.2.2.2
  · (repeat (first | rw [mset_s] | rw [mset_p _ _ _ _ (by decide)] | rw [mset_i _ _ _ _ (by omega)] | rw [mput_p _ _ _ _ (by decide)]))
    all_goals exact k1.hg hg
  · (repeat (first | rw [mset_s] | rw [mset_p _ _ _ _ (by decide)] | rw [mset_i _ _ _ _ (by omega)] | rw [mput_p _ _ _ _ (by decide)]))
    rw [k1.at _ _ (by decide)]; exact e82
  · rw [hv]
    exact RS_top u0
theorem exps_var {Γ : List Ty} {k : Nat} : exps Γ (tVar k) = lft k (Γ.length - k) (bnd Γ k) := by unfold exps; rw [hd_var, show 16 + k - 16 = k by omega]
theorem ob_v1 {a p b q c : Int} {Γ : List Ty} {kk : Nat} {T : Ty} {F : List Int} (hF : F = flat (lft kk (Γ.length - kk) (bnd Γ kk))) (hM1 : ∀ p i, R32 (N1 p i)) (hx1 : N1 56 24 = x) (hg1 : N1 56 36 = G) (g0 : 0 ≤ g) (g1 : g < G) (u1 : u < 1100) (hD : Γ.length < 2000) (f0 : N1 81 (7 * g) = 0) (f5 : N1 81 (7 * g + 5) = c) (f6 : N1 81 (7 * g + 6) = (Γ.length : Int)) (f84 : N1 84 g = 0) (T1 : TH N1 u x a p b q c (Γ.length : Int) (Γ, tVar kk, T)) (hkk : kk < Γ.length) (lz : LZ (0, Γ, tVar kk, T)) (nb : ¬ bel Γ (tVar kk) T = true) (nb' : ¬ bel Γ T (tVar kk) = true) : PF N1 (mset (mset (mset (mset (mset (mput (mset N1 56 22 (u + 1)) 73 (17 * u) F) 81 ((7 * g) + 1) u) 81 ((7 * g) + 2) 0) 81 ((7 * g) + 3) b) 81 ((7 * g) + 4) q) 82 g (-2)) u x g G ∧ (∀ p' i, R32 (mset (mset (mset (mset (mset (mput (mset N1 56 22 (u + 1)) 73 (17 * u) F) 81 ((7 * g) + 1) u) 81 ((7 * g) + 2) 0) 81 ((7 * g) + 3) b) 81 ((7 * g) + 4) q) 82 g (-2) p' i)) ∧ OB (mset (mset (mset (mset (mset (mput (mset N1 56 22 (u + 1)) 73 (17 * u) F) 81 ((7 * g) + 1) u) 81 ((7 * g) + 2) 0) 81 ((7 * g) + 3) b) 81 ((7 * g) + 4) q) 82 g (-2)) u x g G (0, Γ, tVar kk, T) (0, Γ, lft kk (Γ.length - kk) (bnd Γ kk), T) := by
  have t1 := T1.a0; have t2 := T1.a1; have t3 := T1.p0; have t4 := T1.p1; have t5 := T1.b0; have t6 := T1.b1; have t7 := T1.q0; have t8 := T1.q1
  have hc := T1.ok.1
  have hl := T1.hc.bnd_len hkk
  simp only at hc hl t4 t8
  have he := ok_expose hc hkk
  have hF1 : ∀ c ∈ F, R32 c := by rw [hF]; exact flat_R32 he (by omega) (by rw [lft_len]; omega)
  have pf : PF N1 (mset (mset (mset (mset (mset (mput (mset N1 56 22 (u + 1)) 73 (17 * u) F) 81 ((7 * g) + 1) u) 81 ((7 * g) + 2) 0) 81 ((7 * g) + 3) b) 81 ((7 * g) + 4) q) 82 g (-2)) u x g G := by
    repeat (first | refine PF.set ?_ (by unfold WR; omega) | refine PF.put ?_ (fun j hj => by unfold WR; omega))
    exact PF.refl _ _ _ _ _
  have row : Row (mset (mset (mset (mset (mset (mput (mset N1 56 22 (u + 1)) 73 (17 * u) F) 81 ((7 * g) + 1) u) 81 ((7 * g) + 2) 0) 81 ((7 * g) + 3) b) 81 ((7 * g) + 4) q) 82 g (-2)) u 0 F := Row.same (fun i _ _ => by rw [mset_p _ _ _ _ (by decide), mset_p _ _ _ _ (by decide), mset_p _ _ _ _ (by decide), mset_p _ _ _ _ (by decide), mset_p _ _ _ _ (by decide)]) (row_new (M := N1) (u := u) (l := F))
  refine ⟨pf, mset_R32 (mset_R32 (mset_R32 (mset_R32 (mset_R32 (mput_R32 (mset_R32 hM1 ⟨by omega, by omega⟩) hF1) ⟨by omega, by omega⟩) ⟨by omega, by omega⟩) ⟨by omega, by omega⟩) ⟨by omega, by omega⟩) ⟨by omega, by omega⟩, ?_, ?_, ?_, ?_, ?_, ?_, ?_, ?_, ?_⟩
  · (repeat (first | rw [mset_s] | rw [mset_p _ _ _ _ (by decide)] | rw [mset_i _ _ _ _ (by omega)] | rw [mput_p _ _ _ _ (by decide)]))
  · (repeat (first | rw [mset_s] | rw [mset_p _ _ _ _ (by decide)] | rw [mset_i _ _ _ _ (by omega)] | rw [mput_p _ _ _ _ (by decide)]))
    all_goals exact hx1
  · (repeat (first | rw [mset_s] | rw [mset_p _ _ _ _ (by decide)] | rw [mset_i _ _ _ _ (by omega)] | rw [mput_p _ _ _ _ (by decide)]))
    all_goals exact hg1
  · (repeat (first | rw [mset_s] | rw [mset_p _ _ _ _ (by decide)] | rw [mset_i _ _ _ _ (by omega)] | rw [mput_p _ _ _ _ (by decide)]))
  · have t' := pf.th (u' := u + 1) (x' := x) (by omega) (Int.le_refl _) T1
    refine ⟨u, 0, b, q, c, ?_, ?_, ?_, ?_, ?_, ?_, ?_, ⟨by omega, by omega, Int.le_refl _, ?_, ?_, t'.b0, t'.b1, t'.q0, t'.q1, t'.rb, t'.hc, rfl, hc, he, T1.ok.2.2⟩, ?_, Nat.zero_le _⟩
    · (repeat (first | rw [mset_s] | rw [mset_p _ _ _ _ (by decide)] | rw [mset_i _ _ _ _ (by omega)] | rw [mput_p _ _ _ _ (by decide)]))
      all_goals exact f0
    · (repeat (first | rw [mset_s] | rw [mset_p _ _ _ _ (by decide)] | rw [mset_i _ _ _ _ (by omega)] | rw [mput_p _ _ _ _ (by decide)]))
    · (repeat (first | rw [mset_s] | rw [mset_p _ _ _ _ (by decide)] | rw [mset_i _ _ _ _ (by omega)] | rw [mput_p _ _ _ _ (by decide)]))
    · (repeat (first | rw [mset_s] | rw [mset_p _ _ _ _ (by decide)] | rw [mset_i _ _ _ _ (by omega)] | rw [mput_p _ _ _ _ (by decide)]))
    · (repeat (first | rw [mset_s] | rw [mset_p _ _ _ _ (by decide)] | rw [mset_i _ _ _ _ (by omega)] | rw [mput_p _ _ _ _ (by decide)]))
    · (repeat (first | rw [mset_s] | rw [mset_p _ _ _ _ (by decide)] | rw [mset_i _ _ _ _ (by omega)] | rw [mput_p _ _ _ _ (by decide)]))
      all_goals exact f5
    · (repeat (first | rw [mset_s] | rw [mset_p _ _ _ _ (by decide)] | rw [mset_i _ _ _ _ (by omega)] | rw [mput_p _ _ _ _ (by decide)]))
      all_goals exact f6
    · simp only; rw [lft_len]; omega
    · simp only; rw [← hF]; exact row
    · (repeat (first | rw [mset_s] | rw [mset_p _ _ _ _ (by decide)] | rw [mset_i _ _ _ _ (by omega)] | rw [mput_p _ _ _ _ (by decide)]))
      all_goals exact f84
  · exact (gm_v1 T1.ok (by decide) (by decide) nb nb').1
  · exact (gm_v1 T1.ok (by decide) (by decide) nb nb').2
  · obtain ⟨l1, l2⟩ := lz.resolve_left (fun h => absurd (show (0 : Nat) = 2 from h) (by decide))
    have l1 : Γ.length + gm (0, Γ, tVar kk, T) ≤ 1990 := l1
    have l2 : 2 * (hgt (oh Γ) (tVar kk) + hgt (oh Γ) T) + 3 ≤ 300 := l2
    rw [hgt_var] at l2
    have l3 := (gm_v1 (w := 0) T1.ok (by decide) (by decide) nb nb').1
    refine Or.inr ⟨?_, ?_⟩
    · show Γ.length + gm (0, Γ, lft kk (Γ.length - kk) (bnd Γ kk), T) ≤ 1990
      omega
    · show 2 * (hgt (oh Γ) (lft kk (Γ.length - kk) (bnd Γ kk)) + hgt (oh Γ) T) + 3 ≤ 300
      rw [hgt_expose hc hkk]; omega
  · rw [gv_v1 T1.ok (by decide) nb nb' (by rw [hd_var]; omega), if_neg (by decide), exps_var]
theorem ob_v2 {a p b q c : Int} {Γ : List Ty} {kk : Nat} {S : Ty} {F : List Int} (hF : F = flat (lft kk (Γ.length - kk) (bnd Γ kk))) (hM1 : ∀ p i, R32 (N1 p i)) (hx1 : N1 56 24 = x) (hg1 : N1 56 36 = G) (g0 : 0 ≤ g) (g1 : g < G) (u1 : u < 1100) (hD : Γ.length < 2000) (f0 : N1 81 (7 * g) = 0) (f5 : N1 81 (7 * g + 5) = c) (f6 : N1 81 (7 * g + 6) = (Γ.length : Int)) (f84 : N1 84 g = 0) (T1 : TH N1 u x a p b q c (Γ.length : Int) (Γ, S, tVar kk)) (n1 : ¬ 16 ≤ hd S) (hkk : kk < Γ.length) (lz : LZ (0, Γ, S, tVar kk)) (nb : ¬ bel Γ S (tVar kk) = true) (nb' : ¬ bel Γ (tVar kk) S = true) : PF N1 (mset (mset (mset (mput (mset (mset (mset N1 81 ((7 * g) + 1) a) 81 ((7 * g) + 2) p) 56 22 (u + 1)) 73 (17 * u) F) 81 ((7 * g) + 3) u) 81 ((7 * g) + 4) 0) 82 g (-2)) u x g G ∧ (∀ p' i, R32 (mset (mset (mset (mput (mset (mset (mset N1 81 ((7 * g) + 1) a) 81 ((7 * g) + 2) p) 56 22 (u + 1)) 73 (17 * u) F) 81 ((7 * g) + 3) u) 81 ((7 * g) + 4) 0) 82 g (-2) p' i)) ∧ OB (mset (mset (mset (mput (mset (mset (mset N1 81 ((7 * g) + 1) a) 81 ((7 * g) + 2) p) 56 22 (u + 1)) 73 (17 * u) F) 81 ((7 * g) + 3) u) 81 ((7 * g) + 4) 0) 82 g (-2)) u x g G (0, Γ, S, tVar kk) (0, Γ, S, lft kk (Γ.length - kk) (bnd Γ kk)) := by
  have t1 := T1.a0; have t2 := T1.a1; have t3 := T1.p0; have t4 := T1.p1; have t5 := T1.b0; have t6 := T1.b1; have t7 := T1.q0; have t8 := T1.q1
  have hc := T1.ok.1
  have hl := T1.hc.bnd_len hkk
  simp only at hc hl t4 t8
  have he := ok_expose hc hkk
  have hF1 : ∀ c ∈ F, R32 c := by rw [hF]; exact flat_R32 he (by omega) (by rw [lft_len]; omega)
  have pf : PF N1 (mset (mset (mset (mput (mset (mset (mset N1 81 ((7 * g) + 1) a) 81 ((7 * g) + 2) p) 56 22 (u + 1)) 73 (17 * u) F) 81 ((7 * g) + 3) u) 81 ((7 * g) + 4) 0) 82 g (-2)) u x g G := by
    repeat (first | refine PF.set ?_ (by unfold WR; omega) | refine PF.put ?_ (fun j hj => by unfold WR; omega))
    exact PF.refl _ _ _ _ _
  have row : Row (mset (mset (mset (mput (mset (mset (mset N1 81 ((7 * g) + 1) a) 81 ((7 * g) + 2) p) 56 22 (u + 1)) 73 (17 * u) F) 81 ((7 * g) + 3) u) 81 ((7 * g) + 4) 0) 82 g (-2)) u 0 F := Row.same (fun i _ _ => by rw [mset_p _ _ _ _ (by decide), mset_p _ _ _ _ (by decide), mset_p _ _ _ _ (by decide)]) (row_new (M := mset (mset N1 81 ((7 * g) + 1) a) 81 ((7 * g) + 2) p) (u := u) (l := F))
  refine ⟨pf, mset_R32 (mset_R32 (mset_R32 (mput_R32 (mset_R32 (mset_R32 (mset_R32 hM1 ⟨by omega, by omega⟩) ⟨by omega, by omega⟩) ⟨by omega, by omega⟩) hF1) ⟨by omega, by omega⟩) ⟨by omega, by omega⟩) ⟨by omega, by omega⟩, ?_, ?_, ?_, ?_, ?_, ?_, ?_, ?_, ?_⟩
  · (repeat (first | rw [mset_s] | rw [mset_p _ _ _ _ (by decide)] | rw [mset_i _ _ _ _ (by omega)] | rw [mput_p _ _ _ _ (by decide)]))
  · (repeat (first | rw [mset_s] | rw [mset_p _ _ _ _ (by decide)] | rw [mset_i _ _ _ _ (by omega)] | rw [mput_p _ _ _ _ (by decide)]))
    all_goals exact hx1
  · (repeat (first | rw [mset_s] | rw [mset_p _ _ _ _ (by decide)] | rw [mset_i _ _ _ _ (by omega)] | rw [mput_p _ _ _ _ (by decide)]))
    all_goals exact hg1
  · (repeat (first | rw [mset_s] | rw [mset_p _ _ _ _ (by decide)] | rw [mset_i _ _ _ _ (by omega)] | rw [mput_p _ _ _ _ (by decide)]))
  · have t' := pf.th (u' := u + 1) (x' := x) (by omega) (Int.le_refl _) T1
    refine ⟨a, p, u, 0, c, ?_, ?_, ?_, ?_, ?_, ?_, ?_, ⟨t'.a0, t'.a1, t'.p0, t'.p1, t'.ra, by omega, by omega, Int.le_refl _, ?_, ?_, t'.hc, rfl, hc, T1.ok.2.1, he⟩, ?_, Nat.zero_le _⟩
    · (repeat (first | rw [mset_s] | rw [mset_p _ _ _ _ (by decide)] | rw [mset_i _ _ _ _ (by omega)] | rw [mput_p _ _ _ _ (by decide)]))
      all_goals exact f0
    · (repeat (first | rw [mset_s] | rw [mset_p _ _ _ _ (by decide)] | rw [mset_i _ _ _ _ (by omega)] | rw [mput_p _ _ _ _ (by decide)]))
    · (repeat (first | rw [mset_s] | rw [mset_p _ _ _ _ (by decide)] | rw [mset_i _ _ _ _ (by omega)] | rw [mput_p _ _ _ _ (by decide)]))
    · (repeat (first | rw [mset_s] | rw [mset_p _ _ _ _ (by decide)] | rw [mset_i _ _ _ _ (by omega)] | rw [mput_p _ _ _ _ (by decide)]))
    · (repeat (first | rw [mset_s] | rw [mset_p _ _ _ _ (by decide)] | rw [mset_i _ _ _ _ (by omega)] | rw [mput_p _ _ _ _ (by decide)]))
    · (repeat (first | rw [mset_s] | rw [mset_p _ _ _ _ (by decide)] | rw [mset_i _ _ _ _ (by omega)] | rw [mput_p _ _ _ _ (by decide)]))
      all_goals exact f5
    · (repeat (first | rw [mset_s] | rw [mset_p _ _ _ _ (by decide)] | rw [mset_i _ _ _ _ (by omega)] | rw [mput_p _ _ _ _ (by decide)]))
      all_goals exact f6
    · simp only; rw [lft_len]; omega
    · simp only; rw [← hF]; exact row
    · (repeat (first | rw [mset_s] | rw [mset_p _ _ _ _ (by decide)] | rw [mset_i _ _ _ _ (by omega)] | rw [mput_p _ _ _ _ (by decide)]))
      all_goals exact f84
  · exact (gm_v2 T1.ok (by decide) (by decide) n1 nb nb').1
  · exact (gm_v2 T1.ok (by decide) (by decide) n1 nb nb').2
  · obtain ⟨l1, l2⟩ := lz.resolve_left (fun h => absurd (show (0 : Nat) = 2 from h) (by decide))
    have l1 : Γ.length + gm (0, Γ, S, tVar kk) ≤ 1990 := l1
    have l2 : 2 * (hgt (oh Γ) S + hgt (oh Γ) (tVar kk)) + 3 ≤ 300 := l2
    rw [hgt_var] at l2
    have l3 := (gm_v2 (w := 0) T1.ok (by decide) (by decide) n1 nb nb').1
    refine Or.inr ⟨?_, ?_⟩
    · show Γ.length + gm (0, Γ, S, lft kk (Γ.length - kk) (bnd Γ kk)) ≤ 1990
      omega
    · show 2 * (hgt (oh Γ) S + hgt (oh Γ) (lft kk (Γ.length - kk) (bnd Γ kk))) + 3 ≤ 300
      rw [hgt_expose hc hkk]; omega
  · rw [gv_v2 T1.ok (by decide) nb nb' n1 (by rw [hd_var]; omega), if_neg (by decide), exps_var]
theorem oc_gen {u' x' : Int} {gs : List Gl} {zs : List Gz} (pf : PF N1 N2 u x g G) (hM2 : ∀ p i, R32 (N2 p i)) (h22 : N2 56 22 = u') (h24 : N2 56 24 = x') (h36 : N2 56 36 = G) (g0 : 0 ≤ g) (g1 : g < G) (g2 : G + 3 ≤ 600) (u1 : u' ≤ 1100) (x0 : 0 ≤ x') (x1 : x' ≤ 900) (hu : u ≤ u') (hu' : u' ≤ u + 1) (hx : x ≤ x') (hx' : x' ≤ x + 1) (gr : GR N2 u' x' gs zs) (hl : ∀ y ∈ zs, y.2.1.length ≤ 3000) (hw : ((sgl gm zs : Nat) : Int) + 1 + (u' - u) ≤ (gm z : Nat)) (hw' : sgl gn zs + 1 ≤ gn z) (lz : ∀ y ∈ zs, LZ y) (h3 : zs.length ≤ 3) (bd : BD N2 u' g G (zs.map gv) z) : PF N1 (aimL N2 G gs) u x g G ∧ (∀ p i, R32 (aimL N2 G gs p i)) ∧ OC (aimL N2 G gs) u x g G u' x' zs z := by
  have hlen := gr.len
  refine ⟨PF.aimL gs pf (Int.le_refl _), aimL_R32 gs N2 G hM2 (gr.glr u1 x0 x1 hl) (by omega) (by omega), ?_, ?_, ?_, hu, hu', hx, hx', CH_aimL gs zs N2 G gr, hw, hw', lz, h3, ?_⟩
  · rw [aimL_lo _ _ _ (fun e => by omega) (fun e => by omega) (fun _ => by decide)]; exact h22
  · rw [aimL_lo _ _ _ (fun e => by omega) (fun e => by omega) (fun _ => by decide)]; exact h24
  · rw [aimL_g gs N2 G h36, hlen]
  · exact bd.keep (PF.aimL gs (PF.refl N2 u' x' G G) (Int.le_refl _)) (by omega) g1 (Int.le_refl _)
end PmM20
