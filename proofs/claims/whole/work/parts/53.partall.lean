/-! THE MODEL: part, as one. -/
section PmM21
variable {d : Nat} {Q : Option Value → pm_S → Prop} {M N : pm_M} {Rf : Nat → Nat → Nat} {K L : Nat → Nat} {n s : Nat}
set_option maxRecDepth 20000 in
set_option maxHeartbeats 1000000 in
theorem m_part2 {u x g G : Int} {Γ : List Ty} {S T : Ty} (hG : pm_G Rf K L n) (hM : ∀ p i, R32 (N p i)) (hu : N 56 22 = u) (hx : N 56 24 = x) (hg : N 56 36 = G) (g0 : 0 ≤ g) (g1 : g < G) (g2 : G ≤ 600) (u1 : u ≤ 1100) (e : GE N u x g (2, Γ, S, T)) (e82 : N 82 g = -1) (hA : ∀ (N' : pm_M) (u' : Int), PF N N' u x g G → (∀ p i, R32 (N' p i)) → OA N' u x g G u' (2, Γ, S, T) → Q none (zM N', Rf, K, L, n, s)) : pm_Wc (d + 8) 166 [.ref 56, .int (zI g)] (zM N, Rf, K, L, n, s) Q := by
  obtain ⟨a, p, b, q, c, e0, e1, e2, e3, e4, e5, e6, t, e84, -⟩ := e
  simp only at e0 e6 t
  obtain ⟨q1, q2, q3⟩ := oa_row (z := (2, Γ, S, T)) (⟨Ext.refl N u x 0, hM, hu, hx⟩ : UK N N u x) hg e82 g0 g1 u1 t.a0 t.a1 t.p0 t.p1 t.ra t.ok.2.1 (gv_two t.ok)
  exact part_2 hG hM hu hx g0 (by omega) e0 e1 e2 e3 e4 e5 e6 t (hA _ _ q1 q2 q3)
set_option maxRecDepth 20000 in
set_option maxHeartbeats 2000000 in
theorem m_part0 {u x g G : Int} {Γ : List Ty} {S T : Ty} (hG : pm_G Rf K L n) (hM : ∀ p i, R32 (N p i)) (hu : N 56 22 = u) (hx : N 56 24 = x) (hg : N 56 36 = G) (g0 : 0 ≤ g) (g1 : g < G) (g2 : G + 3 ≤ 600) (x0 : 0 ≤ x) (u1 : u + (gm (0, Γ, S, T) : Nat) < 1100) (x1 : x + (gm (0, Γ, S, T) : Nat) < 900) (e : GE N u x g (0, Γ, S, T)) (e82 : N 82 g = -1) (lz : LZ (0, Γ, S, T)) (hA : ∀ (N' : pm_M) (u' : Int), PF N N' u x g G → (∀ p i, R32 (N' p i)) → OA N' u x g G u' (0, Γ, S, T) → Q none (zM N', Rf, K, L, n, s)) (hB : ∀ (N' : pm_M) (y : Gz), PF N N' u x g G → (∀ p i, R32 (N' p i)) → OB N' u x g G (0, Γ, S, T) y → Q none (zM N', Rf, K, L, n, s)) (hC : ∀ (N' : pm_M) (u' x' : Int) (zs : List Gz), PF N N' u x g G → (∀ p i, R32 (N' p i)) → OC N' u x g G u' x' zs (0, Γ, S, T) → Q none (zM N', Rf, K, L, n, s)) : pm_Wc (d + 8) 166 [.ref 56, .int (zI g)] (zM N, Rf, K, L, n, s) Q := by
  obtain ⟨a, p, b, q, c, e0, e1, e2, e3, e4, e5, e6, t, e84, -⟩ := e
  simp only at e0 e6 t
  have hw : tru (Γ, S, T) ≤ gm (0, Γ, S, T) := gm_pos (z := (0, Γ, S, T)) t.ok (show (0 : Nat) ≠ 2 by decide)
  have okS : ok Γ.length S = true := t.ok.2.1
  have okT : ok Γ.length T = true := t.ok.2.2
  obtain ⟨l1, l2⟩ := lz.resolve_left (fun h => absurd (show (0 : Nat) = 2 from h) (by decide))
  have l1 : Γ.length + gm (0, Γ, S, T) ≤ 1990 := l1
  have l2 : 2 * (hgt (oh Γ) S + hgt (oh Γ) T) + 3 ≤ 300 := l2
  have t1 := t.a0; have t2 := t.a1; have t3 := t.p0; have t4 := t.p1; have t5 := t.b0; have t6 := t.b1; have t7 := t.q0; have t8 := t.q1
  simp only at t4 t8
  refine part_0 hG hM hu hx g0 (by omega) e0 e1 e2 e3 e4 e5 e6 t x0 (by omega) (by omega) (by omega) l2 (fun hb N1 k1 => ?_) (fun nb hb N1 k1 => ?_) (fun nb nb' N1 k1 => ?_)
  · skip
    have T1 : TH N1 u x a p b q c (Γ.length : Int) (Γ, S, T) := t.mono k1.1 (Int.le_refl _) (Int.le_refl _)
    obtain ⟨q1, q2, q3⟩ := oa_row (z := (0, Γ, S, T)) k1 hg e82 g0 g1 (by omega) t5 t6 t7 t8 T1.rb T1.ok.2.2 ((gv_lo t.ok (by decide) hb).trans rfl)
    exact hA _ _ q1 q2 q3
  · skip
    have T1 : TH N1 u x a p b q c (Γ.length : Int) (Γ, S, T) := t.mono k1.1 (Int.le_refl _) (Int.le_refl _)
    obtain ⟨q1, q2, q3⟩ := oa_row (z := (0, Γ, S, T)) k1 hg e82 g0 g1 (by omega) t1 t2 t3 t4 T1.ra T1.ok.2.1 ((gv_hi t.ok (by decide) nb hb).trans rfl)
    exact hA _ _ q1 q2 q3
  have T1 : TH N1 u x a p b q c (Γ.length : Int) (Γ, S, T) := t.mono k1.1 (Int.le_refl _) (Int.le_refl _)
  have gq := gm_one (w := 0) t.ok (by decide) nb nb'
  have hM1 := k1.2.1
  have hu1 := k1.2.2.1
  have hx1 := k1.2.2.2
  have hg1 := k1.hg hg
  have pf := k1.pf g G
  have f0 : N1 81 (7 * g) = 0 := by rw [k1.at _ _ (by decide)]; exact e0
  have f1 : N1 81 (7 * g + 1) = a := by rw [k1.at _ _ (by decide)]; exact e1
  have f2 : N1 81 (7 * g + 2) = p := by rw [k1.at _ _ (by decide)]; exact e2
  have f3 : N1 81 (7 * g + 3) = b := by rw [k1.at _ _ (by decide)]; exact e3
  have f4 : N1 81 (7 * g + 4) = q := by rw [k1.at _ _ (by decide)]; exact e4
  have f5 : N1 81 (7 * g + 5) = c := by rw [k1.at _ _ (by decide)]; exact e5
  have f6 : N1 81 (7 * g + 6) = (Γ.length : Int) := by rw [k1.at _ _ (by decide)]; exact e6
  have f82 : N1 82 g = -1 := by rw [k1.at _ _ (by decide)]; exact e82
  have f84 : N1 84 g = 0 := by rw [k1.at _ _ (by decide)]; exact e84
  clear e0 e1 e2 e3 e4 e5 e6
  by_cases v1 : 16 ≤ hd S
  · obtain ⟨kk, hkk, rfl⟩ := hd_is_var okS v1
    obtain ⟨q1, q2, q3⟩ := ob_v1 rfl hM1 hx1 hg1 g0 g1 (by omega) (by omega) f0 f5 f6 f84 T1 hkk lz nb nb'
    exact part_v3 hG hM1 hu1 hx1 hg1 g0 g1 g2 (by omega) x0 (by omega) (by omega) T1 hkk (hB _ _ (pf.trans q1) q2 q3)
  by_cases v2 : 16 ≤ hd T
  · obtain ⟨kk, hkk, rfl⟩ := hd_is_var okT v2
    obtain ⟨q1, q2, q3⟩ := ob_v2 rfl hM1 hx1 hg1 g0 g1 (by omega) (by omega) f0 f5 f6 f84 T1 v1 hkk lz nb nb'
    exact part_v4 hG hM1 hu1 hx1 hg1 g0 g1 g2 (by omega) x0 (by omega) (by omega) T1 v1 hkk (hB _ _ (pf.trans q1) q2 q3)
  by_cases v3 : 8 ≤ hd S ∧ 8 ≤ hd T
  · obtain ⟨m, X0, X1, X2, hm, rfl⟩ := hd_is_rec okS v3.1 (by omega)
    obtain ⟨m', Y0, Y1, Y2, hm', rfl⟩ := hd_is_rec okT v3.2 (by omega)
    have hls : lset 0 m m' < 8 := (and8 m hm m' hm').2
    have hin := bin0 m hm m' hm'
    have hc := t.ok.1
    have oS := (ok_rec hm).mp t.ok.2.1
    have oT := (ok_rec hm').mp t.ok.2.2
    simp only at hc oS oT
    have i0 := hin 0 (by decide)
    have i1 := hin 1 (by decide)
    have i2 := hin 2 (by decide)
    have T2 : TH (mset (mset N1 83 g G) 82 g ((8 + lset 0 m m' : Nat) : Int)) u x a p b q c (Γ.length : Int) (Γ, tRec m X0 X1 X2, tRec m' Y0 Y1 Y2) := T1.same (fun r i h => by rw [mset_p _ _ _ _ (by omega), mset_p _ _ _ _ (by omega)])
    obtain ⟨hw1, hv1⟩ := gm_rec (w := 0) t.ok hm hm' (by decide) nb nb'
    rw [hgt_rec, hgt_rec] at l2
    have w0 := gzl_gv (W := 0) hc oS.1 oT.1 i0
    have w1 := gzl_gv (W := 0) hc oS.2.1 oT.2.1 i1
    have w2 := gzl_gv (W := 0) hc oS.2.2 oT.2.2 i2
    have n0 := gzl_len (W := 0) (Γ := Γ) (X := X0) (Y := Y0) i0
    have n1 := gzl_len (W := 0) (Γ := Γ) (X := X1) (Y := Y1) i1
    have n2 := gzl_len (W := 0) (Γ := Γ) (X := X2) (Y := Y2) i2
    have hlen : (gzl 0 Γ (lset 0 m m') m m' 0 X0 Y0 ++ (gzl 0 Γ (lset 0 m m') m m' 1 X1 Y1 ++ gzl 0 Γ (lset 0 m m') m m' 2 X2 Y2)).length = lab ((lset 0 m m' : Nat) : Int) := by
      rw [List.length_append, List.length_append, n0, n1, n2, lab_b _ hls]
    have gr : GR (mset (mset N1 83 g G) 82 g ((8 + lset 0 m m' : Nat) : Int)) u x ((fgl 0 a b c (Γ.length : Int) (lset 0 m m') m m' 0 (p + 1 + fpos X0 X1 0) (q + 1 + fpos Y0 Y1 0)) ++ ((fgl 0 a b c (Γ.length : Int) (lset 0 m m') m m' 1 (p + 1 + fpos X0 X1 1) (q + 1 + fpos Y0 Y1 1)) ++ (fgl 0 a b c (Γ.length : Int) (lset 0 m m') m m' 2 (p + 1 + fpos X0 X1 2) (q + 1 + fpos Y0 Y1 2)))) (gzl 0 Γ (lset 0 m m') m m' 0 X0 Y0 ++ (gzl 0 Γ (lset 0 m m') m m' 1 X1 Y1 ++ gzl 0 Γ (lset 0 m m') m m' 2 X2 Y2)) :=
      GR.app (gzl_GR (W := 0) (by decide) i0 (TH_field0 hm hm' T2) (fun h => TH_field0 hm hm T2.left h h) (fun h => TH_field0 hm' hm' T2.swap.left h h)) (GR.app (gzl_GR (W := 0) (by decide) i1 (TH_field1 hm hm' T2) (fun h => TH_field1 hm hm T2.left h h) (fun h => TH_field1 hm' hm' T2.swap.left h h)) (gzl_GR (W := 0) (by decide) i2 (TH_field2 hm hm' T2) (fun h => TH_field2 hm hm T2.left h h) (fun h => TH_field2 hm' hm' T2.swap.left h h)))
    have h3 : lab ((lset 0 m m' : Nat) : Int) ≤ 3 := by rw [lab_b _ hls]; split <;> split <;> split <;> omega
    obtain ⟨q1, q2, q3⟩ := oc_gen (N1 := N1) (z := (0, Γ, tRec m X0 X1 X2, tRec m' Y0 Y1 Y2)) (u := u) (x := x) (g := g) (u' := u) (x' := x) (by
      repeat (first | refine PF.set ?_ (by unfold WR; omega) | refine PF.put ?_ (fun j hj => by unfold WR; omega))
      exact PF.refl _ _ _ _ _) (mset_R32 (mset_R32 hM1 ⟨by omega, by omega⟩) ⟨by omega, by omega⟩) (by
      (repeat (first | rw [mset_s] | rw [mset_p _ _ _ _ (by decide)] | rw [mset_i _ _ _ _ (by omega)] | rw [mput_p _ _ _ _ (by decide)]))
      all_goals exact hu1) (by
      (repeat (first | rw [mset_s] | rw [mset_p _ _ _ _ (by decide)] | rw [mset_i _ _ _ _ (by omega)] | rw [mput_p _ _ _ _ (by decide)]))
      all_goals exact hx1) (by
      (repeat (first | rw [mset_s] | rw [mset_p _ _ _ _ (by decide)] | rw [mset_i _ _ _ _ (by omega)] | rw [mput_p _ _ _ _ (by decide)]))
      all_goals exact hg1) g0 g1 g2 (by omega) x0 (by omega) (Int.le_refl _) (by omega) (Int.le_refl _) (by omega) gr (fun y hy => by
      rcases List.mem_append.mp hy with h | h
      · rw [gzl_ctx i0 y h]; omega
      · rcases List.mem_append.mp h with h | h
        · rw [gzl_ctx i1 y h]; omega
        · rw [gzl_ctx i2 y h]; omega) (by rw [sgl_app, sgl_app]; omega) (by rw [sgl_app, sgl_app]; omega) (fun y hy => by
      rcases List.mem_append.mp hy with h | h
      · exact gzl_LZ i0 (by omega) (by omega) y h
      · rcases List.mem_append.mp h with h | h
        · exact gzl_LZ i1 (by omega) (by omega) y h
        · exact gzl_LZ i2 (by omega) (by omega) y h) (by rw [hlen]; exact h3) (by
      refine ⟨?_, ?_, ?_, Or.inr (Or.inl ⟨lset 0 m m', hls, ?_, ?_, ?_⟩)⟩
      · (repeat (first | rw [mset_s] | rw [mset_p _ _ _ _ (by decide)] | rw [mset_i _ _ _ _ (by omega)] | rw [mput_p _ _ _ _ (by decide)]))
        all_goals exact f0
      · (repeat (first | rw [mset_s] | rw [mset_p _ _ _ _ (by decide)] | rw [mset_i _ _ _ _ (by omega)] | rw [mput_p _ _ _ _ (by decide)]))
      · (repeat (first | rw [mset_s] | rw [mset_p _ _ _ _ (by decide)] | rw [mset_i _ _ _ _ (by omega)] | rw [mput_p _ _ _ _ (by decide)]))
        all_goals exact f84
      · (repeat (first | rw [mset_s] | rw [mset_p _ _ _ _ (by decide)] | rw [mset_i _ _ _ _ (by omega)] | rw [mput_p _ _ _ _ (by decide)]))
      · rw [List.length_map]; exact hlen
      · rw [gv_rec hm hm' t.ok (by decide) nb nb', List.map_append, List.map_append, w0, w1, w2]
        exact FN_rec 0 (lset 0 m m') (bit (lset 0 m m') 0) (bit (lset 0 m m') 1) (bit (lset 0 m m') 2) _ _ _ (fun h => by unfold lpart; rw [if_neg (by rw [h]; decide)]; rfl) (fun h => by unfold lpart; rw [if_neg (by rw [h]; decide)]; rfl) (fun h => by unfold lpart; rw [if_neg (by rw [h]; decide)]; rfl))
    exact part_rec0 hG hM1 hu1 hx1 hg1 g0 g1 g2 (by omega) x0 (by omega) (by omega) T1 f0 f1 f2 f3 f4 f5 f6 hm hm' (hC _ _ _ _ (pf.trans q1) q2 q3)
  by_cases v4 : hd S = 1 ∧ hd T = 1
  · obtain ⟨A, C, rfl, -, -⟩ := hd_is_fun okS v4.1
    obtain ⟨A', C', rfl, -, -⟩ := hd_is_fun okT v4.2
    have T2 : TH (mset (mset N1 83 g G) 82 g 1) u x a p b q c (Γ.length : Int) (Γ, tFun A C, tFun A' C') := T1.same (fun r i h => by rw [mset_p _ _ _ _ (by omega), mset_p _ _ _ _ (by omega)])
    obtain ⟨hw1, hv1⟩ := gm_fun (w := 0) t.ok (by decide) nb nb'
    rw [hgt_fun, hgt_fun] at l2
    obtain ⟨q1, q2, q3⟩ := oc_gen (N1 := N1) (N2 := mset (mset N1 83 g G) 82 g 1) (z := (0, Γ, tFun A C, tFun A' C')) (gs := [(1, a, p + 1, b, q + 1, c, (Γ.length : Int)), (0, a, p + 1 + (flat A).length, b, q + 1 + (flat A').length, c, (Γ.length : Int))]) (zs := [(1, Γ, A, A'), (0, Γ, C, C')]) (u := u) (x := x) (g := g) (G := G) (u' := u) (x' := x) (by
      repeat (first | refine PF.set ?_ (by unfold WR; omega) | refine PF.put ?_ (fun j hj => by unfold WR; omega))
      exact PF.refl _ _ _ _ _) (mset_R32 (mset_R32 hM1 ⟨by omega, by omega⟩) ⟨by omega, by omega⟩) (by
      (repeat (first | rw [mset_s] | rw [mset_p _ _ _ _ (by decide)] | rw [mset_i _ _ _ _ (by omega)] | rw [mput_p _ _ _ _ (by decide)]))
      all_goals exact hu1) (by
      (repeat (first | rw [mset_s] | rw [mset_p _ _ _ _ (by decide)] | rw [mset_i _ _ _ _ (by omega)] | rw [mput_p _ _ _ _ (by decide)]))
      all_goals exact hx1) (by
      (repeat (first | rw [mset_s] | rw [mset_p _ _ _ _ (by decide)] | rw [mset_i _ _ _ _ (by omega)] | rw [mput_p _ _ _ _ (by decide)]))
      all_goals exact hg1) g0 g1 g2 (by omega) x0 (by omega) (Int.le_refl _) (by omega) (Int.le_refl _) (by omega) ⟨⟨rfl, (show (1 : Nat) ≤ 2 by decide), rfl, T2.fun1.1⟩, ⟨rfl, (show (0 : Nat) ≤ 2 by decide), rfl, T2.fun1.2⟩, trivial⟩ (fun y hy => by
      rcases List.mem_cons.mp hy with h | h
      · rw [h]; simp only; omega
      · rw [List.mem_singleton.mp h]; simp only; omega) (by
      have e3 : sgl gm [(1, Γ, A, A'), (0, Γ, C, C')] = gm (1, Γ, A, A') + (gm (0, Γ, C, C') + 0) := rfl
      have hw1 : gm (1, Γ, A, A') + gm (0, Γ, C, C') + 1 ≤ _ := hw1
      rw [e3]; omega) (by
      have e3 : sgl gn [(1, Γ, A, A'), (0, Γ, C, C')] = gn (1, Γ, A, A') + (gn (0, Γ, C, C') + 0) := rfl
      have hv1 : gn (1, Γ, A, A') + gn (0, Γ, C, C') + 1 ≤ _ := hv1
      rw [e3]; omega) (fun y hy => by
      rcases List.mem_cons.mp hy with h | h
      · rw [h]; exact Or.inr ⟨by show Γ.length + gm (1, Γ, A, A') ≤ 1990; have hw1 : gm (1, Γ, A, A') + gm (0, Γ, C, C') + 1 ≤ _ := hw1; omega, by show 2 * (hgt (oh Γ) A + hgt (oh Γ) A') + 3 ≤ 300; omega⟩
      · rw [List.mem_singleton.mp h]; exact Or.inr ⟨by show Γ.length + gm (0, Γ, C, C') ≤ 1990; have hw1 : gm (1, Γ, A, A') + gm (0, Γ, C, C') + 1 ≤ _ := hw1; omega, by show 2 * (hgt (oh Γ) C + hgt (oh Γ) C') + 3 ≤ 300; omega⟩) (show (2 : Nat) ≤ 3 by decide) (by
      refine ⟨?_, ?_, ?_, Or.inl ⟨?_, rfl, ?_⟩⟩
      · (repeat (first | rw [mset_s] | rw [mset_p _ _ _ _ (by decide)] | rw [mset_i _ _ _ _ (by omega)] | rw [mput_p _ _ _ _ (by decide)]))
        all_goals exact f0
      · (repeat (first | rw [mset_s] | rw [mset_p _ _ _ _ (by decide)] | rw [mset_i _ _ _ _ (by omega)] | rw [mput_p _ _ _ _ (by decide)]))
      · (repeat (first | rw [mset_s] | rw [mset_p _ _ _ _ (by decide)] | rw [mset_i _ _ _ _ (by omega)] | rw [mput_p _ _ _ _ (by decide)]))
        all_goals exact f84
      · (repeat (first | rw [mset_s] | rw [mset_p _ _ _ _ (by decide)] | rw [mset_i _ _ _ _ (by omega)] | rw [mput_p _ _ _ _ (by decide)]))
      · rw [gv_fun t.ok (by decide) nb nb']
        exact FN_fun 0 _ _)
    exact part_fun0 hG hM1 hu1 hx1 hg1 g0 g1 g2 (by omega) x0 (by omega) (by omega) T1 (hC _ _ _ _ (pf.trans q1) q2 q3)
  by_cases v5 : hd S = 2 ∧ hd T = 2
  · obtain ⟨A, C, rfl, oA, oC⟩ := hd_is_all okS v5.1
    obtain ⟨A', C', rfl, oA', oC'⟩ := hd_is_all okT v5.2
    rw [flat_all] at t4 t8
    rw [List.length_cons, List.length_append] at t4 t8
    refine part_all0 hG hM1 hu1 hx1 hg1 g0 g1 g2 (by omega) x0 (by omega) (by omega) T1 (fun hEq => ?_) (fun hNe => ?_)
    · have ea : A = A' := flat_eq oA oA' hEq
      subst ea
      have hM0 : ∀ p i, R32 (mset (mset N1 83 g G) 82 g 2 p i) := mset_R32 (mset_R32 hM1 ⟨by omega, by omega⟩) ⟨by omega, by omega⟩
      have hu0 : mset (mset N1 83 g G) 82 g 2 56 22 = u := by
        (repeat (first | rw [mset_s] | rw [mset_p _ _ _ _ (by decide)] | rw [mset_i _ _ _ _ (by omega)] | rw [mput_p _ _ _ _ (by decide)]))
        all_goals exact hu1
      have hx0 : mset (mset N1 83 g G) 82 g 2 56 24 = x := by
        (repeat (first | rw [mset_s] | rw [mset_p _ _ _ _ (by decide)] | rw [mset_i _ _ _ _ (by omega)] | rw [mput_p _ _ _ _ (by decide)]))
        all_goals exact hx1
      have T2 : TH (mset (mset N1 83 g G) 82 g 2) u x a p b q c (Γ.length : Int) (Γ, tAll A C, tAll A C') := T1.same (fun r i h => by rw [mset_p _ _ _ _ (by omega), mset_p _ _ _ _ (by omega)])
      obtain ⟨N2, hN2⟩ : ∃ N2, N2 = mset (mset (mset (mset (mput (mset (mset (mset N1 83 g G) 82 g 2) 56 22 (u + 1)) 73 (17 * u) (flat A)) 74 x c) 75 x (Γ.length : Int)) 76 x u) 56 24 (x + 1) := ⟨_, rfl⟩
      obtain ⟨sI, c1⟩ := all_SI hM0 hu0 hx0 rfl (by omega) (by omega) x0 (by omega) (by omega) (by omega) oA T2.hc hN2
      have r1 := T2.ra
      have r2 := T2.rb
      simp only at r1 r2
      rw [flat_all] at r1 r2
      obtain ⟨-, r1⟩ := r1
      obtain ⟨-, r2⟩ := r2
      have r1a := (Row.app.mp r1).1
      have r1c := (Row.app.mp r1).2
      have r2c := (Row.app.mp r2).2
      have hc : okc Γ := t.ok.1
      have T3 : TH N2 (u + 1) (x + 1) a (p + 1 + (flat A).length) b (q + 1 + (flat A).length) x (((A :: Γ).length : Nat) : Int) (A :: Γ, C, C') := ⟨t1, by omega, by omega, by simp only; omega, Ext.row (l := flat C) sI.ext t2 (by omega) r1c, t5, by omega, by omega, by simp only; omega, Ext.row (l := flat C') sI.ext t6 (by omega) r2c, c1, rfl, ⟨oA, hc⟩, oC, oC'⟩
      obtain ⟨hw1, hv1⟩ := gm_all (w := 0) t.ok (by decide) nb nb'
      rw [hgt_all, hgt_all] at l2
      have wp := wt_pos oA (om Γ)
      have kp : ∀ (r : Nat) (i : Int), r = 81 ∨ r = 82 ∨ r = 83 ∨ r = 84 ∨ (r = 56 ∧ i = 36) → N2 r i = mset (mset N1 83 g G) 82 g 2 r i := fun r i h => by
        have en : ∀ (B : pm_M) (p' : Nat) (j v : Int), ¬ (r = p' ∧ i = j) → mset B p' j v r i = B r i := fun B p' j v h' => if_neg h'
        rw [hN2, en _ _ _ _ (by omega), en _ _ _ _ (by omega), en _ _ _ _ (by omega), en _ _ _ _ (by omega), mput_p _ _ _ _ (by omega), en _ _ _ _ (by omega)]
      obtain ⟨q1, q2, q3⟩ := oc_gen (N1 := N1) (N2 := N2) (z := (0, Γ, tAll A C, tAll A C')) (gs := [(0, a, p + 1 + (flat A).length, b, q + 1 + (flat A).length, x, (Γ.length : Int) + 1)]) (zs := [(0, A :: Γ, C, C')]) (u := u) (x := x) (g := g) (G := G) (u' := u + 1) (x' := x + 1) (by
        rw [hN2]
        repeat (first | refine PF.set ?_ (by unfold WR; omega) | refine PF.put ?_ (fun j hj => by unfold WR; omega))
        exact PF.refl _ _ _ _ _) sI.r32 sI.hu sI.hx (by
        rw [kp _ _ (by omega)]
        (repeat (first | rw [mset_s] | rw [mset_p _ _ _ _ (by decide)] | rw [mset_i _ _ _ _ (by omega)] | rw [mput_p _ _ _ _ (by decide)]))
        all_goals exact hg1) g0 g1 g2 (by omega) (by omega) (by omega) (by omega) (Int.le_refl _) (by omega) (Int.le_refl _) ⟨⟨rfl, (show (0 : Nat) ≤ 2 by decide), rfl, T3⟩, trivial⟩ (fun y hy => by
        rw [List.mem_singleton.mp hy]; simp only [List.length_cons]; omega) (by
        have e3 : sgl gm [(0, A :: Γ, C, C')] = gm (0, A :: Γ, C, C') + 0 := rfl
        rw [e3]; omega) (by
        have e3 : sgl gn [(0, A :: Γ, C, C')] = gn (0, A :: Γ, C, C') + 0 := rfl
        rw [e3]; omega) (fun y hy => by
        rw [List.mem_singleton.mp hy]
        exact Or.inr ⟨by show (Γ.length + 1) + gm (0, A :: Γ, C, C') ≤ 1990; omega, by show 2 * (hgt (hgt (oh Γ) A :: oh Γ) C + hgt (hgt (oh Γ) A :: oh Γ) C') + 3 ≤ 300; omega⟩) (show (1 : Nat) ≤ 3 by decide) (by
        refine ⟨?_, ?_, ?_, Or.inr (Or.inr ⟨A, Γ.length, a, p, ?_, rfl, ?_, ?_, t1, by omega, t3, by omega, oA, Ext.row (l := flat A) sI.ext t2 (by omega) r1a, ?_⟩)⟩
        · rw [kp _ _ (by omega)]
          (repeat (first | rw [mset_s] | rw [mset_p _ _ _ _ (by decide)] | rw [mset_i _ _ _ _ (by omega)] | rw [mput_p _ _ _ _ (by decide)]))
          all_goals exact f0
        · rw [kp _ _ (by omega)]
          (repeat (first | rw [mset_s] | rw [mset_p _ _ _ _ (by decide)] | rw [mset_i _ _ _ _ (by omega)] | rw [mput_p _ _ _ _ (by decide)]))
        · rw [kp _ _ (by omega)]
          (repeat (first | rw [mset_s] | rw [mset_p _ _ _ _ (by decide)] | rw [mset_i _ _ _ _ (by omega)] | rw [mput_p _ _ _ _ (by decide)]))
          all_goals exact f84
        · rw [kp _ _ (by omega)]
          (repeat (first | rw [mset_s] | rw [mset_p _ _ _ _ (by decide)] | rw [mset_i _ _ _ _ (by omega)] | rw [mput_p _ _ _ _ (by decide)]))
        · rw [kp _ _ (by omega)]
          (repeat (first | rw [mset_s] | rw [mset_p _ _ _ _ (by decide)] | rw [mset_i _ _ _ _ (by omega)] | rw [mput_p _ _ _ _ (by decide)]))
          all_goals exact f1
        · rw [kp _ _ (by omega)]
          (repeat (first | rw [mset_s] | rw [mset_p _ _ _ _ (by decide)] | rw [mset_i _ _ _ _ (by omega)] | rw [mput_p _ _ _ _ (by decide)]))
          all_goals exact f2
        · rw [gv_all t.ok (by decide) nb nb']
          exact FN_all 0 A _)
      rw [← hN2]
      exact hC _ _ _ _ (pf.trans q1) q2 q3
    · obtain ⟨q1, q2, q3⟩ := oa_top (z := (0, Γ, tAll A C, tAll A' C')) k1 (by omega) hg e82 g0 g1 g2 (by omega) (by omega) ((gv_alln t.ok (by decide) nb nb' hNe).trans rfl)
      exact hA _ _ q1 q2 q3
  obtain ⟨q1, q2, q3⟩ := oa_top (z := (0, Γ, S, T)) k1 (by omega) hg e82 g0 g1 g2 (by omega) (by omega) ((gv_no t.ok (by decide) nb nb' v1 v2 v3 v4 v5).trans rfl)
  exact part_no0 hG hM1 hu1 hx1 hg1 g0 g1 g2 (by omega) x0 (by omega) (by omega) T1 v1 v2 v3 v4 v5 (hA _ _ q1 q2 q3)
set_option maxRecDepth 20000 in
set_option maxHeartbeats 2000000 in
theorem m_part1 {u x g G : Int} {Γ : List Ty} {S T : Ty} (hG : pm_G Rf K L n) (hM : ∀ p i, R32 (N p i)) (hu : N 56 22 = u) (hx : N 56 24 = x) (hg : N 56 36 = G) (g0 : 0 ≤ g) (g1 : g < G) (g2 : G + 3 ≤ 600) (x0 : 0 ≤ x) (u1 : u + (gm (1, Γ, S, T) : Nat) < 1100) (x1 : x + (gm (1, Γ, S, T) : Nat) < 900) (e : GE N u x g (1, Γ, S, T)) (e82 : N 82 g = -1) (lz : LZ (1, Γ, S, T)) (hA : ∀ (N' : pm_M) (u' : Int), PF N N' u x g G → (∀ p i, R32 (N' p i)) → OA N' u x g G u' (1, Γ, S, T) → Q none (zM N', Rf, K, L, n, s)) (hB : ∀ (N' : pm_M) (y : Gz), PF N N' u x g G → (∀ p i, R32 (N' p i)) → OB N' u x g G (1, Γ, S, T) y → Q none (zM N', Rf, K, L, n, s)) (hC : ∀ (N' : pm_M) (u' x' : Int) (zs : List Gz), PF N N' u x g G → (∀ p i, R32 (N' p i)) → OC N' u x g G u' x' zs (1, Γ, S, T) → Q none (zM N', Rf, K, L, n, s)) : pm_Wc (d + 8) 166 [.ref 56, .int (zI g)] (zM N, Rf, K, L, n, s) Q := by
  obtain ⟨a, p, b, q, c, e0, e1, e2, e3, e4, e5, e6, t, e84, -⟩ := e
  simp only at e0 e6 t
  have hw : tru (Γ, S, T) ≤ gm (1, Γ, S, T) := gm_pos (z := (1, Γ, S, T)) t.ok (show (1 : Nat) ≠ 2 by decide)
  have okS : ok Γ.length S = true := t.ok.2.1
  have okT : ok Γ.length T = true := t.ok.2.2
  obtain ⟨l1, l2⟩ := lz.resolve_left (fun h => absurd (show (1 : Nat) = 2 from h) (by decide))
  have l1 : Γ.length + gm (1, Γ, S, T) ≤ 1990 := l1
  have l2 : 2 * (hgt (oh Γ) S + hgt (oh Γ) T) + 3 ≤ 300 := l2
  have t1 := t.a0; have t2 := t.a1; have t3 := t.p0; have t4 := t.p1; have t5 := t.b0; have t6 := t.b1; have t7 := t.q0; have t8 := t.q1
  simp only at t4 t8
  refine part_1 hG hM hu hx g0 (by omega) e0 e1 e2 e3 e4 e5 e6 t x0 (by omega) (by omega) (by omega) l2 (fun hb N1 k1 => ?_) (fun nb hb N1 k1 => ?_) (fun nb nb' N1 k1 => ?_)
  · skip
    have T1 : TH N1 u x a p b q c (Γ.length : Int) (Γ, S, T) := t.mono k1.1 (Int.le_refl _) (Int.le_refl _)
    obtain ⟨q1, q2, q3⟩ := oa_row (z := (1, Γ, S, T)) k1 hg e82 g0 g1 (by omega) t1 t2 t3 t4 T1.ra T1.ok.2.1 ((gv_lo t.ok (by decide) hb).trans rfl)
    exact hA _ _ q1 q2 q3
  · skip
    have T1 : TH N1 u x a p b q c (Γ.length : Int) (Γ, S, T) := t.mono k1.1 (Int.le_refl _) (Int.le_refl _)
    obtain ⟨q1, q2, q3⟩ := oa_row (z := (1, Γ, S, T)) k1 hg e82 g0 g1 (by omega) t5 t6 t7 t8 T1.rb T1.ok.2.2 ((gv_hi t.ok (by decide) nb hb).trans rfl)
    exact hA _ _ q1 q2 q3
  have T1 : TH N1 u x a p b q c (Γ.length : Int) (Γ, S, T) := t.mono k1.1 (Int.le_refl _) (Int.le_refl _)
  have gq := gm_one (w := 1) t.ok (by decide) nb nb'
  have hM1 := k1.2.1
  have hu1 := k1.2.2.1
  have hx1 := k1.2.2.2
  have hg1 := k1.hg hg
  have pf := k1.pf g G
  have f0 : N1 81 (7 * g) = 1 := by rw [k1.at _ _ (by decide)]; exact e0
  have f1 : N1 81 (7 * g + 1) = a := by rw [k1.at _ _ (by decide)]; exact e1
  have f2 : N1 81 (7 * g + 2) = p := by rw [k1.at _ _ (by decide)]; exact e2
  have f3 : N1 81 (7 * g + 3) = b := by rw [k1.at _ _ (by decide)]; exact e3
  have f4 : N1 81 (7 * g + 4) = q := by rw [k1.at _ _ (by decide)]; exact e4
  have f5 : N1 81 (7 * g + 5) = c := by rw [k1.at _ _ (by decide)]; exact e5
  have f6 : N1 81 (7 * g + 6) = (Γ.length : Int) := by rw [k1.at _ _ (by decide)]; exact e6
  have f82 : N1 82 g = -1 := by rw [k1.at _ _ (by decide)]; exact e82
  have f84 : N1 84 g = 0 := by rw [k1.at _ _ (by decide)]; exact e84
  clear e0 e1 e2 e3 e4 e5 e6
  by_cases v1 : 16 ≤ hd S
  · obtain ⟨kk, hkk, rfl⟩ := hd_is_var okS v1
    obtain ⟨q1, q2, q3⟩ := oa_none (z := (1, Γ, tVar kk, T)) k1 hg e82 e84 ((gv_v1 t.ok (by decide) nb nb' v1).trans (if_pos rfl))
    exact part_v1 hG hM1 hu1 hx1 hg1 g0 g1 g2 (by omega) x0 (by omega) (by omega) T1 (hA _ _ q1 q2 q3)
  by_cases v2 : 16 ≤ hd T
  · obtain ⟨kk, hkk, rfl⟩ := hd_is_var okT v2
    obtain ⟨q1, q2, q3⟩ := oa_none (z := (1, Γ, S, tVar kk)) k1 hg e82 e84 ((gv_v2 t.ok (by decide) nb nb' v1 v2).trans (if_pos rfl))
    exact part_v2 hG hM1 hu1 hx1 hg1 g0 g1 g2 (by omega) x0 (by omega) (by omega) T1 v1 (hA _ _ q1 q2 q3)
  by_cases v3 : 8 ≤ hd S ∧ 8 ≤ hd T
  · obtain ⟨m, X0, X1, X2, hm, rfl⟩ := hd_is_rec okS v3.1 (by omega)
    obtain ⟨m', Y0, Y1, Y2, hm', rfl⟩ := hd_is_rec okT v3.2 (by omega)
    have hls : lset 1 m m' < 8 := (or8 m hm m' hm').2
    have hin := bin1 m hm m' hm'
    have hc := t.ok.1
    have oS := (ok_rec hm).mp t.ok.2.1
    have oT := (ok_rec hm').mp t.ok.2.2
    simp only at hc oS oT
    have i0 := hin 0 (by decide)
    have i1 := hin 1 (by decide)
    have i2 := hin 2 (by decide)
    have T2 : TH (mset (mset N1 83 g G) 82 g ((8 + lset 1 m m' : Nat) : Int)) u x a p b q c (Γ.length : Int) (Γ, tRec m X0 X1 X2, tRec m' Y0 Y1 Y2) := T1.same (fun r i h => by rw [mset_p _ _ _ _ (by omega), mset_p _ _ _ _ (by omega)])
    obtain ⟨hw1, hv1⟩ := gm_rec (w := 1) t.ok hm hm' (by decide) nb nb'
    rw [hgt_rec, hgt_rec] at l2
    have w0 := gzl_gv (W := 1) hc oS.1 oT.1 i0
    have w1 := gzl_gv (W := 1) hc oS.2.1 oT.2.1 i1
    have w2 := gzl_gv (W := 1) hc oS.2.2 oT.2.2 i2
    have n0 := gzl_len (W := 1) (Γ := Γ) (X := X0) (Y := Y0) i0
    have n1 := gzl_len (W := 1) (Γ := Γ) (X := X1) (Y := Y1) i1
    have n2 := gzl_len (W := 1) (Γ := Γ) (X := X2) (Y := Y2) i2
    have hlen : (gzl 1 Γ (lset 1 m m') m m' 0 X0 Y0 ++ (gzl 1 Γ (lset 1 m m') m m' 1 X1 Y1 ++ gzl 1 Γ (lset 1 m m') m m' 2 X2 Y2)).length = lab ((lset 1 m m' : Nat) : Int) := by
      rw [List.length_append, List.length_append, n0, n1, n2, lab_b _ hls]
    have gr : GR (mset (mset N1 83 g G) 82 g ((8 + lset 1 m m' : Nat) : Int)) u x ((fgl 1 a b c (Γ.length : Int) (lset 1 m m') m m' 0 (p + 1 + fpos X0 X1 0) (q + 1 + fpos Y0 Y1 0)) ++ ((fgl 1 a b c (Γ.length : Int) (lset 1 m m') m m' 1 (p + 1 + fpos X0 X1 1) (q + 1 + fpos Y0 Y1 1)) ++ (fgl 1 a b c (Γ.length : Int) (lset 1 m m') m m' 2 (p + 1 + fpos X0 X1 2) (q + 1 + fpos Y0 Y1 2)))) (gzl 1 Γ (lset 1 m m') m m' 0 X0 Y0 ++ (gzl 1 Γ (lset 1 m m') m m' 1 X1 Y1 ++ gzl 1 Γ (lset 1 m m') m m' 2 X2 Y2)) :=
      GR.app (gzl_GR (W := 1) (by decide) i0 (TH_field0 hm hm' T2) (fun h => TH_field0 hm hm T2.left h h) (fun h => TH_field0 hm' hm' T2.swap.left h h)) (GR.app (gzl_GR (W := 1) (by decide) i1 (TH_field1 hm hm' T2) (fun h => TH_field1 hm hm T2.left h h) (fun h => TH_field1 hm' hm' T2.swap.left h h)) (gzl_GR (W := 1) (by decide) i2 (TH_field2 hm hm' T2) (fun h => TH_field2 hm hm T2.left h h) (fun h => TH_field2 hm' hm' T2.swap.left h h)))
    have h3 : lab ((lset 1 m m' : Nat) : Int) ≤ 3 := by rw [lab_b _ hls]; split <;> split <;> split <;> omega
    obtain ⟨q1, q2, q3⟩ := oc_gen (N1 := N1) (z := (1, Γ, tRec m X0 X1 X2, tRec m' Y0 Y1 Y2)) (u := u) (x := x) (g := g) (u' := u) (x' := x) (by
      repeat (first | refine PF.set ?_ (by unfold WR; omega) | refine PF.put ?_ (fun j hj => by unfold WR; omega))
      exact PF.refl _ _ _ _ _) (mset_R32 (mset_R32 hM1 ⟨by omega, by omega⟩) ⟨by omega, by omega⟩) (by
      (repeat (first | rw [mset_s] | rw [mset_p _ _ _ _ (by decide)] | rw [mset_i _ _ _ _ (by omega)] | rw [mput_p _ _ _ _ (by decide)]))
      all_goals exact hu1) (by
      (repeat (first | rw [mset_s] | rw [mset_p _ _ _ _ (by decide)] | rw [mset_i _ _ _ _ (by omega)] | rw [mput_p _ _ _ _ (by decide)]))
      all_goals exact hx1) (by
      (repeat (first | rw [mset_s] | rw [mset_p _ _ _ _ (by decide)] | rw [mset_i _ _ _ _ (by omega)] | rw [mput_p _ _ _ _ (by decide)]))
      all_goals exact hg1) g0 g1 g2 (by omega) x0 (by omega) (Int.le_refl _) (by omega) (Int.le_refl _) (by omega) gr (fun y hy => by
      rcases List.mem_append.mp hy with h | h
      · rw [gzl_ctx i0 y h]; omega
      · rcases List.mem_append.mp h with h | h
        · rw [gzl_ctx i1 y h]; omega
        · rw [gzl_ctx i2 y h]; omega) (by rw [sgl_app, sgl_app]; omega) (by rw [sgl_app, sgl_app]; omega) (fun y hy => by
      rcases List.mem_append.mp hy with h | h
      · exact gzl_LZ i0 (by omega) (by omega) y h
      · rcases List.mem_append.mp h with h | h
        · exact gzl_LZ i1 (by omega) (by omega) y h
        · exact gzl_LZ i2 (by omega) (by omega) y h) (by rw [hlen]; exact h3) (by
      refine ⟨?_, ?_, ?_, Or.inr (Or.inl ⟨lset 1 m m', hls, ?_, ?_, ?_⟩)⟩
      · (repeat (first | rw [mset_s] | rw [mset_p _ _ _ _ (by decide)] | rw [mset_i _ _ _ _ (by omega)] | rw [mput_p _ _ _ _ (by decide)]))
        all_goals exact f0
      · (repeat (first | rw [mset_s] | rw [mset_p _ _ _ _ (by decide)] | rw [mset_i _ _ _ _ (by omega)] | rw [mput_p _ _ _ _ (by decide)]))
      · (repeat (first | rw [mset_s] | rw [mset_p _ _ _ _ (by decide)] | rw [mset_i _ _ _ _ (by omega)] | rw [mput_p _ _ _ _ (by decide)]))
        all_goals exact f84
      · (repeat (first | rw [mset_s] | rw [mset_p _ _ _ _ (by decide)] | rw [mset_i _ _ _ _ (by omega)] | rw [mput_p _ _ _ _ (by decide)]))
      · rw [List.length_map]; exact hlen
      · rw [gv_rec hm hm' t.ok (by decide) nb nb', List.map_append, List.map_append, w0, w1, w2]
        exact FN_rec 1 (lset 1 m m') (bit (lset 1 m m') 0) (bit (lset 1 m m') 1) (bit (lset 1 m m') 2) _ _ _ (fun h => by unfold lpart; rw [if_neg (by rw [h]; decide)]; rfl) (fun h => by unfold lpart; rw [if_neg (by rw [h]; decide)]; rfl) (fun h => by unfold lpart; rw [if_neg (by rw [h]; decide)]; rfl))
    exact part_rec1 hG hM1 hu1 hx1 hg1 g0 g1 g2 (by omega) x0 (by omega) (by omega) T1 f0 f1 f2 f3 f4 f5 f6 hm hm' (hC _ _ _ _ (pf.trans q1) q2 q3)
  by_cases v4 : hd S = 1 ∧ hd T = 1
  · obtain ⟨A, C, rfl, -, -⟩ := hd_is_fun okS v4.1
    obtain ⟨A', C', rfl, -, -⟩ := hd_is_fun okT v4.2
    have T2 : TH (mset (mset N1 83 g G) 82 g 1) u x a p b q c (Γ.length : Int) (Γ, tFun A C, tFun A' C') := T1.same (fun r i h => by rw [mset_p _ _ _ _ (by omega), mset_p _ _ _ _ (by omega)])
    obtain ⟨hw1, hv1⟩ := gm_fun (w := 1) t.ok (by decide) nb nb'
    rw [hgt_fun, hgt_fun] at l2
    obtain ⟨q1, q2, q3⟩ := oc_gen (N1 := N1) (N2 := mset (mset N1 83 g G) 82 g 1) (z := (1, Γ, tFun A C, tFun A' C')) (gs := [(0, a, p + 1, b, q + 1, c, (Γ.length : Int)), (1, a, p + 1 + (flat A).length, b, q + 1 + (flat A').length, c, (Γ.length : Int))]) (zs := [(0, Γ, A, A'), (1, Γ, C, C')]) (u := u) (x := x) (g := g) (G := G) (u' := u) (x' := x) (by
      repeat (first | refine PF.set ?_ (by unfold WR; omega) | refine PF.put ?_ (fun j hj => by unfold WR; omega))
      exact PF.refl _ _ _ _ _) (mset_R32 (mset_R32 hM1 ⟨by omega, by omega⟩) ⟨by omega, by omega⟩) (by
      (repeat (first | rw [mset_s] | rw [mset_p _ _ _ _ (by decide)] | rw [mset_i _ _ _ _ (by omega)] | rw [mput_p _ _ _ _ (by decide)]))
      all_goals exact hu1) (by
      (repeat (first | rw [mset_s] | rw [mset_p _ _ _ _ (by decide)] | rw [mset_i _ _ _ _ (by omega)] | rw [mput_p _ _ _ _ (by decide)]))
      all_goals exact hx1) (by
      (repeat (first | rw [mset_s] | rw [mset_p _ _ _ _ (by decide)] | rw [mset_i _ _ _ _ (by omega)] | rw [mput_p _ _ _ _ (by decide)]))
      all_goals exact hg1) g0 g1 g2 (by omega) x0 (by omega) (Int.le_refl _) (by omega) (Int.le_refl _) (by omega) ⟨⟨rfl, (show (0 : Nat) ≤ 2 by decide), rfl, T2.fun1.1⟩, ⟨rfl, (show (1 : Nat) ≤ 2 by decide), rfl, T2.fun1.2⟩, trivial⟩ (fun y hy => by
      rcases List.mem_cons.mp hy with h | h
      · rw [h]; simp only; omega
      · rw [List.mem_singleton.mp h]; simp only; omega) (by
      have e3 : sgl gm [(0, Γ, A, A'), (1, Γ, C, C')] = gm (0, Γ, A, A') + (gm (1, Γ, C, C') + 0) := rfl
      have hw1 : gm (0, Γ, A, A') + gm (1, Γ, C, C') + 1 ≤ _ := hw1
      rw [e3]; omega) (by
      have e3 : sgl gn [(0, Γ, A, A'), (1, Γ, C, C')] = gn (0, Γ, A, A') + (gn (1, Γ, C, C') + 0) := rfl
      have hv1 : gn (0, Γ, A, A') + gn (1, Γ, C, C') + 1 ≤ _ := hv1
      rw [e3]; omega) (fun y hy => by
      rcases List.mem_cons.mp hy with h | h
      · rw [h]; exact Or.inr ⟨by show Γ.length + gm (0, Γ, A, A') ≤ 1990; have hw1 : gm (0, Γ, A, A') + gm (1, Γ, C, C') + 1 ≤ _ := hw1; omega, by show 2 * (hgt (oh Γ) A + hgt (oh Γ) A') + 3 ≤ 300; omega⟩
      · rw [List.mem_singleton.mp h]; exact Or.inr ⟨by show Γ.length + gm (1, Γ, C, C') ≤ 1990; have hw1 : gm (0, Γ, A, A') + gm (1, Γ, C, C') + 1 ≤ _ := hw1; omega, by show 2 * (hgt (oh Γ) C + hgt (oh Γ) C') + 3 ≤ 300; omega⟩) (show (2 : Nat) ≤ 3 by decide) (by
      refine ⟨?_, ?_, ?_, Or.inl ⟨?_, rfl, ?_⟩⟩
      · (repeat (first | rw [mset_s] | rw [mset_p _ _ _ _ (by decide)] | rw [mset_i _ _ _ _ (by omega)] | rw [mput_p _ _ _ _ (by decide)]))
        all_goals exact f0
      · (repeat (first | rw [mset_s] | rw [mset_p _ _ _ _ (by decide)] | rw [mset_i _ _ _ _ (by omega)] | rw [mput_p _ _ _ _ (by decide)]))
      · (repeat (first | rw [mset_s] | rw [mset_p _ _ _ _ (by decide)] | rw [mset_i _ _ _ _ (by omega)] | rw [mput_p _ _ _ _ (by decide)]))
        all_goals exact f84
      · (repeat (first | rw [mset_s] | rw [mset_p _ _ _ _ (by decide)] | rw [mset_i _ _ _ _ (by omega)] | rw [mput_p _ _ _ _ (by decide)]))
      · rw [gv_fun t.ok (by decide) nb nb']
        exact FN_fun 1 _ _)
    exact part_fun1 hG hM1 hu1 hx1 hg1 g0 g1 g2 (by omega) x0 (by omega) (by omega) T1 (hC _ _ _ _ (pf.trans q1) q2 q3)
  by_cases v5 : hd S = 2 ∧ hd T = 2
  · obtain ⟨A, C, rfl, oA, oC⟩ := hd_is_all okS v5.1
    obtain ⟨A', C', rfl, oA', oC'⟩ := hd_is_all okT v5.2
    rw [flat_all] at t4 t8
    rw [List.length_cons, List.length_append] at t4 t8
    refine part_all1 hG hM1 hu1 hx1 hg1 g0 g1 g2 (by omega) x0 (by omega) (by omega) T1 (fun hEq => ?_) (fun hNe => ?_)
    · have ea : A = A' := flat_eq oA oA' hEq
      subst ea
      have hM0 : ∀ p i, R32 (mset (mset N1 83 g G) 82 g 2 p i) := mset_R32 (mset_R32 hM1 ⟨by omega, by omega⟩) ⟨by omega, by omega⟩
      have hu0 : mset (mset N1 83 g G) 82 g 2 56 22 = u := by
        (repeat (first | rw [mset_s] | rw [mset_p _ _ _ _ (by decide)] | rw [mset_i _ _ _ _ (by omega)] | rw [mput_p _ _ _ _ (by decide)]))
        all_goals exact hu1
      have hx0 : mset (mset N1 83 g G) 82 g 2 56 24 = x := by
        (repeat (first | rw [mset_s] | rw [mset_p _ _ _ _ (by decide)] | rw [mset_i _ _ _ _ (by omega)] | rw [mput_p _ _ _ _ (by decide)]))
        all_goals exact hx1
      have T2 : TH (mset (mset N1 83 g G) 82 g 2) u x a p b q c (Γ.length : Int) (Γ, tAll A C, tAll A C') := T1.same (fun r i h => by rw [mset_p _ _ _ _ (by omega), mset_p _ _ _ _ (by omega)])
      obtain ⟨N2, hN2⟩ : ∃ N2, N2 = mset (mset (mset (mset (mput (mset (mset (mset N1 83 g G) 82 g 2) 56 22 (u + 1)) 73 (17 * u) (flat A)) 74 x c) 75 x (Γ.length : Int)) 76 x u) 56 24 (x + 1) := ⟨_, rfl⟩
      obtain ⟨sI, c1⟩ := all_SI hM0 hu0 hx0 rfl (by omega) (by omega) x0 (by omega) (by omega) (by omega) oA T2.hc hN2
      have r1 := T2.ra
      have r2 := T2.rb
      simp only at r1 r2
      rw [flat_all] at r1 r2
      obtain ⟨-, r1⟩ := r1
      obtain ⟨-, r2⟩ := r2
      have r1a := (Row.app.mp r1).1
      have r1c := (Row.app.mp r1).2
      have r2c := (Row.app.mp r2).2
      have hc : okc Γ := t.ok.1
      have T3 : TH N2 (u + 1) (x + 1) a (p + 1 + (flat A).length) b (q + 1 + (flat A).length) x (((A :: Γ).length : Nat) : Int) (A :: Γ, C, C') := ⟨t1, by omega, by omega, by simp only; omega, Ext.row (l := flat C) sI.ext t2 (by omega) r1c, t5, by omega, by omega, by simp only; omega, Ext.row (l := flat C') sI.ext t6 (by omega) r2c, c1, rfl, ⟨oA, hc⟩, oC, oC'⟩
      obtain ⟨hw1, hv1⟩ := gm_all (w := 1) t.ok (by decide) nb nb'
      rw [hgt_all, hgt_all] at l2
      have wp := wt_pos oA (om Γ)
      have kp : ∀ (r : Nat) (i : Int), r = 81 ∨ r = 82 ∨ r = 83 ∨ r = 84 ∨ (r = 56 ∧ i = 36) → N2 r i = mset (mset N1 83 g G) 82 g 2 r i := fun r i h => by
        have en : ∀ (B : pm_M) (p' : Nat) (j v : Int), ¬ (r = p' ∧ i = j) → mset B p' j v r i = B r i := fun B p' j v h' => if_neg h'
        rw [hN2, en _ _ _ _ (by omega), en _ _ _ _ (by omega), en _ _ _ _ (by omega), en _ _ _ _ (by omega), mput_p _ _ _ _ (by omega), en _ _ _ _ (by omega)]
      obtain ⟨q1, q2, q3⟩ := oc_gen (N1 := N1) (N2 := N2) (z := (1, Γ, tAll A C, tAll A C')) (gs := [(1, a, p + 1 + (flat A).length, b, q + 1 + (flat A).length, x, (Γ.length : Int) + 1)]) (zs := [(1, A :: Γ, C, C')]) (u := u) (x := x) (g := g) (G := G) (u' := u + 1) (x' := x + 1) (by
        rw [hN2]
        repeat (first | refine PF.set ?_ (by unfold WR; omega) | refine PF.put ?_ (fun j hj => by unfold WR; omega))
        exact PF.refl _ _ _ _ _) sI.r32 sI.hu sI.hx (by
        rw [kp _ _ (by omega)]
        (repeat (first | rw [mset_s] | rw [mset_p _ _ _ _ (by decide)] | rw [mset_i _ _ _ _ (by omega)] | rw [mput_p _ _ _ _ (by decide)]))
        all_goals exact hg1) g0 g1 g2 (by omega) (by omega) (by omega) (by omega) (Int.le_refl _) (by omega) (Int.le_refl _) ⟨⟨rfl, (show (1 : Nat) ≤ 2 by decide), rfl, T3⟩, trivial⟩ (fun y hy => by
        rw [List.mem_singleton.mp hy]; simp only [List.length_cons]; omega) (by
        have e3 : sgl gm [(1, A :: Γ, C, C')] = gm (1, A :: Γ, C, C') + 0 := rfl
        rw [e3]; omega) (by
        have e3 : sgl gn [(1, A :: Γ, C, C')] = gn (1, A :: Γ, C, C') + 0 := rfl
        rw [e3]; omega) (fun y hy => by
        rw [List.mem_singleton.mp hy]
        exact Or.inr ⟨by show (Γ.length + 1) + gm (1, A :: Γ, C, C') ≤ 1990; omega, by show 2 * (hgt (hgt (oh Γ) A :: oh Γ) C + hgt (hgt (oh Γ) A :: oh Γ) C') + 3 ≤ 300; omega⟩) (show (1 : Nat) ≤ 3 by decide) (by
        refine ⟨?_, ?_, ?_, Or.inr (Or.inr ⟨A, Γ.length, a, p, ?_, rfl, ?_, ?_, t1, by omega, t3, by omega, oA, Ext.row (l := flat A) sI.ext t2 (by omega) r1a, ?_⟩)⟩
        · rw [kp _ _ (by omega)]
          (repeat (first | rw [mset_s] | rw [mset_p _ _ _ _ (by decide)] | rw [mset_i _ _ _ _ (by omega)] | rw [mput_p _ _ _ _ (by decide)]))
          all_goals exact f0
        · rw [kp _ _ (by omega)]
          (repeat (first | rw [mset_s] | rw [mset_p _ _ _ _ (by decide)] | rw [mset_i _ _ _ _ (by omega)] | rw [mput_p _ _ _ _ (by decide)]))
        · rw [kp _ _ (by omega)]
          (repeat (first | rw [mset_s] | rw [mset_p _ _ _ _ (by decide)] | rw [mset_i _ _ _ _ (by omega)] | rw [mput_p _ _ _ _ (by decide)]))
          all_goals exact f84
        · rw [kp _ _ (by omega)]
          (repeat (first | rw [mset_s] | rw [mset_p _ _ _ _ (by decide)] | rw [mset_i _ _ _ _ (by omega)] | rw [mput_p _ _ _ _ (by decide)]))
        · rw [kp _ _ (by omega)]
          (repeat (first | rw [mset_s] | rw [mset_p _ _ _ _ (by decide)] | rw [mset_i _ _ _ _ (by omega)] | rw [mput_p _ _ _ _ (by decide)]))
          all_goals exact f1
        · rw [kp _ _ (by omega)]
          (repeat (first | rw [mset_s] | rw [mset_p _ _ _ _ (by decide)] | rw [mset_i _ _ _ _ (by omega)] | rw [mput_p _ _ _ _ (by decide)]))
          all_goals exact f2
        · rw [gv_all t.ok (by decide) nb nb']
          exact FN_all 1 A _)
      rw [← hN2]
      exact hC _ _ _ _ (pf.trans q1) q2 q3
    · obtain ⟨q1, q2, q3⟩ := oa_none' (z := (1, Γ, tAll A C, tAll A' C')) k1 hg e82 e84 g0 g1 g2 ((gv_alln t.ok (by decide) nb nb' hNe).trans rfl)
      exact hA _ _ q1 q2 q3
  obtain ⟨q1, q2, q3⟩ := oa_none' (z := (1, Γ, S, T)) k1 hg e82 e84 g0 g1 g2 ((gv_no t.ok (by decide) nb nb' v1 v2 v3 v4 v5).trans rfl)
  exact part_no1 hG hM1 hu1 hx1 hg1 g0 g1 g2 (by omega) x0 (by omega) (by omega) T1 v1 v2 v3 v4 v5 (hA _ _ q1 q2 q3)
theorem m_part {u x g G : Int} {z : Gz} (hG : pm_G Rf K L n) (hM : ∀ p i, R32 (N p i)) (hu : N 56 22 = u) (hx : N 56 24 = x) (hg : N 56 36 = G) (g0 : 0 ≤ g) (g1 : g < G) (g2 : G + 3 ≤ 600) (x0 : 0 ≤ x) (u1 : u + (gm z : Nat) < 1100) (x1 : x + (gm z : Nat) < 900) (e : GE N u x g z) (e82 : N 82 g = -1) (lz : LZ z) (hA : ∀ (N' : pm_M) (u' : Int), PF N N' u x g G → (∀ p i, R32 (N' p i)) → OA N' u x g G u' z → Q none (zM N', Rf, K, L, n, s)) (hB : ∀ (N' : pm_M) (y : Gz), PF N N' u x g G → (∀ p i, R32 (N' p i)) → OB N' u x g G z y → Q none (zM N', Rf, K, L, n, s)) (hC : ∀ (N' : pm_M) (u' x' : Int) (zs : List Gz), PF N N' u x g G → (∀ p i, R32 (N' p i)) → OC N' u x g G u' x' zs z → Q none (zM N', Rf, K, L, n, s)) : pm_Wc (d + 8) 166 [.ref 56, .int (zI g)] (zM N, Rf, K, L, n, s) Q := by
  obtain ⟨w, Γ, S, T⟩ := z
  have hw : w ≤ 2 := by
    obtain ⟨a, p, b, q, c, -, -, -, -, -, -, -, -, -, e9⟩ := e
    exact e9
  rcases (show w = 0 ∨ w = 1 ∨ w = 2 by omega) with h | h | h
  · subst h; exact m_part0 hG hM hu hx hg g0 g1 g2 x0 u1 x1 e e82 lz hA hB hC
  · subst h; exact m_part1 hG hM hu hx hg g0 g1 g2 x0 u1 x1 e e82 lz hA hB hC
  · subst h; exact m_part2 hG hM hu hx hg g0 g1 (by omega) (by omega) e e82 hA
end PmM21
