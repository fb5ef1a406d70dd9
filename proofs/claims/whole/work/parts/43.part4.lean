/-! THE MODEL: part of two records. -/
theorem and8 : ∀ m, m < 8 → ∀ m', m' < 8 → (8 + m) &&& (8 + m') = 8 + lset 0 m m' ∧ lset 0 m m' < 8 := by decide
theorem or8 : ∀ m, m < 8 → ∀ m', m' < 8 → (8 + m) ||| (8 + m') = 8 + lset 1 m m' ∧ lset 1 m m' < 8 := by decide
theorem bin0 : ∀ m, m < 8 → ∀ m', m' < 8 → ∀ i, i < 3 → bit (lset 0 m m') i = true → bit m i = true ∨ bit m' i = true := by decide
theorem bin1 : ∀ m, m < 8 → ∀ m', m' < 8 → ∀ i, i < 3 → bit (lset 1 m m') i = true → bit m i = true ∨ bit m' i = true := by decide
section PmM14
variable {d : Nat} {Q : Option Value → pm_S → Prop} {M N : pm_M} {Rf : Nat → Nat → Nat} {K L : Nat → Nat} {n s : Nat}
set_option maxRecDepth 20000 in
set_option maxHeartbeats 1000000 in
theorem part_rec0 {u x g G a p b q c : Int} {Γ : List Ty} {m m' : Nat} {X0 X1 X2 Y0 Y1 Y2 : Ty}  (hG : pm_G Rf K L n) (hM : ∀ p i, R32 (N p i)) (hu : N 56 22 = u) (hx : N 56 24 = x) (hg : N 56 36 = G) (g0 : 0 ≤ g) (g1 : g < G) (g2 : G + 3 ≤ 600) (u1 : u < 1100) (x0 : 0 ≤ x) (x1 : x < 900) (hD : Γ.length < 2000) (t : TH N u x a p b q c (Γ.length : Int) (Γ, tRec m X0 X1 X2, tRec m' Y0 Y1 Y2)) (e0 : N 81 (7 * g) = 0) (e1 : N 81 (7 * g + 1) = a) (e2 : N 81 (7 * g + 2) = p) (e3 : N 81 (7 * g + 3) = b) (e4 : N 81 (7 * g + 4) = q) (e5 : N 81 (7 * g + 5) = c) (e6 : N 81 (7 * g + 6) = (Γ.length : Int)) (hm : m < 8) (hm' : m' < 8) (h : Q none (zM (aimL (mset (mset N 83 g G) 82 g ((8 + lset 0 m m' : Nat) : Int)) G ((fgl 0 a b c (Γ.length : Int) (lset 0 m m') m m' 0 (p + 1 + fpos X0 X1 0) (q + 1 + fpos Y0 Y1 0)) ++ ((fgl 0 a b c (Γ.length : Int) (lset 0 m m') m m' 1 (p + 1 + fpos X0 X1 1) (q + 1 + fpos Y0 Y1 1)) ++ (fgl 0 a b c (Γ.length : Int) (lset 0 m m') m m' 2 (p + 1 + fpos X0 X1 2) (q + 1 + fpos Y0 Y1 2))))), Rf, K, L, n, s)) : pm_Wp none (d + 7) 166 184 [some (.ref 56), some (.int (zI g)), some (.int (zI (7 * g))), some (.int (zI 0)), some (.int (zI a)), some (.int (zI p)), some (.int (zI b)), some (.int (zI q)), some (.int (zI c)), some (.int (zI ((Γ.length : Int)))), some (.int (zI 0)), none, none, none] [] (zM N, Rf, K, L, n, s) Q := by
  have t1 := t.a0; have t2 := t.a1; have t3 := t.p0; have t4 := t.p1; have t5 := t.b0; have t6 := t.b1; have t7 := t.q0; have t8 := t.q1
  simp only at t4 t8
  have r1 := t.ra
  have r2 := t.rb
  simp only at r1 r2
  have c1 : N 73 (17 * a + p) = ((8 + m : Nat) : Int) := r1.1
  have c2 : N 73 (17 * b + q) = ((8 + m' : Nat) : Int) := r2.1
  have z1 : 1 ≤ (flat (tRec m X0 X1 X2)).length := by rw [flat_rec, List.length_cons]; omega
  have z2 : 1 ≤ (flat (tRec m' Y0 Y1 Y2)).length := by rw [flat_rec, List.length_cons]; omega
  obtain ⟨a8, a9⟩ := and8 m hm m' hm'
  have hM1 : ∀ p i, R32 (mset N 83 g G p i) := mset_R32 hM ⟨by omega, by omega⟩
  have t' : TH (mset N 83 g G) u x a p b q c (Γ.length : Int) (Γ, tRec m X0 X1 X2, tRec m' Y0 Y1 Y2) := t.same (fun r i h => mset_p _ _ _ _ (by omega))
  refine wp_aload_n d166_184 rfl ?_
  refine wp_iload d166_185 rfl ?_
  refine wp_iload d166_187 rfl ?_
  refine wp_virt (as := [.int (zI (p)), .int (zI (a))]) (rest := []) d166_189 rfl rfl rfl (hG.o (by decide) rfl) rfl rfl (Nat.le_of_ble_eq_true rfl) ?_
  refine m_cell hG (by omega) (by omega) ?_
  rw [c1]
  refine wp_istore d166_192 (Nat.le_of_ble_eq_true rfl) rfl ?_
  refine wp_aload_n d166_194 rfl ?_
  refine wp_iload d166_195 rfl ?_
  refine wp_iload d166_197 rfl ?_
  refine wp_virt (as := [.int (zI (q)), .int (zI (b))]) (rest := []) d166_199 rfl rfl rfl (hG.o (by decide) rfl) rfl rfl (Nat.le_of_ble_eq_true rfl) ?_
  refine m_cell hG (by omega) (by omega) ?_
  rw [c2]
  refine wp_istore d166_202 (Nat.le_of_ble_eq_true rfl) rfl ?_
  refine wp_iload d166_204 rfl ?_
  refine wz_bipush d166_206 (by decide) ?_
  refine wz_icmp_ge (t := 218) d166_208 (by decide) (⟨by omega, by omega⟩) (⟨by omega, by omega⟩) (fun hb => absurd hb (by omega)) (fun _ => ?_)
  refine wp_iload d166_211 rfl ?_
  refine wz_bipush d166_213 (by decide) ?_
  refine wz_icmp_lt (t := 341) d166_215 (by decide) (⟨by omega, by omega⟩) (⟨by omega, by omega⟩) (fun _ => ?_) (fun hb => absurd (by omega) hb)
  refine wp_aload_n d166_341 rfl ?_
  refine wp_getR (q := 83) d166_342 rfl (hG.o (by decide) rfl) (by decide) (hG.r (by decide +kernel)) (by decide) ?_
  refine wp_iload_n d166_345 rfl ?_
  refine wp_aload_n d166_346 rfl ?_
  refine wz_getI (v := G) d166_347 rfl (hG.o (by decide) rfl) (by decide) hg ?_
  refine wz_iast (z := 600) d166_350 (hG.a (by decide) rfl rfl) (by omega) (by omega) (by decide) ?_
  refine wp_iload d166_351 rfl ?_
  refine wz_bipush d166_353 (by decide) ?_
  refine wz_icmp_lt (t := 390) d166_355 (by decide) (⟨by omega, by omega⟩) (⟨by omega, by omega⟩) (fun hb => absurd hb (by omega)) (fun _ => ?_)
  refine wp_iload d166_358 rfl ?_
  refine wz_bipush d166_360 (by decide) ?_
  refine wz_icmp_lt (t := 390) d166_362 (by decide) (⟨by omega, by omega⟩) (⟨by omega, by omega⟩) (fun hb => absurd hb (by omega)) (fun _ => ?_)
  refine wp_aload_n d166_365 rfl ?_
  refine wp_iload_n d166_366 rfl ?_
  refine wp_iload_n d166_367 rfl ?_
  refine wz_if_ne (t := 379) d166_368 (by decide) (⟨by omega, by omega⟩) (fun hb => absurd (by decide) hb) (fun _ => ?_)
  refine wp_iload d166_371 rfl ?_
  refine wp_iload d166_373 rfl ?_
  refine wz_iand d166_375 (by omega) (by omega) ?_
  refine wp_goto (t := 384) d166_376 (by decide) ?_
  refine wp_virt (as := [.int (zI (((((8 + m : Nat) : Int)).toNat &&& (((8 + m' : Nat) : Int)).toNat : Nat))), .int (zI (g))]) (rest := []) d166_384 rfl rfl rfl (hG.o (by decide) rfl) rfl rfl (Nat.le_of_ble_eq_true rfl) ?_
  rw [show (((((8 + m : Nat) : Int)).toNat &&& (((8 + m' : Nat) : Int)).toNat : Nat) : Int) = ((8 + lset 0 m m' : Nat) : Int) by rw [← a8]; rfl]; refine m_fields (W := 0) (G := G) hG hM1 (by rw [mset_p _ _ _ _ (by decide)]; exact hg) g0 g1 g2 u1 x0 x1 hD (by decide) (by decide) (by rw [mset_p _ _ _ _ (by decide)]; exact e0) (by rw [mset_p _ _ _ _ (by decide)]; exact e1) (by rw [mset_p _ _ _ _ (by decide)]; exact e2) (by rw [mset_p _ _ _ _ (by decide)]; exact e3) (by rw [mset_p _ _ _ _ (by decide)]; exact e4) (by rw [mset_p _ _ _ _ (by decide)]; exact e5) (by rw [mset_p _ _ _ _ (by decide)]; exact e6) hm hm' a9 (bin0 m hm m' hm') t' ?_
  refine wp_goto (t := 588) d166_387 (by decide) ?_
  exact wp_ret d166_588 rfl h
set_option maxRecDepth 20000 in
set_option maxHeartbeats 1000000 in
theorem part_rec1 {u x g G a p b q c : Int} {Γ : List Ty} {m m' : Nat} {X0 X1 X2 Y0 Y1 Y2 : Ty}  (hG : pm_G Rf K L n) (hM : ∀ p i, R32 (N p i)) (hu : N 56 22 = u) (hx : N 56 24 = x) (hg : N 56 36 = G) (g0 : 0 ≤ g) (g1 : g < G) (g2 : G + 3 ≤ 600) (u1 : u < 1100) (x0 : 0 ≤ x) (x1 : x < 900) (hD : Γ.length < 2000) (t : TH N u x a p b q c (Γ.length : Int) (Γ, tRec m X0 X1 X2, tRec m' Y0 Y1 Y2)) (e0 : N 81 (7 * g) = 1) (e1 : N 81 (7 * g + 1) = a) (e2 : N 81 (7 * g + 2) = p) (e3 : N 81 (7 * g + 3) = b) (e4 : N 81 (7 * g + 4) = q) (e5 : N 81 (7 * g + 5) = c) (e6 : N 81 (7 * g + 6) = (Γ.length : Int)) (hm : m < 8) (hm' : m' < 8) (h : Q none (zM (aimL (mset (mset N 83 g G) 82 g ((8 + lset 1 m m' : Nat) : Int)) G ((fgl 1 a b c (Γ.length : Int) (lset 1 m m') m m' 0 (p + 1 + fpos X0 X1 0) (q + 1 + fpos Y0 Y1 0)) ++ ((fgl 1 a b c (Γ.length : Int) (lset 1 m m') m m' 1 (p + 1 + fpos X0 X1 1) (q + 1 + fpos Y0 Y1 1)) ++ (fgl 1 a b c (Γ.length : Int) (lset 1 m m') m m' 2 (p + 1 + fpos X0 X1 2) (q + 1 + fpos Y0 Y1 2))))), Rf, K, L, n, s)) : pm_Wp none (d + 7) 166 184 [some (.ref 56), some (.int (zI g)), some (.int (zI (7 * g))), some (.int (zI 1)), some (.int (zI a)), some (.int (zI p)), some (.int (zI b)), some (.int (zI q)), some (.int (zI c)), some (.int (zI ((Γ.length : Int)))), some (.int (zI 0)), none, none, none] [] (zM N, Rf, K, L, n, s) Q := by
  have t1 := t.a0; have t2 := t.a1; have t3 := t.p0; have t4 := t.p1; have t5 := t.b0; have t6 := t.b1; have t7 := t.q0; have t8 := t.q1
  simp only at t4 t8
  have r1 := t.ra
  have r2 := t.rb
  simp only at r1 r2
  have c1 : N 73 (17 * a + p) = ((8 + m : Nat) : Int) := r1.1
  have c2 : N 73 (17 * b + q) = ((8 + m' : Nat) : Int) := r2.1
  have z1 : 1 ≤ (flat (tRec m X0 X1 X2)).length := by rw [flat_rec, List.length_cons]; omega
  have z2 : 1 ≤ (flat (tRec m' Y0 Y1 Y2)).length := by rw [flat_rec, List.length_cons]; omega
  obtain ⟨a8, a9⟩ := or8 m hm m' hm'
  have hM1 : ∀ p i, R32 (mset N 83 g G p i) := mset_R32 hM ⟨by omega, by omega⟩
  have t' : TH (mset N 83 g G) u x a p b q c (Γ.length : Int) (Γ, tRec m X0 X1 X2, tRec m' Y0 Y1 Y2) := t.same (fun r i h => mset_p _ _ _ _ (by omega))
  refine wp_aload_n d166_184 rfl ?_
  refine wp_iload d166_185 rfl ?_
  refine wp_iload d166_187 rfl ?_
  refine wp_virt (as := [.int (zI (p)), .int (zI (a))]) (rest := []) d166_189 rfl rfl rfl (hG.o (by decide) rfl) rfl rfl (Nat.le_of_ble_eq_true rfl) ?_
  refine m_cell hG (by omega) (by omega) ?_
  rw [c1]
  refine wp_istore d166_192 (Nat.le_of_ble_eq_true rfl) rfl ?_
  refine wp_aload_n d166_194 rfl ?_
  refine wp_iload d166_195 rfl ?_
  refine wp_iload d166_197 rfl ?_
  refine wp_virt (as := [.int (zI (q)), .int (zI (b))]) (rest := []) d166_199 rfl rfl rfl (hG.o (by decide) rfl) rfl rfl (Nat.le_of_ble_eq_true rfl) ?_
  refine m_cell hG (by omega) (by omega) ?_
  rw [c2]
  refine wp_istore d166_202 (Nat.le_of_ble_eq_true rfl) rfl ?_
  refine wp_iload d166_204 rfl ?_
  refine wz_bipush d166_206 (by decide) ?_
  refine wz_icmp_ge (t := 218) d166_208 (by decide) (⟨by omega, by omega⟩) (⟨by omega, by omega⟩) (fun hb => absurd hb (by omega)) (fun _ => ?_)
  refine wp_iload d166_211 rfl ?_
  refine wz_bipush d166_213 (by decide) ?_
  refine wz_icmp_lt (t := 341) d166_215 (by decide) (⟨by omega, by omega⟩) (⟨by omega, by omega⟩) (fun _ => ?_) (fun hb => absurd (by omega) hb)
  refine wp_aload_n d166_341 rfl ?_
  refine wp_getR (q := 83) d166_342 rfl (hG.o (by decide) rfl) (by decide) (hG.r (by decide +kernel)) (by decide) ?_
  refine wp_iload_n d166_345 rfl ?_
  refine wp_aload_n d166_346 rfl ?_
  refine wz_getI (v := G) d166_347 rfl (hG.o (by decide) rfl) (by decide) hg ?_
  refine wz_iast (z := 600) d166_350 (hG.a (by decide) rfl rfl) (by omega) (by omega) (by decide) ?_
  refine wp_iload d166_351 rfl ?_
  refine wz_bipush d166_353 (by decide) ?_
  refine wz_icmp_lt (t := 390) d166_355 (by decide) (⟨by omega, by omega⟩) (⟨by omega, by omega⟩) (fun hb => absurd hb (by omega)) (fun _ => ?_)
  refine wp_iload d166_358 rfl ?_
  refine wz_bipush d166_360 (by decide) ?_
  refine wz_icmp_lt (t := 390) d166_362 (by decide) (⟨by omega, by omega⟩) (⟨by omega, by omega⟩) (fun hb => absurd hb (by omega)) (fun _ => ?_)
  refine wp_aload_n d166_365 rfl ?_
  refine wp_iload_n d166_366 rfl ?_
  refine wp_iload_n d166_367 rfl ?_
  refine wz_if_ne (t := 379) d166_368 (by decide) (⟨by omega, by omega⟩) (fun _ => ?_) (fun hb => absurd hb (by decide))
  refine wp_iload d166_379 rfl ?_
  refine wp_iload d166_381 rfl ?_
  refine wz_ior d166_383 (by omega) (by omega) ?_
  refine wp_virt (as := [.int (zI (((((8 + m : Nat) : Int)).toNat ||| (((8 + m' : Nat) : Int)).toNat : Nat))), .int (zI (g))]) (rest := []) d166_384 rfl rfl rfl (hG.o (by decide) rfl) rfl rfl (Nat.le_of_ble_eq_true rfl) ?_
  rw [show (((((8 + m : Nat) : Int)).toNat ||| (((8 + m' : Nat) : Int)).toNat : Nat) : Int) = ((8 + lset 1 m m' : Nat) : Int) by rw [← a8]; rfl]; refine m_fields (W := 1) (G := G) hG hM1 (by rw [mset_p _ _ _ _ (by decide)]; exact hg) g0 g1 g2 u1 x0 x1 hD (by decide) (by decide) (by rw [mset_p _ _ _ _ (by decide)]; exact e0) (by rw [mset_p _ _ _ _ (by decide)]; exact e1) (by rw [mset_p _ _ _ _ (by decide)]; exact e2) (by rw [mset_p _ _ _ _ (by decide)]; exact e3) (by rw [mset_p _ _ _ _ (by decide)]; exact e4) (by rw [mset_p _ _ _ _ (by decide)]; exact e5) (by rw [mset_p _ _ _ _ (by decide)]; exact e6) hm hm' a9 (bin1 m hm m' hm') t' ?_
  refine wp_goto (t := 588) d166_387 (by decide) ?_
  exact wp_ret d166_588 rfl h
end PmM14
