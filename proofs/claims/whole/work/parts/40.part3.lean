/-! THE MODEL: part, functions and schemes. -/
def aimM (N : pm_M) (G w a p b q c D : Int) : pm_M := mset (mset (mset (mset (mset (mset (mset (mset (mset (mset N 81 (7 * G) w) 81 ((7 * G) + 1) a) 81 ((7 * G) + 2) p) 81 ((7 * G) + 3) b) 81 ((7 * G) + 4) q) 81 ((7 * G) + 5) c) 81 ((7 * G) + 6) D) 82 G (-1)) 84 G 0) 56 36 (G + 1)
theorem aimM_o (N : pm_M) (G w a p b q c D : Int) {r : Nat} {i : Int} (h1 : r ≠ 81) (h2 : r ≠ 82) (h3 : r ≠ 84) (h4 : r = 56 → i ≠ 36) : aimM N G w a p b q c D r i = N r i := by
  unfold aimM
  have h5 : ¬ (r = 56 ∧ i = 36) := fun e => h4 e.1 e.2
  rw [mset, if_neg h5, mset_p _ _ _ _ h3, mset_p _ _ _ _ h2, mset_p _ _ _ _ h1, mset_p _ _ _ _ h1, mset_p _ _ _ _ h1, mset_p _ _ _ _ h1, mset_p _ _ _ _ h1, mset_p _ _ _ _ h1, mset_p _ _ _ _ h1]
theorem aimM_g (N : pm_M) (G w a p b q c D : Int) : aimM N G w a p b q c D 56 36 = G + 1 := by unfold aimM; rw [mset_s]
theorem aimM_R32 {N : pm_M} {G w a p b q c D : Int} (h : ∀ p i, R32 (N p i)) (r0 : R32 w) (r1 : R32 a) (r2 : R32 p) (r3 : R32 b) (r4 : R32 q) (r5 : R32 c) (r6 : R32 D) (rG : R32 (G + 1)) : ∀ r i, R32 (aimM N G w a p b q c D r i) :=
  mset_R32 (mset_R32 (mset_R32 (mset_R32 (mset_R32 (mset_R32 (mset_R32 (mset_R32 (mset_R32 (mset_R32 h r0) r1) r2) r3) r4) r5) r6) ⟨by decide, by decide⟩) ⟨by decide, by decide⟩) rG
section PmM11
variable {d : Nat} {Q : Option Value → pm_S → Prop} {M N : pm_M} {Rf : Nat → Nat → Nat} {K L : Nat → Nat} {n s : Nat}
theorem m_aimM {G w a p b q c D : Int} (hG : pm_G Rf K L n) (hg : N 56 36 = G) (x0 : 0 ≤ G) (x1 : G < 600) (h : Q (some (.int (zI G))) (zM (aimM N G w a p b q c D), Rf, K, L, n, s)) : pm_Wc (d + 1) 163 [.ref 56, .int (zI w), .int (zI a), .int (zI p), .int (zI b), .int (zI q), .int (zI c), .int (zI D)] (zM N, Rf, K, L, n, s) Q := by
  refine m_aim hG hg x0 x1 ?_
  rw [show G + 1 - 1 = G by omega]
  exact h
set_option maxRecDepth 20000 in
set_option maxHeartbeats 1000000 in
theorem part_fun0 {u x g G a p b q c : Int} {Γ : List Ty} {A C A' C' : Ty}  (hG : pm_G Rf K L n) (hM : ∀ p i, R32 (N p i)) (hu : N 56 22 = u) (hx : N 56 24 = x) (hg : N 56 36 = G) (g0 : 0 ≤ g) (g1 : g < G) (g2 : G + 3 ≤ 600) (u1 : u < 1100) (x0 : 0 ≤ x) (x1 : x < 900) (hD : Γ.length < 2000) (t : TH N u x a p b q c (Γ.length : Int) (Γ, tFun A C, tFun A' C'))  (h : Q none (zM (aimM (aimM (mset (mset N 83 g G) 82 g 1) G 1 a (p + 1) b (q + 1) c (Γ.length : Int)) (G + 1) 0 a (p + 1 + (flat A).length) b (q + 1 + (flat A').length) c (Γ.length : Int)), Rf, K, L, n, s)) : pm_Wp none (d + 7) 166 184 [some (.ref 56), some (.int (zI g)), some (.int (zI (7 * g))), some (.int (zI 0)), some (.int (zI a)), some (.int (zI p)), some (.int (zI b)), some (.int (zI q)), some (.int (zI c)), some (.int (zI ((Γ.length : Int)))), some (.int (zI 0)), none, none, none] [] (zM N, Rf, K, L, n, s) Q := by
  have t1 := t.a0; have t2 := t.a1; have t3 := t.p0; have t4 := t.p1; have t5 := t.b0; have t6 := t.b1; have t7 := t.q0; have t8 := t.q1
  simp only at t4 t8
  obtain ⟨hc0, hS0, hT0⟩ := t.ok
  have hc : okc Γ := hc0
  have hS := ok_fun.mp hS0
  have hT := ok_fun.mp hT0
  clear hc0 hS0 hT0
  have hcr := t.hc.rng x0 (by omega)
  have r1 := t.ra
  have r2 := t.rb
  simp only at r1 r2
  rw [flat_fun] at r1 r2 t4 t8
  rw [List.length_cons, List.length_append] at t4 t8
  obtain ⟨c1, r1⟩ := r1
  obtain ⟨c2, r2⟩ := r2
  have r1a := (Row.app.mp r1).1
  have r2a := (Row.app.mp r2).1
  refine wp_aload_n d166_184 rfl ?_
  refine wp_iload d166_185 rfl ?_
  refine wp_iload d166_187 rfl ?_
  refine wp_virt (as := [.int (zI (p)), .int (zI (a))]) (rest := []) d166_189 rfl rfl rfl (hG.o (by decide) rfl) rfl rfl (Nat.le_of_ble_eq_true rfl) ?_
  refine m_cell hG (by omega) (by omega) ?_
  rw [c1]
  refine wp_istore d166_192 (Nat.le_of_ble_eq_true rfl) rfl ?_
  refine wp_aload_n d166_194 rfl ?_
  refine wp_iload d166_195 rfl ?_
  refine wp_iload d166_197 rfl ?_
  refine wp_virt (as := [.int (zI (q)), .int (zI (b))]) (rest := []) d166_199 rfl rfl rfl (hG.o (by decide) rfl) rfl rfl (Nat.le_of_ble_eq_true rfl) ?_
  refine m_cell hG (by omega) (by omega) ?_
  rw [c2]
  refine wp_istore d166_202 (Nat.le_of_ble_eq_true rfl) rfl ?_
  refine wp_iload d166_204 rfl ?_
  refine wz_bipush d166_206 (by decide) ?_
  refine wz_icmp_ge (t := 218) d166_208 (by decide) (⟨by omega, by omega⟩) (⟨by omega, by omega⟩) (fun hb => absurd hb (by decide)) (fun _ => ?_)
  refine wp_iload d166_211 rfl ?_
  refine wz_bipush d166_213 (by decide) ?_
  refine wz_icmp_lt (t := 341) d166_215 (by decide) (⟨by omega, by omega⟩) (⟨by omega, by omega⟩) (fun _ => ?_) (fun hb => absurd (by decide) hb)
  refine wp_aload_n d166_341 rfl ?_
  refine wp_getR (q := 83) d166_342 rfl (hG.o (by decide) rfl) (by decide) (hG.r (by decide +kernel)) (by decide) ?_
  refine wp_iload_n d166_345 rfl ?_
  refine wp_aload_n d166_346 rfl ?_
  refine wz_getI (v := G) d166_347 rfl (hG.o (by decide) rfl) (by decide) hg ?_
  refine wz_iast (z := 600) d166_350 (hG.a (by decide) rfl rfl) (by omega) (by omega) (by decide) ?_
  refine wp_iload d166_351 rfl ?_
  refine wz_bipush d166_353 (by decide) ?_
  refine wz_icmp_lt (t := 390) d166_355 (by decide) (⟨by omega, by omega⟩) (⟨by omega, by omega⟩) (fun _ => ?_) (fun hb => absurd (by decide) hb)
  refine wp_iload d166_390 rfl ?_
  refine wz_iconst d166_392 ?_
  refine wz_icmp_ne (t := 470) d166_393 (by decide) (⟨by omega, by omega⟩) (⟨by omega, by omega⟩) (fun hb => absurd (by decide) hb) (fun _ => ?_)
  refine wp_iload d166_396 rfl ?_
  refine wz_iconst d166_398 ?_
  refine wz_icmp_ne (t := 470) d166_399 (by decide) (⟨by omega, by omega⟩) (⟨by omega, by omega⟩) (fun hb => absurd (by decide) hb) (fun _ => ?_)
  refine wp_aload_n d166_402 rfl ?_
  refine wp_getR (q := 82) d166_403 rfl (hG.o (by decide) rfl) (by decide) (hG.r (by decide +kernel)) (by decide) ?_
  refine wp_iload_n d166_406 rfl ?_
  refine wz_iconst d166_407 ?_
  refine wz_iast (z := 600) d166_408 (hG.a (by decide) rfl rfl) (by omega) (by omega) (by decide) ?_
  refine wp_aload_n d166_409 rfl ?_
  refine wz_iconst d166_410 ?_
  refine wp_iload_n d166_411 rfl ?_
  refine wz_isub d166_412 ?_
  refine wp_iload d166_413 rfl ?_
  refine wp_iload d166_415 rfl ?_
  refine wz_iconst d166_417 ?_
  refine wz_iadd d166_418 ?_
  refine wp_iload d166_419 rfl ?_
  refine wp_iload d166_421 rfl ?_
  refine wz_iconst d166_423 ?_
  refine wz_iadd d166_424 ?_
  refine wp_iload d166_425 rfl ?_
  refine wp_iload d166_427 rfl ?_
  refine wp_virt (as := [.int (zI ((Γ.length : Int))), .int (zI (c)), .int (zI (q + 1)), .int (zI (b)), .int (zI (p + 1)), .int (zI (a)), .int (zI (1))]) (rest := []) d166_429 rfl rfl rfl (hG.o (by decide) rfl) rfl rfl (Nat.le_of_ble_eq_true rfl) ?_
  refine m_aimM hG (by simp [mset]; exact hg) (by omega) (by omega) ?_
  have q1 : ∀ r i, R32 ((aimM (mset (mset N 83 g G) 82 g 1) G 1 a (p + 1) b (q + 1) c (Γ.length : Int)) r i) := aimM_R32 (mset_R32 (mset_R32 hM ⟨by omega, by omega⟩) ⟨by omega, by omega⟩) ⟨by omega, by omega⟩ ⟨by omega, by omega⟩ ⟨by omega, by omega⟩ ⟨by omega, by omega⟩ ⟨by omega, by omega⟩ ⟨by omega, by omega⟩ ⟨by omega, by omega⟩ ⟨by omega, by omega⟩
  have q2 : ∀ i, (aimM (mset (mset N 83 g G) 82 g 1) G 1 a (p + 1) b (q + 1) c (Γ.length : Int)) 73 i = N 73 i := fun i => by rw [aimM_o _ _ _ _ _ _ _ _ _ (by decide) (by decide) (by decide) (fun e => by cases e), mset_p _ _ _ _ (by decide), mset_p _ _ _ _ (by decide)]
  have q3 : (aimM (mset (mset N 83 g G) 82 g 1) G 1 a (p + 1) b (q + 1) c (Γ.length : Int)) 56 36 = G + 1 := aimM_g _ _ _ _ _ _ _ _ _
  refine wp_popi d166_432 ?_
  refine wp_aload_n d166_433 rfl ?_
  refine wp_iload_n d166_434 rfl ?_
  refine wp_iload d166_435 rfl ?_
  refine wp_aload_n d166_437 rfl ?_
  refine wp_iload d166_438 rfl ?_
  refine wp_iload d166_440 rfl ?_
  refine wz_iconst d166_442 ?_
  refine wz_iadd d166_443 ?_
  refine wp_virt (as := [.int (zI (p + 1)), .int (zI (a))]) (rest := [.int (zI (a)), .int (zI (0)), .ref 56]) d166_444 rfl rfl rfl (hG.o (by decide) rfl) rfl rfl (Nat.le_of_ble_eq_true rfl) ?_
  refine m_end (l := flat A) hG q1 t1 (by omega) (by omega) (by omega) (Row.same (fun i _ _ => q2 _) r1a) (ok_pre A _ hS.1) ?_
  refine wp_iload d166_447 rfl ?_
  refine wp_aload_n d166_449 rfl ?_
  refine wp_iload d166_450 rfl ?_
  refine wp_iload d166_452 rfl ?_
  refine wz_iconst d166_454 ?_
  refine wz_iadd d166_455 ?_
  refine wp_virt (as := [.int (zI (q + 1)), .int (zI (b))]) (rest := [.int (zI (b)), .int (zI (p + 1 + (flat A).length)), .int (zI (a)), .int (zI (0)), .ref 56]) d166_456 rfl rfl rfl (hG.o (by decide) rfl) rfl rfl (Nat.le_of_ble_eq_true rfl) ?_
  refine m_end (l := flat A') hG q1 t5 (by omega) (by omega) (by omega) (Row.same (fun i _ _ => q2 _) r2a) (ok_pre A' _ hT.1) ?_
  refine wp_iload d166_459 rfl ?_
  refine wp_iload d166_461 rfl ?_
  refine wp_virt (as := [.int (zI ((Γ.length : Int))), .int (zI (c)), .int (zI (q + 1 + (flat A').length)), .int (zI (b)), .int (zI (p + 1 + (flat A).length)), .int (zI (a)), .int (zI (0))]) (rest := []) d166_463 rfl rfl rfl (hG.o (by decide) rfl) rfl rfl (Nat.le_of_ble_eq_true rfl) ?_
  refine m_aimM hG q3 (by omega) (by omega) ?_
  refine wp_popi d166_466 ?_
  refine wp_goto (t := 588) d166_467 (by decide) ?_
  exact wp_ret d166_588 rfl h
set_option maxRecDepth 20000 in
set_option maxHeartbeats 1000000 in
theorem part_all0 {u x g G a p b q c : Int} {Γ : List Ty} {A C A' C' : Ty}  (hG : pm_G Rf K L n) (hM : ∀ p i, R32 (N p i)) (hu : N 56 22 = u) (hx : N 56 24 = x) (hg : N 56 36 = G) (g0 : 0 ≤ g) (g1 : g < G) (g2 : G + 3 ≤ 600) (u1 : u < 1100) (x0 : 0 ≤ x) (x1 : x < 900) (hD : Γ.length < 2000) (t : TH N u x a p b q c (Γ.length : Int) (Γ, tAll A C, tAll A' C'))  (h : flat A = flat A' → Q none (zM (aimM (mset (mset (mset (mset (mput (mset (mset (mset N 83 g G) 82 g 2) 56 22 (u + 1)) 73 (17 * u) (flat A)) 74 x c) 75 x (Γ.length : Int)) 76 x u) 56 24 (x + 1)) G 0 a (p + 1 + (flat A).length) b (q + 1 + (flat A').length) x ((Γ.length : Int) + 1)), Rf, K, L, n, s)) (h0 : ¬ flat A = flat A' → Q none (zM (mset (mset (mset (mset (mset (mset N 83 g G) 56 22 (u + 1)) 73 (17 * u) 0) 84 g 1) 85 g u) 86 g 0), Rf, K, L, n, s)) : pm_Wp none (d + 7) 166 184 [some (.ref 56), some (.int (zI g)), some (.int (zI (7 * g))), some (.int (zI 0)), some (.int (zI a)), some (.int (zI p)), some (.int (zI b)), some (.int (zI q)), some (.int (zI c)), some (.int (zI ((Γ.length : Int)))), some (.int (zI 0)), none, none, none] [] (zM N, Rf, K, L, n, s) Q := by
  have t1 := t.a0; have t2 := t.a1; have t3 := t.p0; have t4 := t.p1; have t5 := t.b0; have t6 := t.b1; have t7 := t.q0; have t8 := t.q1
  simp only at t4 t8
  obtain ⟨hc0, hS0, hT0⟩ := t.ok
  have hc : okc Γ := hc0
  have hS := ok_all.mp hS0
  have hT := ok_all.mp hT0
  clear hc0 hS0 hT0
  have hcr := t.hc.rng x0 (by omega)
  have r1 := t.ra
  have r2 := t.rb
  simp only at r1 r2
  rw [flat_all] at r1 r2 t4 t8
  rw [List.length_cons, List.length_append] at t4 t8
  obtain ⟨c1, r1⟩ := r1
  obtain ⟨c2, r2⟩ := r2
  have r1a := (Row.app.mp r1).1
  have r2a := (Row.app.mp r2).1
  have b1 : ∀ r i, R32 (mset N 83 g G r i) := mset_R32 hM ⟨by omega, by omega⟩
  have b2 : ∀ r i, R32 ((mset (mset N 83 g G) 82 g 2) r i) := mset_R32 b1 ⟨by decide, by decide⟩
  have b3 : ∀ r i, R32 (mset (mset (mset N 83 g G) 82 g 2) 56 22 (u + 1) r i) := mset_R32 b2 ⟨by omega, by omega⟩
  have b4 : ∀ r i, R32 ((mput (mset (mset (mset N 83 g G) 82 g 2) 56 22 (u + 1)) 73 (17 * u) (flat A)) r i) := mput_R32 b3 (flat_R32 hS.1 (by simp only; omega) (by omega))
  have rr : Row (mput (mset (mset (mset N 83 g G) 82 g 2) 56 22 (u + 1)) 73 (17 * u) (flat A)) a (p + 1) (flat A) := mput_other (b := 0) (l := flat A) (M := mset (mset (mset N 83 g G) 82 g 2) 56 22 (u + 1)) (by omega) (by omega) (by omega) (by omega) (by omega) (Row.same (fun i _ _ => by simp [mset]) r1a) |> (fun z => by rwa [Int.add_zero] at z)
  have rr' : Row (mput (mset (mset (mset N 83 g G) 82 g 2) 56 22 (u + 1)) 73 (17 * u) (flat A)) b (q + 1) (flat A') := mput_other (b := 0) (l := flat A) (M := mset (mset (mset N 83 g G) 82 g 2) 56 22 (u + 1)) (by omega) (by omega) (by omega) (by omega) (by omega) (Row.same (fun i _ _ => by simp [mset]) r2a) |> (fun z => by rwa [Int.add_zero] at z)
  refine wp_aload_n d166_184 rfl ?_
  refine wp_iload d166_185 rfl ?_
  refine wp_iload d166_187 rfl ?_
  refine wp_virt (as := [.int (zI (p)), .int (zI (a))]) (rest := []) d166_189 rfl rfl rfl (hG.o (by decide) rfl) rfl rfl (Nat.le_of_ble_eq_true rfl) ?_
  refine m_cell hG (by omega) (by omega) ?_
  rw [c1]
  refine wp_istore d166_192 (Nat.le_of_ble_eq_true rfl) rfl ?_
  refine wp_aload_n d166_194 rfl ?_
  refine wp_iload d166_195 rfl ?_
  refine wp_iload d166_197 rfl ?_
  refine wp_virt (as := [.int (zI (q)), .int (zI (b))]) (rest := []) d166_199 rfl rfl rfl (hG.o (by decide) rfl) rfl rfl (Nat.le_of_ble_eq_true rfl) ?_
  refine m_cell hG (by omega) (by omega) ?_
  rw [c2]
  refine wp_istore d166_202 (Nat.le_of_ble_eq_true rfl) rfl ?_
  refine wp_iload d166_204 rfl ?_
  refine wz_bipush d166_206 (by decide) ?_
  refine wz_icmp_ge (t := 218) d166_208 (by decide) (⟨by omega, by omega⟩) (⟨by omega, by omega⟩) (fun hb => absurd hb (by decide)) (fun _ => ?_)
  refine wp_iload d166_211 rfl ?_
  refine wz_bipush d166_213 (by decide) ?_
  refine wz_icmp_lt (t := 341) d166_215 (by decide) (⟨by omega, by omega⟩) (⟨by omega, by omega⟩) (fun _ => ?_) (fun hb => absurd (by decide) hb)
  refine wp_aload_n d166_341 rfl ?_
  refine wp_getR (q := 83) d166_342 rfl (hG.o (by decide) rfl) (by decide) (hG.r (by decide +kernel)) (by decide) ?_
  refine wp_iload_n d166_345 rfl ?_
  refine wp_aload_n d166_346 rfl ?_
  refine wz_getI (v := G) d166_347 rfl (hG.o (by decide) rfl) (by decide) hg ?_
  refine wz_iast (z := 600) d166_350 (hG.a (by decide) rfl rfl) (by omega) (by omega) (by decide) ?_
  refine wp_iload d166_351 rfl ?_
  refine wz_bipush d166_353 (by decide) ?_
  refine wz_icmp_lt (t := 390) d166_355 (by decide) (⟨by omega, by omega⟩) (⟨by omega, by omega⟩) (fun _ => ?_) (fun hb => absurd (by decide) hb)
  refine wp_iload d166_390 rfl ?_
  refine wz_iconst d166_392 ?_
  refine wz_icmp_ne (t := 470) d166_393 (by decide) (⟨by omega, by omega⟩) (⟨by omega, by omega⟩) (fun _ => ?_) (fun hb => absurd hb (by decide))
  refine wp_iload d166_470 rfl ?_
  refine wz_iconst d166_472 ?_
  refine wz_icmp_ne (t := 574) d166_473 (by decide) (⟨by omega, by omega⟩) (⟨by omega, by omega⟩) (fun hb => absurd (by decide) hb) (fun _ => ?_)
  refine wp_iload d166_476 rfl ?_
  refine wz_iconst d166_478 ?_
  refine wz_icmp_ne (t := 574) d166_479 (by decide) (⟨by omega, by omega⟩) (⟨by omega, by omega⟩) (fun hb => absurd (by decide) hb) (fun _ => ?_)
  refine wp_aload_n d166_482 rfl ?_
  refine wp_iload d166_483 rfl ?_
  refine wp_iload d166_485 rfl ?_
  refine wz_iconst d166_487 ?_
  refine wz_iadd d166_488 ?_
  refine wp_iload d166_489 rfl ?_
  refine wp_iload d166_491 rfl ?_
  refine wz_iconst d166_493 ?_
  refine wz_iadd d166_494 ?_
  refine wp_virt (as := [.int (zI (q + 1)), .int (zI (b)), .int (zI (p + 1)), .int (zI (a))]) (rest := []) d166_495 rfl rfl rfl (hG.o (by decide) rfl) rfl rfl (Nat.le_of_ble_eq_true rfl) ?_
  refine m_equal (l := flat A) (m := flat A') hG b1 t1 (by omega) (by omega) (by omega) t5 (by omega) (by omega) (by omega) (Row.same (fun i _ _ => by simp [mset]) r1a) (ok_pre A _ hS.1) (Row.same (fun i _ _ => by simp [mset]) r2a) (ok_pre A' _ hT.1) (fun hEq => ?_) (fun hNe => ?_)
  · skip
    refine wz_if_eq (t := 574) d166_498 (by decide) (⟨by omega, by omega⟩) (fun hb => absurd hb (by decide)) (fun _ => ?_)
    refine wp_aload_n d166_501 rfl ?_
    refine wp_getR (q := 82) d166_502 rfl (hG.o (by decide) rfl) (by decide) (hG.r (by decide +kernel)) (by decide) ?_
    refine wp_iload_n d166_505 rfl ?_
    refine wz_iconst d166_506 ?_
    refine wz_iast (z := 600) d166_507 (hG.a (by decide) rfl rfl) (by omega) (by omega) (by decide) ?_
    refine wp_aload_n d166_508 rfl ?_
    refine wp_virt (as := []) (rest := []) d166_509 rfl rfl rfl (hG.o (by decide) rfl) rfl rfl (Nat.le_of_ble_eq_true rfl) ?_
    refine m_fresh hG (u := u) (by simp [mset]; exact hu) ?_
    refine wp_istore d166_512 (Nat.le_of_ble_eq_true rfl) rfl ?_
    refine wp_aload_n d166_514 rfl ?_
    refine wp_iload d166_515 rfl ?_
    refine wp_iload d166_517 rfl ?_
    refine wz_iconst d166_519 ?_
    refine wz_iadd d166_520 ?_
    refine wp_iload d166_521 rfl ?_
    refine wz_iconst d166_523 ?_
    refine wp_virt (as := [.int (zI (0)), .int (zI (u)), .int (zI (p + 1)), .int (zI (a))]) (rest := []) d166_524 rfl rfl rfl (hG.o (by decide) rfl) rfl rfl (Nat.le_of_ble_eq_true rfl) ?_
    refine m_copy (l := flat A) hG b3 t1 (by omega) (by omega) (by omega) (by omega) (by omega) (by omega) (by omega) (by omega) (Row.same (fun i _ _ => by simp [mset]) r1a) (ok_pre A _ hS.1) ?_
    rw [Int.add_zero]
    refine wp_aload_n d166_527 rfl ?_
    refine wp_iload_n d166_528 rfl ?_
    refine wp_iload d166_529 rfl ?_
    refine wp_aload_n d166_531 rfl ?_
    refine wp_iload d166_532 rfl ?_
    refine wp_iload d166_534 rfl ?_
    refine wz_iconst d166_536 ?_
    refine wz_iadd d166_537 ?_
    refine wp_virt (as := [.int (zI (p + 1)), .int (zI (a))]) (rest := [.int (zI (a)), .int (zI (0)), .ref 56]) d166_538 rfl rfl rfl (hG.o (by decide) rfl) rfl rfl (Nat.le_of_ble_eq_true rfl) ?_
    refine m_end (l := flat A) hG b4 t1 (by omega) (by omega) (by omega) rr (ok_pre A _ hS.1) ?_
    refine wp_iload d166_541 rfl ?_
    refine wp_aload_n d166_543 rfl ?_
    refine wp_iload d166_544 rfl ?_
    refine wp_iload d166_546 rfl ?_
    refine wz_iconst d166_548 ?_
    refine wz_iadd d166_549 ?_
    refine wp_virt (as := [.int (zI (q + 1)), .int (zI (b))]) (rest := [.int (zI (b)), .int (zI (p + 1 + (flat A).length)), .int (zI (a)), .int (zI (0)), .ref 56]) d166_550 rfl rfl rfl (hG.o (by decide) rfl) rfl rfl (Nat.le_of_ble_eq_true rfl) ?_
    refine m_end (l := flat A') hG b4 t5 (by omega) (by omega) (by omega) rr' (ok_pre A' _ hT.1) ?_
    refine wp_aload_n d166_553 rfl ?_
    refine wp_iload d166_554 rfl ?_
    refine wp_iload d166_556 rfl ?_
    refine wp_iload d166_558 rfl ?_
    refine wp_virt (as := [.int (zI (u)), .int (zI ((Γ.length : Int))), .int (zI (c))]) (rest := [.int (zI (q + 1 + (flat A').length)), .int (zI (b)), .int (zI (p + 1 + (flat A).length)), .int (zI (a)), .int (zI (0)), .ref 56]) d166_560 rfl rfl rfl (hG.o (by decide) rfl) rfl rfl (Nat.le_of_ble_eq_true rfl) ?_
    refine m_context (cx := x) hG (by rw [mput_p _ _ _ _ (by decide)]; simp [mset]; exact hx) x0 x1 ?_
    rw [show x + 1 - 1 = x by omega]
    refine wp_iload d166_563 rfl ?_
    refine wz_iconst d166_565 ?_
    refine wz_iadd d166_566 ?_
    refine wp_virt (as := [.int (zI (((Γ.length : Int)) + 1)), .int (zI (x)), .int (zI (q + 1 + (flat A').length)), .int (zI (b)), .int (zI (p + 1 + (flat A).length)), .int (zI (a)), .int (zI (0))]) (rest := []) d166_567 rfl rfl rfl (hG.o (by decide) rfl) rfl rfl (Nat.le_of_ble_eq_true rfl) ?_
    refine m_aimM (G := G) hG (by rw [mset_i _ _ _ _ (by decide), mset_p _ _ _ _ (by decide), mset_p _ _ _ _ (by decide), mset_p _ _ _ _ (by decide), mput_p _ _ _ _ (by decide)]; simp [mset]; exact hg) (by omega) (by omega) ?_
    refine wp_popi d166_570 ?_
    refine wp_goto (t := 588) d166_571 (by decide) ?_
    exact wp_ret d166_588 rfl (h hEq)
  · skip
    refine wz_if_eq (t := 574) d166_498 (by decide) (⟨by omega, by omega⟩) (fun _ => ?_) (fun hb => absurd (by decide) hb)
    refine wp_iload_n d166_574 rfl ?_
    refine wz_if_ne (t := 588) d166_575 (by decide) (⟨by omega, by omega⟩) (fun hb => absurd (by decide) hb) (fun _ => ?_)
    refine wp_aload_n d166_578 rfl ?_
    refine wp_iload_n d166_579 rfl ?_
    refine wp_aload_n d166_580 rfl ?_
    refine wp_virt (as := []) (rest := [.int (zI (g)), .ref 56]) d166_581 rfl rfl rfl (hG.o (by decide) rfl) rfl rfl (Nat.le_of_ble_eq_true rfl) ?_
    refine m_top hG (u := u) (by simp [mset]; exact hu) (by omega) u1 ?_
    refine wz_iconst d166_584 ?_
    refine wp_virt (as := [.int (zI (0)), .int (zI (u)), .int (zI (g))]) (rest := []) d166_585 rfl rfl rfl (hG.o (by decide) rfl) rfl rfl (Nat.le_of_ble_eq_true rfl) ?_
    refine m_reach hG g0 (by omega) ?_
    exact wp_ret d166_588 rfl (h0 hNe)
set_option maxRecDepth 20000 in
set_option maxHeartbeats 1000000 in
theorem part_fun1 {u x g G a p b q c : Int} {Γ : List Ty} {A C A' C' : Ty}  (hG : pm_G Rf K L n) (hM : ∀ p i, R32 (N p i)) (hu : N 56 22 = u) (hx : N 56 24 = x) (hg : N 56 36 = G) (g0 : 0 ≤ g) (g1 : g < G) (g2 : G + 3 ≤ 600) (u1 : u < 1100) (x0 : 0 ≤ x) (x1 : x < 900) (hD : Γ.length < 2000) (t : TH N u x a p b q c (Γ.length : Int) (Γ, tFun A C, tFun A' C'))  (h : Q none (zM (aimM (aimM (mset (mset N 83 g G) 82 g 1) G 0 a (p + 1) b (q + 1) c (Γ.length : Int)) (G + 1) 1 a (p + 1 + (flat A).length) b (q + 1 + (flat A').length) c (Γ.length : Int)), Rf, K, L, n, s)) : pm_Wp none (d + 7) 166 184 [some (.ref 56), some (.int (zI g)), some (.int (zI (7 * g))), some (.int (zI 1)), some (.int (zI a)), some (.int (zI p)), some (.int (zI b)), some (.int (zI q)), some (.int (zI c)), some (.int (zI ((Γ.length : Int)))), some (.int (zI 0)), none, none, none] [] (zM N, Rf, K, L, n, s) Q := by
  have t1 := t.a0; have t2 := t.a1; have t3 := t.p0; have t4 := t.p1; have t5 := t.b0; have t6 := t.b1; have t7 := t.q0; have t8 := t.q1
  simp only at t4 t8
  obtain ⟨hc0, hS0, hT0⟩ := t.ok
  have hc : okc Γ := hc0
  have hS := ok_fun.mp hS0
  have hT := ok_fun.mp hT0
  clear hc0 hS0 hT0
  have hcr := t.hc.rng x0 (by omega)
  have r1 := t.ra
  have r2 := t.rb
  simp only at r1 r2
  rw [flat_fun] at r1 r2 t4 t8
  rw [List.length_cons, List.length_append] at t4 t8
  obtain ⟨c1, r1⟩ := r1
  obtain ⟨c2, r2⟩ := r2
  have r1a := (Row.app.mp r1).1
  have r2a := (Row.app.mp r2).1
  refine wp_aload_n d166_184 rfl ?_
  refine wp_iload d166_185 rfl ?_
  refine wp_iload d166_187 rfl ?_
  refine wp_virt (as := [.int (zI (p)), .int (zI (a))]) (rest := []) d166_189 rfl rfl rfl (hG.o (by decide) rfl) rfl rfl (Nat.le_of_ble_eq_true rfl) ?_
  refine m_cell hG (by omega) (by omega) ?_
  rw [c1]
  refine wp_istore d166_192 (Nat.le_of_ble_eq_true rfl) rfl ?_
  refine wp_aload_n d166_194 rfl ?_
  refine wp_iload d166_195 rfl ?_
  refine wp_iload d166_197 rfl ?_
  refine wp_virt (as := [.int (zI (q)), .int (zI (b))]) (rest := []) d166_199 rfl rfl rfl (hG.o (by decide) rfl) rfl rfl (Nat.le_of_ble_eq_true rfl) ?_
  refine m_cell hG (by omega) (by omega) ?_
  rw [c2]
  refine wp_istore d166_202 (Nat.le_of_ble_eq_true rfl) rfl ?_
  refine wp_iload d166_204 rfl ?_
  refine wz_bipush d166_206 (by decide) ?_
  refine wz_icmp_ge (t := 218) d166_208 (by decide) (⟨by omega, by omega⟩) (⟨by omega, by omega⟩) (fun hb => absurd hb (by decide)) (fun _ => ?_)
  refine wp_iload d166_211 rfl ?_
  refine wz_bipush d166_213 (by decide) ?_
  refine wz_icmp_lt (t := 341) d166_215 (by decide) (⟨by omega, by omega⟩) (⟨by omega, by omega⟩) (fun _ => ?_) (fun hb => absurd (by decide) hb)
  refine wp_aload_n d166_341 rfl ?_
  refine wp_getR (q := 83) d166_342 rfl (hG.o (by decide) rfl) (by decide) (hG.r (by decide +kernel)) (by decide) ?_
  refine wp_iload_n d166_345 rfl ?_
  refine wp_aload_n d166_346 rfl ?_
  refine wz_getI (v := G) d166_347 rfl (hG.o (by decide) rfl) (by decide) hg ?_
  refine wz_iast (z := 600) d166_350 (hG.a (by decide) rfl rfl) (by omega) (by omega) (by decide) ?_
  refine wp_iload d166_351 rfl ?_
  refine wz_bipush d166_353 (by decide) ?_
  refine wz_icmp_lt (t := 390) d166_355 (by decide) (⟨by omega, by omega⟩) (⟨by omega, by omega⟩) (fun _ => ?_) (fun hb => absurd (by decide) hb)
  refine wp_iload d166_390 rfl ?_
  refine wz_iconst d166_392 ?_
  refine wz_icmp_ne (t := 470) d166_393 (by decide) (⟨by omega, by omega⟩) (⟨by omega, by omega⟩) (fun hb => absurd (by decide) hb) (fun _ => ?_)
  refine wp_iload d166_396 rfl ?_
  refine wz_iconst d166_398 ?_
  refine wz_icmp_ne (t := 470) d166_399 (by decide) (⟨by omega, by omega⟩) (⟨by omega, by omega⟩) (fun hb => absurd (by decide) hb) (fun _ => ?_)
  refine wp_aload_n d166_402 rfl ?_
  refine wp_getR (q := 82) d166_403 rfl (hG.o (by decide) rfl) (by decide) (hG.r (by decide +kernel)) (by decide) ?_
  refine wp_iload_n d166_406 rfl ?_
  refine wz_iconst d166_407 ?_
  refine wz_iast (z := 600) d166_408 (hG.a (by decide) rfl rfl) (by omega) (by omega) (by decide) ?_
  refine wp_aload_n d166_409 rfl ?_
  refine wz_iconst d166_410 ?_
  refine wp_iload_n d166_411 rfl ?_
  refine wz_isub d166_412 ?_
  refine wp_iload d166_413 rfl ?_
  refine wp_iload d166_415 rfl ?_
  refine wz_iconst d166_417 ?_
  refine wz_iadd d166_418 ?_
  refine wp_iload d166_419 rfl ?_
  refine wp_iload d166_421 rfl ?_
  refine wz_iconst d166_423 ?_
  refine wz_iadd d166_424 ?_
  refine wp_iload d166_425 rfl ?_
  refine wp_iload d166_427 rfl ?_
  refine wp_virt (as := [.int (zI ((Γ.length : Int))), .int (zI (c)), .int (zI (q + 1)), .int (zI (b)), .int (zI (p + 1)), .int (zI (a)), .int (zI (0))]) (rest := []) d166_429 rfl rfl rfl (hG.o (by decide) rfl) rfl rfl (Nat.le_of_ble_eq_true rfl) ?_
  refine m_aimM hG (by simp [mset]; exact hg) (by omega) (by omega) ?_
  have q1 : ∀ r i, R32 ((aimM (mset (mset N 83 g G) 82 g 1) G 0 a (p + 1) b (q + 1) c (Γ.length : Int)) r i) := aimM_R32 (mset_R32 (mset_R32 hM ⟨by omega, by omega⟩) ⟨by omega, by omega⟩) ⟨by omega, by omega⟩ ⟨by omega, by omega⟩ ⟨by omega, by omega⟩ ⟨by omega, by omega⟩ ⟨by omega, by omega⟩ ⟨by omega, by omega⟩ ⟨by omega, by omega⟩ ⟨by omega, by omega⟩
  have q2 : ∀ i, (aimM (mset (mset N 83 g G) 82 g 1) G 0 a (p + 1) b (q + 1) c (Γ.length : Int)) 73 i = N 73 i := fun i => by rw [aimM_o _ _ _ _ _ _ _ _ _ (by decide) (by decide) (by decide) (fun e => by cases e), mset_p _ _ _ _ (by decide), mset_p _ _ _ _ (by decide)]
  have q3 : (aimM (mset (mset N 83 g G) 82 g 1) G 0 a (p + 1) b (q + 1) c (Γ.length : Int)) 56 36 = G + 1 := aimM_g _ _ _ _ _ _ _ _ _
  refine wp_popi d166_432 ?_
  refine wp_aload_n d166_433 rfl ?_
  refine wp_iload_n d166_434 rfl ?_
  refine wp_iload d166_435 rfl ?_
  refine wp_aload_n d166_437 rfl ?_
  refine wp_iload d166_438 rfl ?_
  refine wp_iload d166_440 rfl ?_
  refine wz_iconst d166_442 ?_
  refine wz_iadd d166_443 ?_
  refine wp_virt (as := [.int (zI (p + 1)), .int (zI (a))]) (rest := [.int (zI (a)), .int (zI (1)), .ref 56]) d166_444 rfl rfl rfl (hG.o (by decide) rfl) rfl rfl (Nat.le_of_ble_eq_true rfl) ?_
  refine m_end (l := flat A) hG q1 t1 (by omega) (by omega) (by omega) (Row.same (fun i _ _ => q2 _) r1a) (ok_pre A _ hS.1) ?_
  refine wp_iload d166_447 rfl ?_
  refine wp_aload_n d166_449 rfl ?_
  refine wp_iload d166_450 rfl ?_
  refine wp_iload d166_452 rfl ?_
  refine wz_iconst d166_454 ?_
  refine wz_iadd d166_455 ?_
  refine wp_virt (as := [.int (zI (q + 1)), .int (zI (b))]) (rest := [.int (zI (b)), .int (zI (p + 1 + (flat A).length)), .int (zI (a)), .int (zI (1)), .ref 56]) d166_456 rfl rfl rfl (hG.o (by decide) rfl) rfl rfl (Nat.le_of_ble_eq_true rfl) ?_
  refine m_end (l := flat A') hG q1 t5 (by omega) (by omega) (by omega) (Row.same (fun i _ _ => q2 _) r2a) (ok_pre A' _ hT.1) ?_
  refine wp_iload d166_459 rfl ?_
  refine wp_iload d166_461 rfl ?_
  refine wp_virt (as := [.int (zI ((Γ.length : Int))), .int (zI (c)), .int (zI (q + 1 + (flat A').length)), .int (zI (b)), .int (zI (p + 1 + (flat A).length)), .int (zI (a)), .int (zI (1))]) (rest := []) d166_463 rfl rfl rfl (hG.o (by decide) rfl) rfl rfl (Nat.le_of_ble_eq_true rfl) ?_
  refine m_aimM hG q3 (by omega) (by omega) ?_
  refine wp_popi d166_466 ?_
  refine wp_goto (t := 588) d166_467 (by decide) ?_
  exact wp_ret d166_588 rfl h
set_option maxRecDepth 20000 in
set_option maxHeartbeats 1000000 in
theorem part_all1 {u x g G a p b q c : Int} {Γ : List Ty} {A C A' C' : Ty}  (hG : pm_G Rf K L n) (hM : ∀ p i, R32 (N p i)) (hu : N 56 22 = u) (hx : N 56 24 = x) (hg : N 56 36 = G) (g0 : 0 ≤ g) (g1 : g < G) (g2 : G + 3 ≤ 600) (u1 : u < 1100) (x0 : 0 ≤ x) (x1 : x < 900) (hD : Γ.length < 2000) (t : TH N u x a p b q c (Γ.length : Int) (Γ, tAll A C, tAll A' C'))  (h : flat A = flat A' → Q none (zM (aimM (mset (mset (mset (mset (mput (mset (mset (mset N 83 g G) 82 g 2) 56 22 (u + 1)) 73 (17 * u) (flat A)) 74 x c) 75 x (Γ.length : Int)) 76 x u) 56 24 (x + 1)) G 1 a (p + 1 + (flat A).length) b (q + 1 + (flat A').length) x ((Γ.length : Int) + 1)), Rf, K, L, n, s)) (h0 : ¬ flat A = flat A' → Q none (zM (mset N 83 g G), Rf, K, L, n, s)) : pm_Wp none (d + 7) 166 184 [some (.ref 56), some (.int (zI g)), some (.int (zI (7 * g))), some (.int (zI 1)), some (.int (zI a)), some (.int (zI p)), some (.int (zI b)), some (.int (zI q)), some (.int (zI c)), some (.int (zI ((Γ.length : Int)))), some (.int (zI 0)), none, none, none] [] (zM N, Rf, K, L, n, s) Q := by
  have t1 := t.a0; have t2 := t.a1; have t3 := t.p0; have t4 := t.p1; have t5 := t.b0; have t6 := t.b1; have t7 := t.q0; have t8 := t.q1
  simp only at t4 t8
  obtain ⟨hc0, hS0, hT0⟩ := t.ok
  have hc : okc Γ := hc0
  have hS := ok_all.mp hS0
  have hT := ok_all.mp hT0
  clear hc0 hS0 hT0
  have hcr := t.hc.rng x0 (by omega)
  have r1 := t.ra
  have r2 := t.rb
  simp only at r1 r2
  rw [flat_all] at r1 r2 t4 t8
  rw [List.length_cons, List.length_append] at t4 t8
  obtain ⟨c1, r1⟩ := r1
  obtain ⟨c2, r2⟩ := r2
  have r1a := (Row.app.mp r1).1
  have r2a := (Row.app.mp r2).1
  have b1 : ∀ r i, R32 (mset N 83 g G r i) := mset_R32 hM ⟨by omega, by omega⟩
  have b2 : ∀ r i, R32 ((mset (mset N 83 g G) 82 g 2) r i) := mset_R32 b1 ⟨by decide, by decide⟩
  have b3 : ∀ r i, R32 (mset (mset (mset N 83 g G) 82 g 2) 56 22 (u + 1) r i) := mset_R32 b2 ⟨by omega, by omega⟩
  have b4 : ∀ r i, R32 ((mput (mset (mset (mset N 83 g G) 82 g 2) 56 22 (u + 1)) 73 (17 * u) (flat A)) r i) := mput_R32 b3 (flat_R32 hS.1 (by simp only; omega) (by omega))
  have rr : Row (mput (mset (mset (mset N 83 g G) 82 g 2) 56 22 (u + 1)) 73 (17 * u) (flat A)) a (p + 1) (flat A) := mput_other (b := 0) (l := flat A) (M := mset (mset (mset N 83 g G) 82 g 2) 56 22 (u + 1)) (by omega) (by omega) (by omega) (by omega) (by omega) (Row.same (fun i _ _ => by simp [mset]) r1a) |> (fun z => by rwa [Int.add_zero] at z)
  have rr' : Row (mput (mset (mset (mset N 83 g G) 82 g 2) 56 22 (u + 1)) 73 (17 * u) (flat A)) b (q + 1) (flat A') := mput_other (b := 0) (l := flat A) (M := mset (mset (mset N 83 g G) 82 g 2) 56 22 (u + 1)) (by omega) (by omega) (by omega) (by omega) (by omega) (Row.same (fun i _ _ => by simp [mset]) r2a) |> (fun z => by rwa [Int.add_zero] at z)
  refine wp_aload_n d166_184 rfl ?_
  refine wp_iload d166_185 rfl ?_
  refine wp_iload d166_187 rfl ?_
  refine wp_virt (as := [.int (zI (p)), .int (zI (a))]) (rest := []) d166_189 rfl rfl rfl (hG.o (by decide) rfl) rfl rfl (Nat.le_of_ble_eq_true rfl) ?_
  refine m_cell hG (by omega) (by omega) ?_
  rw [c1]
  refine wp_istore d166_192 (Nat.le_of_ble_eq_true rfl) rfl ?_
  refine wp_aload_n d166_194 rfl ?_
  refine wp_iload d166_195 rfl ?_
  refine wp_iload d166_197 rfl ?_
  refine wp_virt (as := [.int (zI (q)), .int (zI (b))]) (rest := []) d166_199 rfl rfl rfl (hG.o (by decide) rfl) rfl rfl (Nat.le_of_ble_eq_true rfl) ?_
  refine m_cell hG (by omega) (by omega) ?_
  rw [c2]
  refine wp_istore d166_202 (Nat.le_of_ble_eq_true rfl) rfl ?_
  refine wp_iload d166_204 rfl ?_
  refine wz_bipush d166_206 (by decide) ?_
  refine wz_icmp_ge (t := 218) d166_208 (by decide) (⟨by omega, by omega⟩) (⟨by omega, by omega⟩) (fun hb => absurd hb (by decide)) (fun _ => ?_)
  refine wp_iload d166_211 rfl ?_
  refine wz_bipush d166_213 (by decide) ?_
  refine wz_icmp_lt (t := 341) d166_215 (by decide) (⟨by omega, by omega⟩) (⟨by omega, by omega⟩) (fun _ => ?_) (fun hb => absurd (by decide) hb)
  refine wp_aload_n d166_341 rfl ?_
  refine wp_getR (q := 83) d166_342 rfl (hG.o (by decide) rfl) (by decide) (hG.r (by decide +kernel)) (by decide) ?_
  refine wp_iload_n d166_345 rfl ?_
  refine wp_aload_n d166_346 rfl ?_
  refine wz_getI (v := G) d166_347 rfl (hG.o (by decide) rfl) (by decide) hg ?_
  refine wz_iast (z := 600) d166_350 (hG.a (by decide) rfl rfl) (by omega) (by omega) (by decide) ?_
  refine wp_iload d166_351 rfl ?_
  refine wz_bipush d166_353 (by decide) ?_
  refine wz_icmp_lt (t := 390) d166_355 (by decide) (⟨by omega, by omega⟩) (⟨by omega, by omega⟩) (fun _ => ?_) (fun hb => absurd (by decide) hb)
  refine wp_iload d166_390 rfl ?_
  refine wz_iconst d166_392 ?_
  refine wz_icmp_ne (t := 470) d166_393 (by decide) (⟨by omega, by omega⟩) (⟨by omega, by omega⟩) (fun _ => ?_) (fun hb => absurd hb (by decide))
  refine wp_iload d166_470 rfl ?_
  refine wz_iconst d166_472 ?_
  refine wz_icmp_ne (t := 574) d166_473 (by decide) (⟨by omega, by omega⟩) (⟨by omega, by omega⟩) (fun hb => absurd (by decide) hb) (fun _ => ?_)
  refine wp_iload d166_476 rfl ?_
  refine wz_iconst d166_478 ?_
  refine wz_icmp_ne (t := 574) d166_479 (by decide) (⟨by omega, by omega⟩) (⟨by omega, by omega⟩) (fun hb => absurd (by decide) hb) (fun _ => ?_)
  refine wp_aload_n d166_482 rfl ?_
  refine wp_iload d166_483 rfl ?_
  refine wp_iload d166_485 rfl ?_
  refine wz_iconst d166_487 ?_
  refine wz_iadd d166_488 ?_
  refine wp_iload d166_489 rfl ?_
  refine wp_iload d166_491 rfl ?_
  refine wz_iconst d166_493 ?_
  refine wz_iadd d166_494 ?_
  refine wp_virt (as := [.int (zI (q + 1)), .int (zI (b)), .int (zI (p + 1)), .int (zI (a))]) (rest := []) d166_495 rfl rfl rfl (hG.o (by decide) rfl) rfl rfl (Nat.le_of_ble_eq_true rfl) ?_
  refine m_equal (l := flat A) (m := flat A') hG b1 t1 (by omega) (by omega) (by omega) t5 (by omega) (by omega) (by omega) (Row.same (fun i _ _ => by simp [mset]) r1a) (ok_pre A _ hS.1) (Row.same (fun i _ _ => by simp [mset]) r2a) (ok_pre A' _ hT.1) (fun hEq => ?_) (fun hNe => ?_)
  · skip
    refine wz_if_eq (t := 574) d166_498 (by decide) (⟨by omega, by omega⟩) (fun hb => absurd hb (by decide)) (fun _ => ?_)
    refine wp_aload_n d166_501 rfl ?_
    refine wp_getR (q := 82) d166_502 rfl (hG.o (by decide) rfl) (by decide) (hG.r (by decide +kernel)) (by decide) ?_
    refine wp_iload_n d166_505 rfl ?_
    refine wz_iconst d166_506 ?_
    refine wz_iast (z := 600) d166_507 (hG.a (by decide) rfl rfl) (by omega) (by omega) (by decide) ?_
    refine wp_aload_n d166_508 rfl ?_
    refine wp_virt (as := []) (rest := []) d166_509 rfl rfl rfl (hG.o (by decide) rfl) rfl rfl (Nat.le_of_ble_eq_true rfl) ?_
    refine m_fresh hG (u := u) (by simp [mset]; exact hu) ?_
    refine wp_istore d166_512 (Nat.le_of_ble_eq_true rfl) rfl ?_
    refine wp_aload_n d166_514 rfl ?_
    refine wp_iload d166_515 rfl ?_
    refine wp_iload d166_517 rfl ?_
    refine wz_iconst d166_519 ?_
    refine wz_iadd d166_520 ?_
    refine wp_iload d166_521 rfl ?_
    refine wz_iconst d166_523 ?_
    refine wp_virt (as := [.int (zI (0)), .int (zI (u)), .int (zI (p + 1)), .int (zI (a))]) (rest := []) d166_524 rfl rfl rfl (hG.o (by decide) rfl) rfl rfl (Nat.le_of_ble_eq_true rfl) ?_
    refine m_copy (l := flat A) hG b3 t1 (by omega) (by omega) (by omega) (by omega) (by omega) (by omega) (by omega) (by omega) (Row.same (fun i _ _ => by simp [mset]) r1a) (ok_pre A _ hS.1) ?_
    rw [Int.add_zero]
    refine wp_aload_n d166_527 rfl ?_
    refine wp_iload_n d166_528 rfl ?_
    refine wp_iload d166_529 rfl ?_
    refine wp_aload_n d166_531 rfl ?_
    refine wp_iload d166_532 rfl ?_
    refine wp_iload d166_534 rfl ?_
    refine wz_iconst d166_536 ?_
    refine wz_iadd d166_537 ?_
    refine wp_virt (as := [.int (zI (p + 1)), .int (zI (a))]) (rest := [.int (zI (a)), .int (zI (1)), .ref 56]) d166_538 rfl rfl rfl (hG.o (by decide) rfl) rfl rfl (Nat.le_of_ble_eq_true rfl) ?_
    refine m_end (l := flat A) hG b4 t1 (by omega) (by omega) (by omega) rr (ok_pre A _ hS.1) ?_
    refine wp_iload d166_541 rfl ?_
    refine wp_aload_n d166_543 rfl ?_
    refine wp_iload d166_544 rfl ?_
    refine wp_iload d166_546 rfl ?_
    refine wz_iconst d166_548 ?_
    refine wz_iadd d166_549 ?_
    refine wp_virt (as := [.int (zI (q + 1)), .int (zI (b))]) (rest := [.int (zI (b)), .int (zI (p + 1 + (flat A).length)), .int (zI (a)), .int (zI (1)), .ref 56]) d166_550 rfl rfl rfl (hG.o (by decide) rfl) rfl rfl (Nat.le_of_ble_eq_true rfl) ?_
    refine m_end (l := flat A') hG b4 t5 (by omega) (by omega) (by omega) rr' (ok_pre A' _ hT.1) ?_
    refine wp_aload_n d166_553 rfl ?_
    refine wp_iload d166_554 rfl ?_
    refine wp_iload d166_556 rfl ?_
    refine wp_iload d166_558 rfl ?_
    refine wp_virt (as := [.int (zI (u)), .int (zI ((Γ.length : Int))), .int (zI (c))]) (rest := [.int (zI (q + 1 + (flat A').length)), .int (zI (b)), .int (zI (p + 1 + (flat A).length)), .int (zI (a)), .int (zI (1)), .ref 56]) d166_560 rfl rfl rfl (hG.o (by decide) rfl) rfl rfl (Nat.le_of_ble_eq_true rfl) ?_
    refine m_context (cx := x) hG (by rw [mput_p _ _ _ _ (by decide)]; simp [mset]; exact hx) x0 x1 ?_
    rw [show x + 1 - 1 = x by omega]
    refine wp_iload d166_563 rfl ?_
    refine wz_iconst d166_565 ?_
    refine wz_iadd d166_566 ?_
    refine wp_virt (as := [.int (zI (((Γ.length : Int)) + 1)), .int (zI (x)), .int (zI (q + 1 + (flat A').length)), .int (zI (b)), .int (zI (p + 1 + (flat A).length)), .int (zI (a)), .int (zI (1))]) (rest := []) d166_567 rfl rfl rfl (hG.o (by decide) rfl) rfl rfl (Nat.le_of_ble_eq_true rfl) ?_
    refine m_aimM (G := G) hG (by rw [mset_i _ _ _ _ (by decide), mset_p _ _ _ _ (by decide), mset_p _ _ _ _ (by decide), mset_p _ _ _ _ (by decide), mput_p _ _ _ _ (by decide)]; simp [mset]; exact hg) (by omega) (by omega) ?_
    refine wp_popi d166_570 ?_
    refine wp_goto (t := 588) d166_571 (by decide) ?_
    exact wp_ret d166_588 rfl (h hEq)
  · skip
    refine wz_if_eq (t := 574) d166_498 (by decide) (⟨by omega, by omega⟩) (fun _ => ?_) (fun hb => absurd (by decide) hb)
    refine wp_iload_n d166_574 rfl ?_
    refine wz_if_ne (t := 588) d166_575 (by decide) (⟨by omega, by omega⟩) (fun _ => ?_) (fun hb => absurd hb (by decide))
    exact wp_ret d166_588 rfl (h0 hNe)
end PmM11
