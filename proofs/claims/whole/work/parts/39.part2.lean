/-! THE MODEL: part, when neither type is below the other. -/
section PmM10
variable {d : Nat} {Q : Option Value → pm_S → Prop} {M N : pm_M} {Rf : Nat → Nat → Nat} {K L : Nat → Nat} {n s : Nat}
set_option maxRecDepth 20000 in
set_option maxHeartbeats 1000000 in
theorem part_v1 {u x g G a p b q c : Int} {Γ : List Ty} {kk : Nat} {T : Ty}  (hG : pm_G Rf K L n) (hM : ∀ p i, R32 (N p i)) (hu : N 56 22 = u) (hx : N 56 24 = x) (hg : N 56 36 = G) (g0 : 0 ≤ g) (g1 : g < G) (g2 : G + 3 ≤ 600) (u1 : u < 1100) (x0 : 0 ≤ x) (x1 : x < 900) (hD : Γ.length < 2000) (t : TH N u x a p b q c (Γ.length : Int) (Γ, tVar kk, T))  (h : Q none (zM N, Rf, K, L, n, s)) : pm_Wp none (d + 7) 166 184 [some (.ref 56), some (.int (zI g)), some (.int (zI (7 * g))), some (.int (zI 1)), some (.int (zI a)), some (.int (zI p)), some (.int (zI b)), some (.int (zI q)), some (.int (zI c)), some (.int (zI ((Γ.length : Int)))), some (.int (zI 0)), none, none, none] [] (zM N, Rf, K, L, n, s) Q := by
  have t1 := t.a0; have t2 := t.a1; have t3 := t.p0; have t4 := t.p1; have t5 := t.b0; have t6 := t.b1; have t7 := t.q0; have t8 := t.q1
  simp only at t4 t8
  obtain ⟨hc0, hS0, hT0⟩ := t.ok
  have hc : okc Γ := hc0
  have hS : ok Γ.length (tVar kk) = true := hS0
  have hT : ok Γ.length (T) = true := hT0
  clear hc0 hS0 hT0
  have l1 : hd (tVar kk) < 16 + Γ.length + 16 := hd_le hS
  have l2 : hd (T) < 16 + Γ.length + 16 := hd_le hT
  obtain ⟨f1, e1⟩ := flat_hd hS
  obtain ⟨f2, e2⟩ := flat_hd hT
  have r1 := t.ra
  have r2 := t.rb
  simp only at r1 r2
  have z1 := t4
  have z2 := t8
  rw [e1] at r1 z1
  rw [e2] at r2 z2
  rw [List.length_cons] at z1 z2
  have c1 := r1.1
  have c2 := r2.1
  rw [hd_var] at c1 l1
  refine wp_aload_n d166_184 rfl ?_
  refine wp_iload d166_185 rfl ?_
  refine wp_iload d166_187 rfl ?_
  refine wp_virt (as := [.int (zI (p)), .int (zI (a))]) (rest := []) d166_189 rfl rfl rfl (hG.o (by decide) rfl) rfl rfl (Nat.le_of_ble_eq_true rfl) ?_
  refine m_cell hG (by omega) (by omega) ?_
  rw [c1]
  refine wp_istore d166_192 (Nat.le_of_ble_eq_true rfl) rfl ?_
  refine wp_aload_n d166_194 rfl ?_
  refine wp_iload d166_195 rfl ?_
  refine wp_iload d166_197 rfl ?_
  refine wp_virt (as := [.int (zI (q)), .int (zI (b))]) (rest := []) d166_199 rfl rfl rfl (hG.o (by decide) rfl) rfl rfl (Nat.le_of_ble_eq_true rfl) ?_
  refine m_cell hG (by omega) (by omega) ?_
  rw [c2]
  refine wp_istore d166_202 (Nat.le_of_ble_eq_true rfl) rfl ?_
  refine wp_iload d166_204 rfl ?_
  refine wz_bipush d166_206 (by decide) ?_
  refine wz_icmp_ge (t := 218) d166_208 (by decide) (⟨by omega, by omega⟩) (⟨by omega, by omega⟩) (fun _ => ?_) (fun hb => absurd (by omega) hb)
  refine wp_iload_n d166_218 rfl ?_
  refine wz_iconst d166_219 ?_
  refine wz_icmp_ne (t := 224) d166_220 (by decide) (⟨by omega, by omega⟩) (⟨by omega, by omega⟩) (fun hb => absurd (by decide) hb) (fun _ => ?_)
  exact wp_ret d166_223 rfl h
set_option maxRecDepth 20000 in
set_option maxHeartbeats 1000000 in
theorem part_v2 {u x g G a p b q c : Int} {Γ : List Ty} {kk : Nat} {S : Ty}  (hG : pm_G Rf K L n) (hM : ∀ p i, R32 (N p i)) (hu : N 56 22 = u) (hx : N 56 24 = x) (hg : N 56 36 = G) (g0 : 0 ≤ g) (g1 : g < G) (g2 : G + 3 ≤ 600) (u1 : u < 1100) (x0 : 0 ≤ x) (x1 : x < 900) (hD : Γ.length < 2000) (t : TH N u x a p b q c (Γ.length : Int) (Γ, S, tVar kk)) (n1 : ¬ 16 ≤ hd S) (h : Q none (zM N, Rf, K, L, n, s)) : pm_Wp none (d + 7) 166 184 [some (.ref 56), some (.int (zI g)), some (.int (zI (7 * g))), some (.int (zI 1)), some (.int (zI a)), some (.int (zI p)), some (.int (zI b)), some (.int (zI q)), some (.int (zI c)), some (.int (zI ((Γ.length : Int)))), some (.int (zI 0)), none, none, none] [] (zM N, Rf, K, L, n, s) Q := by
  have t1 := t.a0; have t2 := t.a1; have t3 := t.p0; have t4 := t.p1; have t5 := t.b0; have t6 := t.b1; have t7 := t.q0; have t8 := t.q1
  simp only at t4 t8
  obtain ⟨hc0, hS0, hT0⟩ := t.ok
  have hc : okc Γ := hc0
  have hS : ok Γ.length (S) = true := hS0
  have hT : ok Γ.length (tVar kk) = true := hT0
  clear hc0 hS0 hT0
  have l1 : hd (S) < 16 + Γ.length + 16 := hd_le hS
  have l2 : hd (tVar kk) < 16 + Γ.length + 16 := hd_le hT
  obtain ⟨f1, e1⟩ := flat_hd hS
  obtain ⟨f2, e2⟩ := flat_hd hT
  have r1 := t.ra
  have r2 := t.rb
  simp only at r1 r2
  have z1 := t4
  have z2 := t8
  rw [e1] at r1 z1
  rw [e2] at r2 z2
  rw [List.length_cons] at z1 z2
  have c1 := r1.1
  have c2 := r2.1
  rw [hd_var] at c2 l2
  refine wp_aload_n d166_184 rfl ?_
  refine wp_iload d166_185 rfl ?_
  refine wp_iload d166_187 rfl ?_
  refine wp_virt (as := [.int (zI (p)), .int (zI (a))]) (rest := []) d166_189 rfl rfl rfl (hG.o (by decide) rfl) rfl rfl (Nat.le_of_ble_eq_true rfl) ?_
  refine m_cell hG (by omega) (by omega) ?_
  rw [c1]
  refine wp_istore d166_192 (Nat.le_of_ble_eq_true rfl) rfl ?_
  refine wp_aload_n d166_194 rfl ?_
  refine wp_iload d166_195 rfl ?_
  refine wp_iload d166_197 rfl ?_
  refine wp_virt (as := [.int (zI (q)), .int (zI (b))]) (rest := []) d166_199 rfl rfl rfl (hG.o (by decide) rfl) rfl rfl (Nat.le_of_ble_eq_true rfl) ?_
  refine m_cell hG (by omega) (by omega) ?_
  rw [c2]
  refine wp_istore d166_202 (Nat.le_of_ble_eq_true rfl) rfl ?_
  refine wp_iload d166_204 rfl ?_
  refine wz_bipush d166_206 (by decide) ?_
  refine wz_icmp_ge (t := 218) d166_208 (by decide) (⟨by omega, by omega⟩) (⟨by omega, by omega⟩) (fun hb => absurd hb (by omega)) (fun _ => ?_)
  refine wp_iload d166_211 rfl ?_
  refine wz_bipush d166_213 (by decide) ?_
  refine wz_icmp_lt (t := 341) d166_215 (by decide) (⟨by omega, by omega⟩) (⟨by omega, by omega⟩) (fun hb => absurd hb (by omega)) (fun _ => ?_)
  refine wp_iload_n d166_218 rfl ?_
  refine wz_iconst d166_219 ?_
  refine wz_icmp_ne (t := 224) d166_220 (by decide) (⟨by omega, by omega⟩) (⟨by omega, by omega⟩) (fun hb => absurd (by decide) hb) (fun _ => ?_)
  exact wp_ret d166_223 rfl h
set_option maxRecDepth 20000 in
set_option maxHeartbeats 1000000 in
theorem part_v3 {u x g G a p b q c : Int} {Γ : List Ty} {kk : Nat} {T : Ty}  (hG : pm_G Rf K L n) (hM : ∀ p i, R32 (N p i)) (hu : N 56 22 = u) (hx : N 56 24 = x) (hg : N 56 36 = G) (g0 : 0 ≤ g) (g1 : g < G) (g2 : G + 3 ≤ 600) (u1 : u < 1100) (x0 : 0 ≤ x) (x1 : x < 900) (hD : Γ.length < 2000) (t : TH N u x a p b q c (Γ.length : Int) (Γ, tVar kk, T)) (hkk : kk < Γ.length) (h : Q none (zM (mset (mset (mset (mset (mset (mput (mset N 56 22 (u + 1)) 73 (17 * u) (flat (lft kk (Γ.length - kk) (bnd Γ kk)))) 81 ((7 * g) + 1) u) 81 ((7 * g) + 2) 0) 81 ((7 * g) + 3) b) 81 ((7 * g) + 4) q) 82 g (-2)), Rf, K, L, n, s)) : pm_Wp none (d + 7) 166 184 [some (.ref 56), some (.int (zI g)), some (.int (zI (7 * g))), some (.int (zI 0)), some (.int (zI a)), some (.int (zI p)), some (.int (zI b)), some (.int (zI q)), some (.int (zI c)), some (.int (zI ((Γ.length : Int)))), some (.int (zI 0)), none, none, none] [] (zM N, Rf, K, L, n, s) Q := by
  have t1 := t.a0; have t2 := t.a1; have t3 := t.p0; have t4 := t.p1; have t5 := t.b0; have t6 := t.b1; have t7 := t.q0; have t8 := t.q1
  simp only at t4 t8
  obtain ⟨hc0, hS0, hT0⟩ := t.ok
  have hc : okc Γ := hc0
  have hS : ok Γ.length (tVar kk) = true := hS0
  have hT : ok Γ.length (T) = true := hT0
  clear hc0 hS0 hT0
  have l1 : hd (tVar kk) < 16 + Γ.length + 16 := hd_le hS
  have l2 : hd (T) < 16 + Γ.length + 16 := hd_le hT
  obtain ⟨f1, e1⟩ := flat_hd hS
  obtain ⟨f2, e2⟩ := flat_hd hT
  have r1 := t.ra
  have r2 := t.rb
  simp only at r1 r2
  have z1 := t4
  have z2 := t8
  rw [e1] at r1 z1
  rw [e2] at r2 z2
  rw [List.length_cons] at z1 z2
  have c1 := r1.1
  have c2 := r2.1
  rw [hd_var] at c1 l1
  refine wp_aload_n d166_184 rfl ?_
  refine wp_iload d166_185 rfl ?_
  refine wp_iload d166_187 rfl ?_
  refine wp_virt (as := [.int (zI (p)), .int (zI (a))]) (rest := []) d166_189 rfl rfl rfl (hG.o (by decide) rfl) rfl rfl (Nat.le_of_ble_eq_true rfl) ?_
  refine m_cell hG (by omega) (by omega) ?_
  rw [c1]
  refine wp_istore d166_192 (Nat.le_of_ble_eq_true rfl) rfl ?_
  refine wp_aload_n d166_194 rfl ?_
  refine wp_iload d166_195 rfl ?_
  refine wp_iload d166_197 rfl ?_
  refine wp_virt (as := [.int (zI (q)), .int (zI (b))]) (rest := []) d166_199 rfl rfl rfl (hG.o (by decide) rfl) rfl rfl (Nat.le_of_ble_eq_true rfl) ?_
  refine m_cell hG (by omega) (by omega) ?_
  rw [c2]
  refine wp_istore d166_202 (Nat.le_of_ble_eq_true rfl) rfl ?_
  refine wp_iload d166_204 rfl ?_
  refine wz_bipush d166_206 (by decide) ?_
  refine wz_icmp_ge (t := 218) d166_208 (by decide) (⟨by omega, by omega⟩) (⟨by omega, by omega⟩) (fun _ => ?_) (fun hb => absurd (by omega) hb)
  refine wp_iload_n d166_218 rfl ?_
  refine wz_iconst d166_219 ?_
  refine wz_icmp_ne (t := 224) d166_220 (by decide) (⟨by omega, by omega⟩) (⟨by omega, by omega⟩) (fun _ => ?_) (fun hb => absurd hb (by decide))
  refine wp_aload_n d166_224 rfl ?_
  refine wp_getR (q := 81) d166_225 rfl (hG.o (by decide) rfl) (by decide) (hG.r (by decide +kernel)) (by decide) ?_
  refine wp_iload_n d166_228 rfl ?_
  refine wz_iconst d166_229 ?_
  refine wz_iadd d166_230 ?_
  refine wp_iload d166_231 rfl ?_
  refine wz_bipush d166_233 (by decide) ?_
  refine wz_icmp_lt (t := 254) d166_235 (by decide) (⟨by omega, by omega⟩) (⟨by omega, by omega⟩) (fun hb => absurd hb (by omega)) (fun _ => ?_)
  refine wp_aload_n d166_238 rfl ?_
  refine wp_iload d166_239 rfl ?_
  refine wz_bipush d166_241 (by decide) ?_
  refine wz_isub d166_243 ?_
  refine wp_iload d166_244 rfl ?_
  refine wp_iload d166_246 rfl ?_
  refine wp_virt (as := [.int (zI ((Γ.length : Int))), .int (zI (c)), .int (zI ((((16 + kk : Nat) : Int)) - 16))]) (rest := [.int (zI ((7 * g) + 1)), .ref 81]) d166_248 rfl rfl rfl (hG.o (by decide) rfl) rfl rfl (Nat.le_of_ble_eq_true rfl) ?_
  rw [show ((16 + kk : Nat) : Int) - 16 = (kk : Int) by omega]; refine m_boundOf (Γ := Γ) hG hM hu u1 (by omega) (by omega) (by omega) t.hc hkk (by omega) ?_
  refine wp_goto (t := 256) d166_251 (by decide) ?_
  refine wz_iast (z := 4200) d166_256 (hG.a (by decide) rfl rfl) (by omega) (by omega) (by decide) ?_
  refine wp_aload_n d166_257 rfl ?_
  refine wp_getR (q := 81) d166_258 rfl (hG.o (by decide) rfl) (by decide) (hG.r (by decide +kernel)) (by decide) ?_
  refine wp_iload_n d166_261 rfl ?_
  refine wz_iconst d166_262 ?_
  refine wz_iadd d166_263 ?_
  refine wp_iload d166_264 rfl ?_
  refine wz_bipush d166_266 (by decide) ?_
  refine wz_icmp_lt (t := 275) d166_268 (by decide) (⟨by omega, by omega⟩) (⟨by omega, by omega⟩) (fun hb => absurd hb (by omega)) (fun _ => ?_)
  refine wz_iconst d166_271 ?_
  refine wp_goto (t := 277) d166_272 (by decide) ?_
  refine wz_iast (z := 4200) d166_277 (hG.a (by decide) rfl rfl) (by omega) (by omega) (by decide) ?_
  refine wp_aload_n d166_278 rfl ?_
  refine wp_getR (q := 81) d166_279 rfl (hG.o (by decide) rfl) (by decide) (hG.r (by decide +kernel)) (by decide) ?_
  refine wp_iload_n d166_282 rfl ?_
  refine wz_iconst d166_283 ?_
  refine wz_iadd d166_284 ?_
  refine wp_iload d166_285 rfl ?_
  refine wz_bipush d166_287 (by decide) ?_
  refine wz_icmp_lt (t := 297) d166_289 (by decide) (⟨by omega, by omega⟩) (⟨by omega, by omega⟩) (fun hb => absurd hb (by omega)) (fun _ => ?_)
  refine wp_iload d166_292 rfl ?_
  refine wp_goto (t := 310) d166_294 (by decide) ?_
  refine wz_iast (z := 4200) d166_310 (hG.a (by decide) rfl rfl) (by omega) (by omega) (by decide) ?_
  refine wp_aload_n d166_311 rfl ?_
  refine wp_getR (q := 81) d166_312 rfl (hG.o (by decide) rfl) (by decide) (hG.r (by decide +kernel)) (by decide) ?_
  refine wp_iload_n d166_315 rfl ?_
  refine wz_iconst d166_316 ?_
  refine wz_iadd d166_317 ?_
  refine wp_iload d166_318 rfl ?_
  refine wz_bipush d166_320 (by decide) ?_
  refine wz_icmp_lt (t := 330) d166_322 (by decide) (⟨by omega, by omega⟩) (⟨by omega, by omega⟩) (fun hb => absurd hb (by omega)) (fun _ => ?_)
  refine wp_iload d166_325 rfl ?_
  refine wp_goto (t := 331) d166_327 (by decide) ?_
  refine wz_iast (z := 4200) d166_331 (hG.a (by decide) rfl rfl) (by omega) (by omega) (by decide) ?_
  refine wp_aload_n d166_332 rfl ?_
  refine wp_getR (q := 82) d166_333 rfl (hG.o (by decide) rfl) (by decide) (hG.r (by decide +kernel)) (by decide) ?_
  refine wp_iload_n d166_336 rfl ?_
  refine wz_bipush d166_337 (by decide) ?_
  refine wz_iast (z := 600) d166_339 (hG.a (by decide) rfl rfl) (by omega) (by omega) (by decide) ?_
  exact wp_ret d166_340 rfl h
theorem goal_ctx {u x c : Int} {v v' i j : Int} : ∀ {Γ : List Ty} {c : Int}, Ctx N u x c Γ → Ctx (mset (mset N 81 i v) 81 j v') u x c Γ
  | [], _, hc => hc
  | b :: Γ, c, hc => by
    have e : ∀ (q : Nat) (l : Int), q ≠ 81 → mset (mset N 81 i v) 81 j v' q l = N q l := fun q l hq => by rw [mset_p _ _ _ _ hq, mset_p _ _ _ _ hq]
    obtain ⟨q0, q1, q2, q3, q4, q5, q6, q7, q8⟩ := hc
    refine ⟨q0, q1, by rw [e 75 _ (by decide)]; exact q2, by rw [e 76 _ (by decide)]; exact q3, by rw [e 76 _ (by decide)]; exact q4, ?_, q6, q7, ?_⟩
    · rw [e 76 _ (by decide)]; exact Row.same (fun l _ _ => e 73 _ (by decide)) q5
    · rw [e 74 _ (by decide)]; exact goal_ctx (c := c) q8
set_option maxRecDepth 20000 in
set_option maxHeartbeats 1000000 in
theorem part_v4 {u x g G a p b q c : Int} {Γ : List Ty} {kk : Nat} {S : Ty}  (hG : pm_G Rf K L n) (hM : ∀ p i, R32 (N p i)) (hu : N 56 22 = u) (hx : N 56 24 = x) (hg : N 56 36 = G) (g0 : 0 ≤ g) (g1 : g < G) (g2 : G + 3 ≤ 600) (u1 : u < 1100) (x0 : 0 ≤ x) (x1 : x < 900) (hD : Γ.length < 2000) (t : TH N u x a p b q c (Γ.length : Int) (Γ, S, tVar kk)) (n1 : ¬ 16 ≤ hd S) (hkk : kk < Γ.length) (h : Q none (zM (mset (mset (mset (mput (mset (mset (mset N 81 ((7 * g) + 1) a) 81 ((7 * g) + 2) p) 56 22 (u + 1)) 73 (17 * u) (flat (lft kk (Γ.length - kk) (bnd Γ kk)))) 81 ((7 * g) + 3) u) 81 ((7 * g) + 4) 0) 82 g (-2)), Rf, K, L, n, s)) : pm_Wp none (d + 7) 166 184 [some (.ref 56), some (.int (zI g)), some (.int (zI (7 * g))), some (.int (zI 0)), some (.int (zI a)), some (.int (zI p)), some (.int (zI b)), some (.int (zI q)), some (.int (zI c)), some (.int (zI ((Γ.length : Int)))), some (.int (zI 0)), none, none, none] [] (zM N, Rf, K, L, n, s) Q := by
  have t1 := t.a0; have t2 := t.a1; have t3 := t.p0; have t4 := t.p1; have t5 := t.b0; have t6 := t.b1; have t7 := t.q0; have t8 := t.q1
  simp only at t4 t8
  obtain ⟨hc0, hS0, hT0⟩ := t.ok
  have hc : okc Γ := hc0
  have hS : ok Γ.length (S) = true := hS0
  have hT : ok Γ.length (tVar kk) = true := hT0
  clear hc0 hS0 hT0
  have l1 : hd (S) < 16 + Γ.length + 16 := hd_le hS
  have l2 : hd (tVar kk) < 16 + Γ.length + 16 := hd_le hT
  obtain ⟨f1, e1⟩ := flat_hd hS
  obtain ⟨f2, e2⟩ := flat_hd hT
  have r1 := t.ra
  have r2 := t.rb
  simp only at r1 r2
  have z1 := t4
  have z2 := t8
  rw [e1] at r1 z1
  rw [e2] at r2 z2
  rw [List.length_cons] at z1 z2
  have c1 := r1.1
  have c2 := r2.1
  rw [hd_var] at c2 l2
  refine wp_aload_n d166_184 rfl ?_
  refine wp_iload d166_185 rfl ?_
  refine wp_iload d166_187 rfl ?_
  refine wp_virt (as := [.int (zI (p)), .int (zI (a))]) (rest := []) d166_189 rfl rfl rfl (hG.o (by decide) rfl) rfl rfl (Nat.le_of_ble_eq_true rfl) ?_
  refine m_cell hG (by omega) (by omega) ?_
  rw [c1]
  refine wp_istore d166_192 (Nat.le_of_ble_eq_true rfl) rfl ?_
  refine wp_aload_n d166_194 rfl ?_
  refine wp_iload d166_195 rfl ?_
  refine wp_iload d166_197 rfl ?_
  refine wp_virt (as := [.int (zI (q)), .int (zI (b))]) (rest := []) d166_199 rfl rfl rfl (hG.o (by decide) rfl) rfl rfl (Nat.le_of_ble_eq_true rfl) ?_
  refine m_cell hG (by omega) (by omega) ?_
  rw [c2]
  refine wp_istore d166_202 (Nat.le_of_ble_eq_true rfl) rfl ?_
  refine wp_iload d166_204 rfl ?_
  refine wz_bipush d166_206 (by decide) ?_
  refine wz_icmp_ge (t := 218) d166_208 (by decide) (⟨by omega, by omega⟩) (⟨by omega, by omega⟩) (fun hb => absurd hb (by omega)) (fun _ => ?_)
  refine wp_iload d166_211 rfl ?_
  refine wz_bipush d166_213 (by decide) ?_
  refine wz_icmp_lt (t := 341) d166_215 (by decide) (⟨by omega, by omega⟩) (⟨by omega, by omega⟩) (fun hb => absurd hb (by omega)) (fun _ => ?_)
  refine wp_iload_n d166_218 rfl ?_
  refine wz_iconst d166_219 ?_
  refine wz_icmp_ne (t := 224) d166_220 (by decide) (⟨by omega, by omega⟩) (⟨by omega, by omega⟩) (fun _ => ?_) (fun hb => absurd hb (by decide))
  refine wp_aload_n d166_224 rfl ?_
  refine wp_getR (q := 81) d166_225 rfl (hG.o (by decide) rfl) (by decide) (hG.r (by decide +kernel)) (by decide) ?_
  refine wp_iload_n d166_228 rfl ?_
  refine wz_iconst d166_229 ?_
  refine wz_iadd d166_230 ?_
  refine wp_iload d166_231 rfl ?_
  refine wz_bipush d166_233 (by decide) ?_
  refine wz_icmp_lt (t := 254) d166_235 (by decide) (⟨by omega, by omega⟩) (⟨by omega, by omega⟩) (fun _ => ?_) (fun hb => absurd (by omega) hb)
  refine wp_iload d166_254 rfl ?_
  refine wz_iast (z := 4200) d166_256 (hG.a (by decide) rfl rfl) (by omega) (by omega) (by decide) ?_
  refine wp_aload_n d166_257 rfl ?_
  refine wp_getR (q := 81) d166_258 rfl (hG.o (by decide) rfl) (by decide) (hG.r (by decide +kernel)) (by decide) ?_
  refine wp_iload_n d166_261 rfl ?_
  refine wz_iconst d166_262 ?_
  refine wz_iadd d166_263 ?_
  refine wp_iload d166_264 rfl ?_
  refine wz_bipush d166_266 (by decide) ?_
  refine wz_icmp_lt (t := 275) d166_268 (by decide) (⟨by omega, by omega⟩) (⟨by omega, by omega⟩) (fun _ => ?_) (fun hb => absurd (by omega) hb)
  refine wp_iload d166_275 rfl ?_
  refine wz_iast (z := 4200) d166_277 (hG.a (by decide) rfl rfl) (by omega) (by omega) (by decide) ?_
  refine wp_aload_n d166_278 rfl ?_
  refine wp_getR (q := 81) d166_279 rfl (hG.o (by decide) rfl) (by decide) (hG.r (by decide +kernel)) (by decide) ?_
  refine wp_iload_n d166_282 rfl ?_
  refine wz_iconst d166_283 ?_
  refine wz_iadd d166_284 ?_
  refine wp_iload d166_285 rfl ?_
  refine wz_bipush d166_287 (by decide) ?_
  refine wz_icmp_lt (t := 297) d166_289 (by decide) (⟨by omega, by omega⟩) (⟨by omega, by omega⟩) (fun _ => ?_) (fun hb => absurd (by omega) hb)
  refine wp_aload_n d166_297 rfl ?_
  refine wp_iload d166_298 rfl ?_
  refine wz_bipush d166_300 (by decide) ?_
  refine wz_isub d166_302 ?_
  refine wp_iload d166_303 rfl ?_
  refine wp_iload d166_305 rfl ?_
  refine wp_virt (as := [.int (zI ((Γ.length : Int))), .int (zI (c)), .int (zI ((((16 + kk : Nat) : Int)) - 16))]) (rest := [.int (zI ((7 * g) + 3)), .ref 81]) d166_307 rfl rfl rfl (hG.o (by decide) rfl) rfl rfl (Nat.le_of_ble_eq_true rfl) ?_
  rw [show ((16 + kk : Nat) : Int) - 16 = (kk : Int) by omega]; refine m_boundOf (Γ := Γ) (u := u) hG (mset_R32 (mset_R32 hM ⟨by omega, by omega⟩) ⟨by omega, by omega⟩) (by simp [mset]; exact hu) u1 (by omega) (by omega) (by omega) (goal_ctx (c := c) t.hc) hkk (by omega) ?_
  refine wz_iast (z := 4200) d166_310 (hG.a (by decide) rfl rfl) (by omega) (by omega) (by decide) ?_
  refine wp_aload_n d166_311 rfl ?_
  refine wp_getR (q := 81) d166_312 rfl (hG.o (by decide) rfl) (by decide) (hG.r (by decide +kernel)) (by decide) ?_
  refine wp_iload_n d166_315 rfl ?_
  refine wz_iconst d166_316 ?_
  refine wz_iadd d166_317 ?_
  refine wp_iload d166_318 rfl ?_
  refine wz_bipush d166_320 (by decide) ?_
  refine wz_icmp_lt (t := 330) d166_322 (by decide) (⟨by omega, by omega⟩) (⟨by omega, by omega⟩) (fun _ => ?_) (fun hb => absurd (by omega) hb)
  refine wz_iconst d166_330 ?_
  refine wz_iast (z := 4200) d166_331 (hG.a (by decide) rfl rfl) (by omega) (by omega) (by decide) ?_
  refine wp_aload_n d166_332 rfl ?_
  refine wp_getR (q := 82) d166_333 rfl (hG.o (by decide) rfl) (by decide) (hG.r (by decide +kernel)) (by decide) ?_
  refine wp_iload_n d166_336 rfl ?_
  refine wz_bipush d166_337 (by decide) ?_
  refine wz_iast (z := 600) d166_339 (hG.a (by decide) rfl rfl) (by omega) (by omega) (by decide) ?_
  exact wp_ret d166_340 rfl h
end PmM10
