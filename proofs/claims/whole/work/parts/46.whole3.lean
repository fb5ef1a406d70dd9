/-! THE MODEL: whole. -/
theorem RL.same {N N' : pm_M} {u : Int} (e : ∀ (p : Nat) (i : Int), p ≠ 56 → N' p i = N p i) : ∀ {rs : List Rs} {f : Int}, RL N u f rs → RL N' u f rs
  | [], _, _ => trivial
  | none :: rs, f, h => ⟨(e 84 f (by decide)).trans h.1, RL.same e h.2⟩
  | some none :: rs, f, h => ⟨(e 84 f (by decide)).trans h.1, RL.same e h.2⟩
  | some (some R) :: rs, f, h => by
    obtain ⟨⟨a0, a1, a2, a3, a4, a5, a6⟩, h2⟩ := h
    have e5 := e 85 f (by decide)
    have e6 := e 86 f (by decide)
    exact ⟨⟨(e 84 f (by decide)).trans a0, by rw [e5]; exact a1, by rw [e5]; exact a2, by rw [e6]; exact a3, by rw [e6]; exact a4, by rw [e5, e6]; exact Row.same (fun _ _ _ => e 73 _ (by decide)) a5, a6⟩, RL.same e h2⟩
section PmM17
variable {d : Nat} {Q : Option Value → pm_S → Prop} {M N : pm_M} {Rf : Nat → Nat → Nat} {K L : Nat → Nat} {n s : Nat}
set_option maxRecDepth 20000 in
theorem whole_none {u g f mn z W : Int} {o7 o8 o9 : Option Value} (hG : pm_G Rf K L n) (hu : N 56 22 = u) (u0 : 0 ≤ u) (u1 : u < 1100) (g0 : 0 ≤ g) (g1 : g < 600) (rW : R32 W) (eW : N 81 (7 * g) = W) {v5 : Int} (h0 : W = 0 → Q none (zM (mset (mset (mset (mset (mset N 56 22 (u + 1)) 73 (17 * u) 0) 84 g 1) 85 g u) 86 g 0), Rf, K, L, n, s)) (h1 : ¬ W = 0 → Q none (zM N, Rf, K, L, n, s)) : pm_Wp none (d + 3) 168 232 [some (.ref 56), some (.int (zI g)), some (.int (zI f)), some (.int (zI mn)), some (.int (zI 1)), some (.int (zI v5)), some (.int (zI z)), o7, o8, o9] [] (zM N, Rf, K, L, n, s) Q := by
  refine wp_iload d168_232 rfl ?_
  refine wz_if_eq (t := 260) d168_234 (by decide) (⟨by omega, by omega⟩) (fun hb => absurd hb (by decide)) (fun _ => ?_)
  refine wp_aload_n d168_237 rfl ?_
  refine wp_getR (q := 81) d168_238 rfl (hG.o (by decide) rfl) (by decide) (hG.r (by decide +kernel)) (by decide) ?_
  refine wz_bipush d168_241 (by decide) ?_
  refine wp_iload_n d168_243 rfl ?_
  refine wz_imul d168_244 ?_
  refine wz_iald (z := 4200) (v := W) d168_245 (hG.a (by decide) rfl rfl) (by omega) (by omega) (by decide) eW ?_
  refine wz_if_ne (t := 259) d168_246 (by decide) (rW) (fun hb246 => ?_) (fun hb246 => ?_)
  · skip
    exact wp_ret d168_259 rfl (h1 hb246)
  · skip
    refine wp_aload_n d168_249 rfl ?_
    refine wp_iload_n d168_250 rfl ?_
    refine wp_aload_n d168_251 rfl ?_
    refine wp_virt (as := []) (rest := [.int (zI (g)), .ref 56]) d168_252 rfl rfl rfl (hG.o (by decide) rfl) rfl rfl (Nat.le_of_ble_eq_true rfl) ?_
    refine m_top hG hu u0 u1 ?_
    refine wz_iconst d168_255 ?_
    refine wp_virt (as := [.int (zI (0)), .int (zI (u)), .int (zI (g))]) (rest := []) d168_256 rfl rfl rfl (hG.o (by decide) rfl) rfl rfl (Nat.le_of_ble_eq_true rfl) ?_
    refine m_reach hG g0 g1 ?_
    exact wp_ret d168_259 rfl (h0 hb246)
set_option maxRecDepth 20000 in
theorem whole_large {u g f mn z W : Int} {o7 o8 o9 : Option Value} (hG : pm_G Rf K L n) (hu : N 56 22 = u) (u0 : 0 ≤ u) (u1 : u < 1100) (g0 : 0 ≤ g) (g1 : g < 600) (rW : R32 W) (eW : N 81 (7 * g) = W) {v5 : Int} (h5 : v5 = 0 ∨ v5 = 1) (rz : R32 z) (hl : v5 = 1 ∨ 16 < z) (h : Q none (zM (mset N 84 g 2), Rf, K, L, n, s)) : pm_Wp none (d + 3) 168 232 [some (.ref 56), some (.int (zI g)), some (.int (zI f)), some (.int (zI mn)), some (.int (zI 0)), some (.int (zI v5)), some (.int (zI z)), o7, o8, o9] [] (zM N, Rf, K, L, n, s) Q := by
  rcases h5 with rfl | rfl
  · skip
    refine wp_iload d168_232 rfl ?_
    refine wz_if_eq (t := 260) d168_234 (by decide) (⟨by omega, by omega⟩) (fun _ => ?_) (fun hb => absurd (by decide) hb)
    refine wp_iload d168_260 rfl ?_
    refine wz_if_ne (t := 272) d168_262 (by decide) (⟨by omega, by omega⟩) (fun hb => absurd (by decide) hb) (fun _ => ?_)
    refine wp_iload d168_265 rfl ?_
    refine wz_bipush d168_267 (by decide) ?_
    refine wz_icmp_le (t := 280) d168_269 (by decide) (rz) (⟨by omega, by omega⟩) (fun hb => absurd hb (by omega)) (fun _ => ?_)
    refine wp_aload_n d168_272 rfl ?_
    refine wp_getR (q := 84) d168_273 rfl (hG.o (by decide) rfl) (by decide) (hG.r (by decide +kernel)) (by decide) ?_
    refine wp_iload_n d168_276 rfl ?_
    refine wz_iconst d168_277 ?_
    refine wz_iast (z := 600) d168_278 (hG.a (by decide) rfl rfl) (by omega) (by omega) (by decide) ?_
    exact wp_ret d168_279 rfl h
  · skip
    refine wp_iload d168_232 rfl ?_
    refine wz_if_eq (t := 260) d168_234 (by decide) (⟨by omega, by omega⟩) (fun _ => ?_) (fun hb => absurd (by decide) hb)
    refine wp_iload d168_260 rfl ?_
    refine wz_if_ne (t := 272) d168_262 (by decide) (⟨by omega, by omega⟩) (fun _ => ?_) (fun hb => absurd hb (by decide))
    refine wp_aload_n d168_272 rfl ?_
    refine wp_getR (q := 84) d168_273 rfl (hG.o (by decide) rfl) (by decide) (hG.r (by decide +kernel)) (by decide) ?_
    refine wp_iload_n d168_276 rfl ?_
    refine wz_iconst d168_277 ?_
    refine wz_iast (z := 600) d168_278 (hG.a (by decide) rfl rfl) (by omega) (by omega) (by decide) ?_
    exact wp_ret d168_279 rfl h
set_option maxRecDepth 20000 in
set_option maxHeartbeats 1000000 in
theorem whole_build {u g f mn z W : Int} {o7 o8 o9 : Option Value} (hG : pm_G Rf K L n) (hu : N 56 22 = u) (u0 : 0 ≤ u) (u1 : u < 1100) (g0 : 0 ≤ g) (g1 : g < 600) (rW : R32 W) (eW : N 81 (7 * g) = W) {bc : Int} {ts : List Ty} (hN : ∀ p i, R32 (N p i)) (rz : R32 z) (hz : z ≤ 16) (hb : N 82 g = bc) (b2 : bc ≠ 2) (f0 : 0 ≤ f) (m1 : f + mn ≤ 600) (hr : RL N u f (ts.map okT)) (hmn : mn = ts.length) (hl : 1 + (fla ts).length ≤ 17) (h : (∀ c ∈ bc :: fla ts, R32 c) → Q none (zM (mset (mset (mset (mput (mset N 56 22 (u + 1)) 73 (17 * u) (bc :: fla ts)) 84 g 1) 85 g u) 86 g 0), Rf, K, L, n, s)) : pm_Wp none (d + 3) 168 232 [some (.ref 56), some (.int (zI g)), some (.int (zI f)), some (.int (zI mn)), some (.int (zI 0)), some (.int (zI 0)), some (.int (zI z)), o7, o8, o9] [] (zM N, Rf, K, L, n, s) Q := by
  have rb : R32 bc := by rw [← hb]; exact hN _ _
  have hN1 : ∀ p i, R32 (mset N 56 22 (u + 1) p i) := mset_R32 hN ⟨by omega, by omega⟩
  have hr1 : RL (mset N 56 22 (u + 1)) u (f + 0) (ts.map okT) := by rw [Int.add_zero]; exact RL.same (fun p i hp => mset_p _ _ _ _ hp) hr
  have em : mset (mset N 56 22 (u + 1)) 73 (17 * u) bc = mput (mset N 56 22 (u + 1)) 73 (17 * u) [bc] := by
    have := mput_snoc (mset N 56 22 (u + 1)) 73 (17 * u) [] bc (17 * u) (by simp)
    rwa [mput_nil] at this
  refine wp_iload d168_232 rfl ?_
  refine wz_if_eq (t := 260) d168_234 (by decide) (⟨by omega, by omega⟩) (fun _ => ?_) (fun hb => absurd (by decide) hb)
  refine wp_iload d168_260 rfl ?_
  refine wz_if_ne (t := 272) d168_262 (by decide) (⟨by omega, by omega⟩) (fun hb => absurd (by decide) hb) (fun _ => ?_)
  refine wp_iload d168_265 rfl ?_
  refine wz_bipush d168_267 (by decide) ?_
  refine wz_icmp_le (t := 280) d168_269 (by decide) (rz) (⟨by omega, by omega⟩) (fun _ => ?_) (fun hb => absurd (by omega) hb)
  refine wp_aload_n d168_280 rfl ?_
  refine wp_virt (as := []) (rest := []) d168_281 rfl rfl rfl (hG.o (by decide) rfl) rfl rfl (Nat.le_of_ble_eq_true rfl) ?_
  refine m_fresh hG hu ?_
  refine wp_istore d168_284 (Nat.le_of_ble_eq_true rfl) rfl ?_
  refine wp_aload_n d168_286 rfl ?_
  refine wp_getR (q := 73) d168_287 rfl (hG.o (by decide) rfl) (by decide) (hG.r (by decide +kernel)) (by decide) ?_
  refine wz_bipush d168_290 (by decide) ?_
  refine wp_iload d168_292 rfl ?_
  refine wz_imul d168_294 ?_
  refine wp_aload_n d168_295 rfl ?_
  refine wp_getR (q := 82) d168_296 rfl (hG.o (by decide) rfl) (by decide) (hG.r (by decide +kernel)) (by decide) ?_
  refine wp_iload_n d168_299 rfl ?_
  refine wz_iald (z := 600) (v := bc) d168_300 (hG.a (by decide) rfl rfl) (by omega) (by omega) (by decide) (by simp [mset]; exact hb) ?_
  refine wz_iast (z := 18700) d168_301 (hG.a (by decide) rfl rfl) (by omega) (by omega) (by decide) ?_
  refine wz_iconst d168_302 ?_
  refine wp_istore d168_303 (Nat.le_of_ble_eq_true rfl) rfl ?_
  refine wp_aload_n d168_305 rfl ?_
  refine wp_getR (q := 82) d168_306 rfl (hG.o (by decide) rfl) (by decide) (hG.r (by decide +kernel)) (by decide) ?_
  refine wp_iload_n d168_309 rfl ?_
  refine wz_iald (z := 600) (v := bc) d168_310 (hG.a (by decide) rfl rfl) (by omega) (by omega) (by decide) (by simp [mset]; exact hb) ?_
  refine wz_iconst d168_311 ?_
  refine wz_icmp_ne (t := 355) d168_312 (by decide) (rb) (⟨by omega, by omega⟩) (fun _ => ?_) (fun hb => absurd hb (b2))
  refine wz_iconst d168_355 ?_
  refine wp_istore d168_356 (Nat.le_of_ble_eq_true rfl) rfl ?_
  rw [em]
  refine whole_copy hG hN1 (by omega) u0 (Int.le_refl _) u1 f0 m1 ts 0 [bc] hr1 (by omega) (Int.le_refl _) (fun c hc => by rw [List.mem_singleton] at hc; subst hc; exact rb) (by simp only [List.length_cons, List.length_nil]; omega) (fun hR => ?_)
  refine wp_aload_n d168_406 rfl ?_
  refine wp_iload_n d168_407 rfl ?_
  refine wp_iload d168_408 rfl ?_
  refine wz_iconst d168_410 ?_
  refine wp_virt (as := [.int (zI (0)), .int (zI (u)), .int (zI (g))]) (rest := []) d168_411 rfl rfl rfl (hG.o (by decide) rfl) rfl rfl (Nat.le_of_ble_eq_true rfl) ?_
  refine m_reach hG g0 g1 ?_
  exact wp_ret d168_414 rfl (h hR)
set_option maxRecDepth 20000 in
set_option maxHeartbeats 1000000 in
theorem whole_ball {u g f mn z W : Int} {o7 o8 o9 : Option Value} (hG : pm_G Rf K L n) (hu : N 56 22 = u) (u0 : 0 ≤ u) (u1 : u < 1100) (g0 : 0 ≤ g) (g1 : g < 600) (rW : R32 W) (eW : N 81 (7 * g) = W) {a p : Int} {A : Ty} {D : Nat} {ts : List Ty} (hN : ∀ p i, R32 (N p i)) (rz : R32 z) (hz : z ≤ 16) (hb : N 82 g = 2) (ea : N 81 (7 * g + 1) = a) (ep : N 81 (7 * g + 2) = p) (a0 : 0 ≤ a) (a1 : a < u) (p0 : 0 ≤ p) (p1 : p + 1 + (flat A).length ≤ 17) (hA : ok D A = true) (ra : Row N a (p + 1) (flat A)) (f0 : 0 ≤ f) (m1 : f + mn ≤ 600) (hr : RL N u f (ts.map okT)) (hmn : mn = ts.length) (hl : 1 + (flat A).length + (fla ts).length ≤ 17) (h : (∀ c ∈ (2 :: flat A) ++ fla ts, R32 c) → Q none (zM (mset (mset (mset (mput (mset N 56 22 (u + 1)) 73 (17 * u) ((2 :: flat A) ++ fla ts)) 84 g 1) 85 g u) 86 g 0), Rf, K, L, n, s)) : pm_Wp none (d + 3) 168 232 [some (.ref 56), some (.int (zI g)), some (.int (zI f)), some (.int (zI mn)), some (.int (zI 0)), some (.int (zI 0)), some (.int (zI z)), o7, o8, o9] [] (zM N, Rf, K, L, n, s) Q := by
  have hN1 : ∀ p i, R32 (mset N 56 22 (u + 1) p i) := mset_R32 hN ⟨by omega, by omega⟩
  have hr1 : RL (mset N 56 22 (u + 1)) u (f + 0) (ts.map okT) := by rw [Int.add_zero]; exact RL.same (fun p i hp => mset_p _ _ _ _ hp) hr
  have em : mset (mset N 56 22 (u + 1)) 73 (17 * u) 2 = mput (mset N 56 22 (u + 1)) 73 (17 * u) [2] := by
    have := mput_snoc (mset N 56 22 (u + 1)) 73 (17 * u) [] 2 (17 * u) (by simp)
    rwa [mput_nil] at this
  have r2 : ∀ c ∈ ([2] : List Int), R32 c := fun c hc => by rw [List.mem_singleton] at hc; subst hc; exact ⟨by decide, by decide⟩
  have hA2 := Row.R32 hN ra
  have r3 : ∀ c ∈ (2 :: flat A), R32 c := fun c hc => by
    rcases List.mem_cons.mp hc with rfl | hc
    · exact ⟨by decide, by decide⟩
    · exact hA2 c hc
  have q1 := mput_R32 (p := 73) (b := 17 * u) hN1 r2
  have q2 := mput_R32 (p := 73) (b := 17 * u) hN1 r3
  have ra1 : Row (mset N 56 22 (u + 1)) a (p + 1) (flat A) := Row.same (fun _ _ _ => mset_p _ _ _ _ (by decide)) ra
  have ra2 : Row (mput (mset N 56 22 (u + 1)) 73 (17 * u) [2]) a (p + 1) (flat A) := by
    have := mput_other (t := u) (b := 0) (l := [2]) (by omega) (by omega) p1 (by omega) (by simp) ra1
    rwa [Int.add_zero] at this
  have rn : Row (mput (mset N 56 22 (u + 1)) 73 (17 * u) (2 :: flat A)) u 1 (flat A) := by
    have := (mput_row (2 :: flat A) (mset N 56 22 (u + 1)) u 0).2
    rwa [Int.add_zero] at this
  refine wp_iload d168_232 rfl ?_
  refine wz_if_eq (t := 260) d168_234 (by decide) (⟨by omega, by omega⟩) (fun _ => ?_) (fun hb => absurd (by decide) hb)
  refine wp_iload d168_260 rfl ?_
  refine wz_if_ne (t := 272) d168_262 (by decide) (⟨by omega, by omega⟩) (fun hb => absurd (by decide) hb) (fun _ => ?_)
  refine wp_iload d168_265 rfl ?_
  refine wz_bipush d168_267 (by decide) ?_
  refine wz_icmp_le (t := 280) d168_269 (by decide) (rz) (⟨by omega, by omega⟩) (fun _ => ?_) (fun hb => absurd (by omega) hb)
  refine wp_aload_n d168_280 rfl ?_
  refine wp_virt (as := []) (rest := []) d168_281 rfl rfl rfl (hG.o (by decide) rfl) rfl rfl (Nat.le_of_ble_eq_true rfl) ?_
  refine m_fresh hG hu ?_
  refine wp_istore d168_284 (Nat.le_of_ble_eq_true rfl) rfl ?_
  refine wp_aload_n d168_286 rfl ?_
  refine wp_getR (q := 73) d168_287 rfl (hG.o (by decide) rfl) (by decide) (hG.r (by decide +kernel)) (by decide) ?_
  refine wz_bipush d168_290 (by decide) ?_
  refine wp_iload d168_292 rfl ?_
  refine wz_imul d168_294 ?_
  refine wp_aload_n d168_295 rfl ?_
  refine wp_getR (q := 82) d168_296 rfl (hG.o (by decide) rfl) (by decide) (hG.r (by decide +kernel)) (by decide) ?_
  refine wp_iload_n d168_299 rfl ?_
  refine wz_iald (z := 600) (v := 2) d168_300 (hG.a (by decide) rfl rfl) (by omega) (by omega) (by decide) (by simp [mset]; exact hb) ?_
  refine wz_iast (z := 18700) d168_301 (hG.a (by decide) rfl rfl) (by omega) (by omega) (by decide) ?_
  refine wz_iconst d168_302 ?_
  refine wp_istore d168_303 (Nat.le_of_ble_eq_true rfl) rfl ?_
  refine wp_aload_n d168_305 rfl ?_
  refine wp_getR (q := 82) d168_306 rfl (hG.o (by decide) rfl) (by decide) (hG.r (by decide +kernel)) (by decide) ?_
  refine wp_iload_n d168_309 rfl ?_
  refine wz_iald (z := 600) (v := 2) d168_310 (hG.a (by decide) rfl rfl) (by omega) (by omega) (by decide) (by simp [mset]; exact hb) ?_
  refine wz_iconst d168_311 ?_
  refine wz_icmp_ne (t := 355) d168_312 (by decide) (⟨by omega, by omega⟩) (⟨by omega, by omega⟩) (fun hb => absurd (by decide) hb) (fun _ => ?_)
  refine wp_aload_n d168_315 rfl ?_
  refine wp_aload_n d168_316 rfl ?_
  refine wp_getR (q := 81) d168_317 rfl (hG.o (by decide) rfl) (by decide) (hG.r (by decide +kernel)) (by decide) ?_
  refine wz_bipush d168_320 (by decide) ?_
  refine wp_iload_n d168_322 rfl ?_
  refine wz_imul d168_323 ?_
  refine wz_iconst d168_324 ?_
  refine wz_iadd d168_325 ?_
  refine wz_iald (z := 4200) (v := a) d168_326 (hG.a (by decide) rfl rfl) (by omega) (by omega) (by decide) (by simp [mset]; exact ea) ?_
  refine wp_aload_n d168_327 rfl ?_
  refine wp_getR (q := 81) d168_328 rfl (hG.o (by decide) rfl) (by decide) (hG.r (by decide +kernel)) (by decide) ?_
  refine wz_bipush d168_331 (by decide) ?_
  refine wp_iload_n d168_333 rfl ?_
  refine wz_imul d168_334 ?_
  refine wz_iconst d168_335 ?_
  refine wz_iadd d168_336 ?_
  refine wz_iald (z := 4200) (v := p) d168_337 (hG.a (by decide) rfl rfl) (by omega) (by omega) (by decide) (by simp [mset]; exact ep) ?_
  refine wz_iconst d168_338 ?_
  refine wz_iadd d168_339 ?_
  refine wp_iload d168_340 rfl ?_
  refine wz_iconst d168_342 ?_
  refine wp_virt (as := [.int (zI (1)), .int (zI (u)), .int (zI (p + 1)), .int (zI (a))]) (rest := []) d168_343 rfl rfl rfl (hG.o (by decide) rfl) rfl rfl (Nat.le_of_ble_eq_true rfl) ?_
  rw [em]; refine m_copy (l := flat A) hG q1 a0 (by omega) (by omega) p1 u0 u1 (by omega) (by omega) (by omega) ra2 (ok_pre A D hA) ?_
  rw [mput_app (mset N 56 22 (u + 1)) 73 (17 * u) [2] (flat A) (by simp)]
  rw [show [(2 : Int)] ++ flat A = 2 :: flat A from rfl]
  refine wp_aload_n d168_346 rfl ?_
  refine wp_iload d168_347 rfl ?_
  refine wz_iconst d168_349 ?_
  refine wp_virt (as := [.int (zI (1)), .int (zI (u))]) (rest := []) d168_350 rfl rfl rfl (hG.o (by decide) rfl) rfl rfl (Nat.le_of_ble_eq_true rfl) ?_
  refine m_end (l := flat A) hG q2 u0 u1 (by omega) (by omega) rn (ok_pre A D hA) ?_
  refine wp_istore d168_353 (Nat.le_of_ble_eq_true rfl) rfl ?_
  refine wz_iconst d168_355 ?_
  refine wp_istore d168_356 (Nat.le_of_ble_eq_true rfl) rfl ?_
  rw [show (1 : Int) + ((flat A).length : Int) = ((2 :: flat A).length : Int) by rw [List.length_cons]; omega]
  refine whole_copy hG hN1 (by omega) u0 (Int.le_refl _) u1 f0 m1 ts 0 (2 :: flat A) hr1 (by omega) (Int.le_refl _) r3 (by rw [List.length_cons]; omega) (fun hR => ?_)
  refine wp_aload_n d168_406 rfl ?_
  refine wp_iload_n d168_407 rfl ?_
  refine wp_iload d168_408 rfl ?_
  refine wz_iconst d168_410 ?_
  refine wp_virt (as := [.int (zI (0)), .int (zI (u)), .int (zI (g))]) (rest := []) d168_411 rfl rfl rfl (hG.o (by decide) rfl) rfl rfl (Nat.le_of_ble_eq_true rfl) ?_
  refine m_reach hG g0 g1 ?_
  exact wp_ret d168_414 rfl (h hR)
end PmM17
