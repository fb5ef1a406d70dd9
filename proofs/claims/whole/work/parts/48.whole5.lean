/-! THE MODEL: whole, as one. -/
section PmM18
variable {d : Nat} {Q : Option Value → pm_S → Prop} {M N : pm_M} {Rf : Nat → Nat → Nat} {K L : Nat → Nat} {n s : Nat}
theorem whole_mid {u g f mn W bc : Int} {rs : List Rs} {o8 o9 : Option Value} (hG : pm_G Rf K L n) (hN : ∀ p i, R32 (N p i)) (hu : N 56 22 = u) (u0 : 0 ≤ u) (u1 : u < 1100) (g0 : 0 ≤ g) (g1 : g < 600) (eW : N 81 (7 * g) = W) (hf : N 83 g = f) (f0 : 0 ≤ f) (hb2 : N 82 g = bc) (b2 : bc ≠ 2) (hr : RL N u f rs) (hmn : mn = rs.length) (h3 : rs.length ≤ 3) (m1 : f + mn ≤ 600) (hn : none ∈ rs → (W = 0 → Q none (zM (mset (mset (mset (mset (mset N 56 22 (u + 1)) 73 (17 * u) 0) 84 g 1) 85 g u) 86 g 0), Rf, K, L, n, s)) ∧ (¬ W = 0 → Q none (zM N, Rf, K, L, n, s))) (hl : none ∉ rs → (some none ∈ rs ∨ ∃ ts : List Ty, rs = ts.map okT ∧ 16 < (1 : Int) + (fla ts).length) → Q none (zM (mset N 84 g 2), Rf, K, L, n, s)) (hb : ∀ ts : List Ty, rs = ts.map okT → (1 : Int) + (fla ts).length ≤ 16 → (∀ c ∈ (bc :: fla ts), R32 c) → Q none (zM (mset (mset (mset (mput (mset N 56 22 (u + 1)) 73 (17 * u) ((bc :: fla ts))) 84 g 1) 85 g u) 86 g 0), Rf, K, L, n, s)) : pm_Wp none (d + 3) 168 117 [some (.ref 56), some (.int (zI g)), some (.int (zI f)), some (.int (zI mn)), some (.int (zI 0)), some (.int (zI 0)), some (.int (zI 1)), some (.int (zI 0)), o8, o9] [] (zM N, Rf, K, L, n, s) Q := by
  have rW : R32 W := by rw [← eW]; exact hN _ _
  have hz := wz_rng N u rs f (1) hr (by omega)
  refine whole_loop (u := u) hG hN (by omega) f0 m1 rs 0 0 0 (1) (by rw [Int.add_zero]; exact hr) (by omega) (Int.le_refl _) (Or.inl rfl) (Or.inl rfl) ?_
  rcases wn_cases rs with ⟨e1, m⟩ | ⟨e1, m⟩
  · rw [e1]
    exact whole_none hG hu u0 u1 g0 g1 rW eW (hn m).1 (hn m).2
  · rw [e1]
    rcases wl_cases rs m with ⟨e2, m2⟩ | ⟨e2, ts, ets⟩
    · rw [e2]
      exact whole_large hG hu u0 u1 g0 g1 rW eW (Or.inr rfl) ⟨by omega, by omega⟩ (Or.inl rfl) (hl m (Or.inl m2))
    · rw [e2]
      have es : wz (1) rs = (1 : Int) + (fla ts).length := by rw [ets]; exact wz_sum ts _
      by_cases h16 : (1 : Int) + (fla ts).length ≤ 16
      · have hr2 := hr
        rw [ets] at hr2
        exact whole_build hG hu u0 u1 g0 g1 rW eW hN ⟨by omega, by omega⟩ (by omega) hb2 b2 f0 m1 hr2 (by rw [hmn, ets, List.length_map]) (by omega) (hb ts ets h16)
      · exact whole_large hG hu u0 u1 g0 g1 rW eW (Or.inl rfl) ⟨by omega, by omega⟩ (Or.inr (by omega)) (hl m (Or.inr ⟨ts, ets, by omega⟩))
theorem whole_mida {u g f mn W a p : Int} {A : Ty} {D : Nat} {rs : List Rs} {o8 o9 : Option Value} (hG : pm_G Rf K L n) (hN : ∀ p i, R32 (N p i)) (hu : N 56 22 = u) (u0 : 0 ≤ u) (u1 : u < 1100) (g0 : 0 ≤ g) (g1 : g < 600) (eW : N 81 (7 * g) = W) (hf : N 83 g = f) (f0 : 0 ≤ f) (hb2 : N 82 g = 2) (ea : N 81 (7 * g + 1) = a) (ep : N 81 (7 * g + 2) = p) (a0 : 0 ≤ a) (a1 : a < u) (p0 : 0 ≤ p) (p1 : p + 1 + (flat A).length ≤ 17) (hA : ok D A = true) (ra : Row N a (p + 1) (flat A)) (hr : RL N u f rs) (hmn : mn = rs.length) (h3 : rs.length ≤ 3) (m1 : f + mn ≤ 600) (hn : none ∈ rs → (W = 0 → Q none (zM (mset (mset (mset (mset (mset N 56 22 (u + 1)) 73 (17 * u) 0) 84 g 1) 85 g u) 86 g 0), Rf, K, L, n, s)) ∧ (¬ W = 0 → Q none (zM N, Rf, K, L, n, s))) (hl : none ∉ rs → (some none ∈ rs ∨ ∃ ts : List Ty, rs = ts.map okT ∧ 16 < (1 + ((flat A).length : Int)) + (fla ts).length) → Q none (zM (mset N 84 g 2), Rf, K, L, n, s)) (hb : ∀ ts : List Ty, rs = ts.map okT → (1 + ((flat A).length : Int)) + (fla ts).length ≤ 16 → (∀ c ∈ ((2 :: flat A) ++ fla ts), R32 c) → Q none (zM (mset (mset (mset (mput (mset N 56 22 (u + 1)) 73 (17 * u) (((2 :: flat A) ++ fla ts))) 84 g 1) 85 g u) 86 g 0), Rf, K, L, n, s)) : pm_Wp none (d + 3) 168 117 [some (.ref 56), some (.int (zI g)), some (.int (zI f)), some (.int (zI mn)), some (.int (zI 0)), some (.int (zI 0)), some (.int (zI (1 + ((flat A).length : Int)))), some (.int (zI 0)), o8, o9] [] (zM N, Rf, K, L, n, s) Q := by
  have rW : R32 W := by rw [← eW]; exact hN _ _
  have hz := wz_rng N u rs f ((1 + ((flat A).length : Int))) hr (by omega)
  refine whole_loop (u := u) hG hN (by omega) f0 m1 rs 0 0 0 ((1 + ((flat A).length : Int))) (by rw [Int.add_zero]; exact hr) (by omega) (Int.le_refl _) (Or.inl rfl) (Or.inl rfl) ?_
  rcases wn_cases rs with ⟨e1, m⟩ | ⟨e1, m⟩
  · rw [e1]
    exact whole_none hG hu u0 u1 g0 g1 rW eW (hn m).1 (hn m).2
  · rw [e1]
    rcases wl_cases rs m with ⟨e2, m2⟩ | ⟨e2, ts, ets⟩
    · rw [e2]
      exact whole_large hG hu u0 u1 g0 g1 rW eW (Or.inr rfl) ⟨by omega, by omega⟩ (Or.inl rfl) (hl m (Or.inl m2))
    · rw [e2]
      have es : wz ((1 + ((flat A).length : Int))) rs = (1 + ((flat A).length : Int)) + (fla ts).length := by rw [ets]; exact wz_sum ts _
      by_cases h16 : (1 + ((flat A).length : Int)) + (fla ts).length ≤ 16
      · have hr2 := hr
        rw [ets] at hr2
        exact whole_ball hG hu u0 u1 g0 g1 rW eW hN ⟨by omega, by omega⟩ (by omega) hb2 ea ep a0 a1 p0 p1 hA ra f0 m1 hr2 (by rw [hmn, ets, List.length_map]) (by omega) (hb ts ets h16)
      · exact whole_large hG hu u0 u1 g0 g1 rW eW (Or.inl rfl) ⟨by omega, by omega⟩ (Or.inr (by omega)) (hl m (Or.inr ⟨ts, ets, by omega⟩))
set_option maxRecDepth 20000 in
theorem m_whole_fun {u g f W : Int} {rs : List Rs} (hG : pm_G Rf K L n) (hN : ∀ p i, R32 (N p i)) (hu : N 56 22 = u) (u0 : 0 ≤ u) (u1 : u < 1100) (g0 : 0 ≤ g) (g1 : g < 600) (eW : N 81 (7 * g) = W) (hf : N 83 g = f) (f0 : 0 ≤ f) (hb2 : N 82 g = 1) (hr : RL N u f rs) (h2 : rs.length = 2) (m1 : f + 2 ≤ 600) (hn : none ∈ rs → (W = 0 → Q none (zM (mset (mset (mset (mset (mset N 56 22 (u + 1)) 73 (17 * u) 0) 84 g 1) 85 g u) 86 g 0), Rf, K, L, n, s)) ∧ (¬ W = 0 → Q none (zM N, Rf, K, L, n, s))) (hl : none ∉ rs → (some none ∈ rs ∨ ∃ ts : List Ty, rs = ts.map okT ∧ 16 < (1 : Int) + (fla ts).length) → Q none (zM (mset N 84 g 2), Rf, K, L, n, s)) (hb : ∀ ts : List Ty, rs = ts.map okT → (1 : Int) + (fla ts).length ≤ 16 → (∀ c ∈ (1 :: fla ts), R32 c) → Q none (zM (mset (mset (mset (mput (mset N 56 22 (u + 1)) 73 (17 * u) ((1 :: fla ts))) 84 g 1) 85 g u) 86 g 0), Rf, K, L, n, s)) : pm_Wc (d + 4) 168 [.ref 56, .int (zI g)] (zM N, Rf, K, L, n, s) Q := by
  refine wc_in (ls0 := [some (.ref 56), some (.int (zI g)), none, none, none, none, none, none, none, none]) (by decide) (Nat.le_of_ble_eq_true rfl) rfl rfl ?_
  refine wp_aload_n d168_0 rfl ?_
  refine wp_getR (q := 83) d168_1 rfl (hG.o (by decide) rfl) (by decide) (hG.r (by decide +kernel)) (by decide) ?_
  refine wp_iload_n d168_4 rfl ?_
  refine wz_iald (z := 600) (v := f) d168_5 (hG.a (by decide) rfl rfl) (by omega) (by omega) (by decide) hf ?_
  refine wp_istore_n d168_6 (Nat.le_of_ble_eq_true rfl) rfl ?_
  refine wp_aload_n d168_7 rfl ?_
  refine wp_getR (q := 82) d168_8 rfl (hG.o (by decide) rfl) (by decide) (hG.r (by decide +kernel)) (by decide) ?_
  refine wp_iload_n d168_11 rfl ?_
  refine wz_iald (z := 600) (v := 1) d168_12 (hG.a (by decide) rfl rfl) (by omega) (by omega) (by decide) hb2 ?_
  refine wz_iconst d168_13 ?_
  refine wz_icmp_ne (t := 21) d168_14 (by decide) (⟨by omega, by omega⟩) (⟨by omega, by omega⟩) (fun hb => absurd (by decide) hb) (fun _ => ?_)
  refine wz_iconst d168_17 ?_
  refine wp_goto (t := 47) d168_18 (by decide) ?_
  refine wp_istore_n d168_47 (Nat.le_of_ble_eq_true rfl) rfl ?_
  refine wz_iconst d168_48 ?_
  refine wp_istore d168_49 (Nat.le_of_ble_eq_true rfl) rfl ?_
  refine wz_iconst d168_51 ?_
  refine wp_istore d168_52 (Nat.le_of_ble_eq_true rfl) rfl ?_
  refine wp_aload_n d168_54 rfl ?_
  refine wp_getR (q := 82) d168_55 rfl (hG.o (by decide) rfl) (by decide) (hG.r (by decide +kernel)) (by decide) ?_
  refine wp_iload_n d168_58 rfl ?_
  refine wz_iald (z := 600) (v := 1) d168_59 (hG.a (by decide) rfl rfl) (by omega) (by omega) (by decide) hb2 ?_
  refine wz_iconst d168_60 ?_
  refine wz_icmp_ne (t := 111) d168_61 (by decide) (⟨by omega, by omega⟩) (⟨by omega, by omega⟩) (fun _ => ?_) (fun hb => absurd hb (by decide))
  refine wz_iconst d168_111 ?_
  refine wp_istore d168_112 (Nat.le_of_ble_eq_true rfl) rfl ?_
  refine wz_iconst d168_114 ?_
  refine wp_istore d168_115 (Nat.le_of_ble_eq_true rfl) rfl ?_
  exact whole_mid hG hN hu u0 u1 g0 g1 eW hf f0 hb2 (by decide) hr (by omega) (by omega) (by omega) hn hl hb
set_option maxRecDepth 20000 in
theorem m_whole_rec {u g f W : Int} {ls : Nat} {rs : List Rs} (hG : pm_G Rf K L n) (hN : ∀ p i, R32 (N p i)) (hu : N 56 22 = u) (u0 : 0 ≤ u) (u1 : u < 1100) (g0 : 0 ≤ g) (g1 : g < 600) (eW : N 81 (7 * g) = W) (hf : N 83 g = f) (f0 : 0 ≤ f) (hls : ls < 8) (hb2 : N 82 g = ((8 + ls : Nat) : Int)) (hr : RL N u f rs) (h2 : rs.length = lab (ls : Int)) (h3 : rs.length ≤ 3) (m1 : f + 3 ≤ 600) (hn : none ∈ rs → (W = 0 → Q none (zM (mset (mset (mset (mset (mset N 56 22 (u + 1)) 73 (17 * u) 0) 84 g 1) 85 g u) 86 g 0), Rf, K, L, n, s)) ∧ (¬ W = 0 → Q none (zM N, Rf, K, L, n, s))) (hl : none ∉ rs → (some none ∈ rs ∨ ∃ ts : List Ty, rs = ts.map okT ∧ 16 < (1 : Int) + (fla ts).length) → Q none (zM (mset N 84 g 2), Rf, K, L, n, s)) (hb : ∀ ts : List Ty, rs = ts.map okT → (1 : Int) + (fla ts).length ≤ 16 → (∀ c ∈ (((8 + ls : Nat) : Int) :: fla ts), R32 c) → Q none (zM (mset (mset (mset (mput (mset N 56 22 (u + 1)) 73 (17 * u) ((((8 + ls : Nat) : Int) :: fla ts))) 84 g 1) 85 g u) 86 g 0), Rf, K, L, n, s)) : pm_Wc (d + 4) 168 [.ref 56, .int (zI g)] (zM N, Rf, K, L, n, s) Q := by
  refine wc_in (ls0 := [some (.ref 56), some (.int (zI g)), none, none, none, none, none, none, none, none]) (by decide) (Nat.le_of_ble_eq_true rfl) rfl rfl ?_
  refine wp_aload_n d168_0 rfl ?_
  refine wp_getR (q := 83) d168_1 rfl (hG.o (by decide) rfl) (by decide) (hG.r (by decide +kernel)) (by decide) ?_
  refine wp_iload_n d168_4 rfl ?_
  refine wz_iald (z := 600) (v := f) d168_5 (hG.a (by decide) rfl rfl) (by omega) (by omega) (by decide) hf ?_
  refine wp_istore_n d168_6 (Nat.le_of_ble_eq_true rfl) rfl ?_
  refine wp_aload_n d168_7 rfl ?_
  refine wp_getR (q := 82) d168_8 rfl (hG.o (by decide) rfl) (by decide) (hG.r (by decide +kernel)) (by decide) ?_
  refine wp_iload_n d168_11 rfl ?_
  refine wz_iald (z := 600) (v := ((8 + ls : Nat) : Int)) d168_12 (hG.a (by decide) rfl rfl) (by omega) (by omega) (by decide) hb2 ?_
  refine wz_iconst d168_13 ?_
  refine wz_icmp_ne (t := 21) d168_14 (by decide) (⟨by omega, by omega⟩) (⟨by omega, by omega⟩) (fun _ => ?_) (fun hb => absurd hb (by omega))
  refine wp_aload_n d168_21 rfl ?_
  refine wp_getR (q := 82) d168_22 rfl (hG.o (by decide) rfl) (by decide) (hG.r (by decide +kernel)) (by decide) ?_
  refine wp_iload_n d168_25 rfl ?_
  refine wz_iald (z := 600) (v := ((8 + ls : Nat) : Int)) d168_26 (hG.a (by decide) rfl rfl) (by omega) (by omega) (by decide) hb2 ?_
  refine wz_iconst d168_27 ?_
  refine wz_icmp_ne (t := 35) d168_28 (by decide) (⟨by omega, by omega⟩) (⟨by omega, by omega⟩) (fun _ => ?_) (fun hb => absurd hb (by omega))
  refine wp_aload_n d168_35 rfl ?_
  refine wp_getR (q := 82) d168_36 rfl (hG.o (by decide) rfl) (by decide) (hG.r (by decide +kernel)) (by decide) ?_
  refine wp_iload_n d168_39 rfl ?_
  refine wz_iald (z := 600) (v := ((8 + ls : Nat) : Int)) d168_40 (hG.a (by decide) rfl rfl) (by omega) (by omega) (by decide) hb2 ?_
  refine wz_bipush d168_41 (by decide) ?_
  refine wz_isub d168_43 ?_
  refine wp_stat (as := [.int (zI ((((8 + ls : Nat) : Int)) - 8))]) (rest := []) d168_44 rfl rfl rfl rfl rfl (Nat.le_of_ble_eq_true rfl) ?_
  rw [show ((8 + ls : Nat) : Int) - 8 = (ls : Int) by omega]; refine m_labels (by omega) (by omega) ?_
  refine wp_istore_n d168_47 (Nat.le_of_ble_eq_true rfl) rfl ?_
  refine wz_iconst d168_48 ?_
  refine wp_istore d168_49 (Nat.le_of_ble_eq_true rfl) rfl ?_
  refine wz_iconst d168_51 ?_
  refine wp_istore d168_52 (Nat.le_of_ble_eq_true rfl) rfl ?_
  refine wp_aload_n d168_54 rfl ?_
  refine wp_getR (q := 82) d168_55 rfl (hG.o (by decide) rfl) (by decide) (hG.r (by decide +kernel)) (by decide) ?_
  refine wp_iload_n d168_58 rfl ?_
  refine wz_iald (z := 600) (v := ((8 + ls : Nat) : Int)) d168_59 (hG.a (by decide) rfl rfl) (by omega) (by omega) (by decide) hb2 ?_
  refine wz_iconst d168_60 ?_
  refine wz_icmp_ne (t := 111) d168_61 (by decide) (⟨by omega, by omega⟩) (⟨by omega, by omega⟩) (fun _ => ?_) (fun hb => absurd hb (by omega))
  refine wz_iconst d168_111 ?_
  refine wp_istore d168_112 (Nat.le_of_ble_eq_true rfl) rfl ?_
  refine wz_iconst d168_114 ?_
  refine wp_istore d168_115 (Nat.le_of_ble_eq_true rfl) rfl ?_
  exact whole_mid hG hN hu u0 u1 g0 g1 eW hf f0 hb2 (by omega) hr (by omega) h3 (by omega) hn hl hb
set_option maxRecDepth 20000 in
theorem m_whole_all {u g f W a p : Int} {A : Ty} {D : Nat} {rs : List Rs} (hG : pm_G Rf K L n) (hN : ∀ p i, R32 (N p i)) (hu : N 56 22 = u) (u0 : 0 ≤ u) (u1 : u < 1100) (g0 : 0 ≤ g) (g1 : g < 600) (eW : N 81 (7 * g) = W) (hf : N 83 g = f) (f0 : 0 ≤ f) (hb2 : N 82 g = 2) (ea : N 81 (7 * g + 1) = a) (ep : N 81 (7 * g + 2) = p) (a0 : 0 ≤ a) (a1 : a < u) (p0 : 0 ≤ p) (p1 : p + 1 + (flat A).length ≤ 17) (hA : ok D A = true) (ra : Row N a (p + 1) (flat A)) (hr : RL N u f rs) (h2 : rs.length = 1) (m1 : f + 1 ≤ 600) (hn : none ∈ rs → (W = 0 → Q none (zM (mset (mset (mset (mset (mset N 56 22 (u + 1)) 73 (17 * u) 0) 84 g 1) 85 g u) 86 g 0), Rf, K, L, n, s)) ∧ (¬ W = 0 → Q none (zM N, Rf, K, L, n, s))) (hl : none ∉ rs → (some none ∈ rs ∨ ∃ ts : List Ty, rs = ts.map okT ∧ 16 < (1 + ((flat A).length : Int)) + (fla ts).length) → Q none (zM (mset N 84 g 2), Rf, K, L, n, s)) (hb : ∀ ts : List Ty, rs = ts.map okT → (1 + ((flat A).length : Int)) + (fla ts).length ≤ 16 → (∀ c ∈ ((2 :: flat A) ++ fla ts), R32 c) → Q none (zM (mset (mset (mset (mput (mset N 56 22 (u + 1)) 73 (17 * u) (((2 :: flat A) ++ fla ts))) 84 g 1) 85 g u) 86 g 0), Rf, K, L, n, s)) : pm_Wc (d + 4) 168 [.ref 56, .int (zI g)] (zM N, Rf, K, L, n, s) Q := by
  refine wc_in (ls0 := [some (.ref 56), some (.int (zI g)), none, none, none, none, none, none, none, none]) (by decide) (Nat.le_of_ble_eq_true rfl) rfl rfl ?_
  refine wp_aload_n d168_0 rfl ?_
  refine wp_getR (q := 83) d168_1 rfl (hG.o (by decide) rfl) (by decide) (hG.r (by decide +kernel)) (by decide) ?_
  refine wp_iload_n d168_4 rfl ?_
  refine wz_iald (z := 600) (v := f) d168_5 (hG.a (by decide) rfl rfl) (by omega) (by omega) (by decide) hf ?_
  refine wp_istore_n d168_6 (Nat.le_of_ble_eq_true rfl) rfl ?_
  refine wp_aload_n d168_7 rfl ?_
  refine wp_getR (q := 82) d168_8 rfl (hG.o (by decide) rfl) (by decide) (hG.r (by decide +kernel)) (by decide) ?_
  refine wp_iload_n d168_11 rfl ?_
  refine wz_iald (z := 600) (v := 2) d168_12 (hG.a (by decide) rfl rfl) (by omega) (by omega) (by decide) hb2 ?_
  refine wz_iconst d168_13 ?_
  refine wz_icmp_ne (t := 21) d168_14 (by decide) (⟨by omega, by omega⟩) (⟨by omega, by omega⟩) (fun _ => ?_) (fun hb => absurd hb (by decide))
  refine wp_aload_n d168_21 rfl ?_
  refine wp_getR (q := 82) d168_22 rfl (hG.o (by decide) rfl) (by decide) (hG.r (by decide +kernel)) (by decide) ?_
  refine wp_iload_n d168_25 rfl ?_
  refine wz_iald (z := 600) (v := 2) d168_26 (hG.a (by decide) rfl rfl) (by omega) (by omega) (by decide) hb2 ?_
  refine wz_iconst d168_27 ?_
  refine wz_icmp_ne (t := 35) d168_28 (by decide) (⟨by omega, by omega⟩) (⟨by omega, by omega⟩) (fun hb => absurd (by decide) hb) (fun _ => ?_)
  refine wz_iconst d168_31 ?_
  refine wp_goto (t := 47) d168_32 (by decide) ?_
  refine wp_istore_n d168_47 (Nat.le_of_ble_eq_true rfl) rfl ?_
  refine wz_iconst d168_48 ?_
  refine wp_istore d168_49 (Nat.le_of_ble_eq_true rfl) rfl ?_
  refine wz_iconst d168_51 ?_
  refine wp_istore d168_52 (Nat.le_of_ble_eq_true rfl) rfl ?_
  refine wp_aload_n d168_54 rfl ?_
  refine wp_getR (q := 82) d168_55 rfl (hG.o (by decide) rfl) (by decide) (hG.r (by decide +kernel)) (by decide) ?_
  refine wp_iload_n d168_58 rfl ?_
  refine wz_iald (z := 600) (v := 2) d168_59 (hG.a (by decide) rfl rfl) (by omega) (by omega) (by decide) hb2 ?_
  refine wz_iconst d168_60 ?_
  refine wz_icmp_ne (t := 111) d168_61 (by decide) (⟨by omega, by omega⟩) (⟨by omega, by omega⟩) (fun hb => absurd (by decide) hb) (fun _ => ?_)
  refine wz_iconst d168_64 ?_
  refine wp_aload_n d168_65 rfl ?_
  refine wp_aload_n d168_66 rfl ?_
  refine wp_getR (q := 81) d168_67 rfl (hG.o (by decide) rfl) (by decide) (hG.r (by decide +kernel)) (by decide) ?_
  refine wz_bipush d168_70 (by decide) ?_
  refine wp_iload_n d168_72 rfl ?_
  refine wz_imul d168_73 ?_
  refine wz_iconst d168_74 ?_
  refine wz_iadd d168_75 ?_
  refine wz_iald (z := 4200) (v := a) d168_76 (hG.a (by decide) rfl rfl) (by omega) (by omega) (by decide) ea ?_
  refine wp_aload_n d168_77 rfl ?_
  refine wp_getR (q := 81) d168_78 rfl (hG.o (by decide) rfl) (by decide) (hG.r (by decide +kernel)) (by decide) ?_
  refine wz_bipush d168_81 (by decide) ?_
  refine wp_iload_n d168_83 rfl ?_
  refine wz_imul d168_84 ?_
  refine wz_iconst d168_85 ?_
  refine wz_iadd d168_86 ?_
  refine wz_iald (z := 4200) (v := p) d168_87 (hG.a (by decide) rfl rfl) (by omega) (by omega) (by decide) ep ?_
  refine wz_iconst d168_88 ?_
  refine wz_iadd d168_89 ?_
  refine wp_virt (as := [.int (zI (p + 1)), .int (zI (a))]) (rest := [.int (zI (1))]) d168_90 rfl rfl rfl (hG.o (by decide) rfl) rfl rfl (Nat.le_of_ble_eq_true rfl) ?_
  refine m_end (l := flat A) hG hN a0 (by omega) (by omega) p1 ra (ok_pre A D hA) ?_
  refine wz_iadd d168_93 ?_
  refine wp_aload_n d168_94 rfl ?_
  refine wp_getR (q := 81) d168_95 rfl (hG.o (by decide) rfl) (by decide) (hG.r (by decide +kernel)) (by decide) ?_
  refine wz_bipush d168_98 (by decide) ?_
  refine wp_iload_n d168_100 rfl ?_
  refine wz_imul d168_101 ?_
  refine wz_iconst d168_102 ?_
  refine wz_iadd d168_103 ?_
  refine wz_iald (z := 4200) (v := p) d168_104 (hG.a (by decide) rfl rfl) (by omega) (by omega) (by decide) ep ?_
  refine wz_isub d168_105 ?_
  refine wz_iconst d168_106 ?_
  refine wz_isub d168_107 ?_
  refine wp_goto (t := 112) d168_108 (by decide) ?_
  refine wp_istore d168_112 (Nat.le_of_ble_eq_true rfl) rfl ?_
  refine wz_iconst d168_114 ?_
  refine wp_istore d168_115 (Nat.le_of_ble_eq_true rfl) rfl ?_
  rw [show 1 + (p + 1 + ((flat A).length : Int)) - p - 1 = 1 + ((flat A).length : Int) by omega]
  exact whole_mida hG hN hu u0 u1 g0 g1 eW hf f0 hb2 ea ep a0 a1 p0 p1 hA ra hr (by omega) (by omega) (by omega) hn hl hb
end PmM18
