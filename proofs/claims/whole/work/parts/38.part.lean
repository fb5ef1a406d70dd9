/-! THE MODEL: part, until both types were held against one another. -/
/-- what under leaves -/
def UK (M N : pm_M) (u x : Int) : Prop := Ext M N u x 0 ∧ (∀ p i, R32 (N p i)) ∧ N 56 22 = u ∧ N 56 24 = x
theorem UK.trans {M N O : pm_M} {u x : Int} (h : UK M N u x) (h' : UK N O u x) : UK M O u x := ⟨h.1.trans h'.1 (Int.le_refl _) (Int.le_refl _) (Int.le_refl _), h'.2⟩
section PmM9
variable {d : Nat} {Q : Option Value → pm_S → Prop} {M N : pm_M} {Rf : Nat → Nat → Nat} {K L : Nat → Nat} {n s : Nat}
theorem m_under2 {u x a p b q c : Int} {Γ : List Ty} {S T : Ty} (hG : pm_G Rf K L n) (hM : ∀ p i, R32 (M p i)) (hu : M 56 22 = u) (hx : M 56 24 = x) (t : TH M u x a p b q c (Γ.length : Int) (Γ, S, T)) (x0 : 0 ≤ x) (w0 : Γ.length + trx (Γ, S, T) ≤ 1990) (w1 : u + ((trx (Γ, S, T) : Nat) : Int) < 1100) (w2 : x + ((trx (Γ, S, T) : Nat) : Int) < 900) (w3 : 2 * (hgt (oh Γ) S + hgt (oh Γ) T) + 3 ≤ 300) (h1 : bel Γ S T = true → ∀ N' : pm_M, UK M N' u x → Q (some (.int (zI 1))) (zM N', Rf, K, L, n, s)) (h0 : ¬ bel Γ S T = true → ∀ N' : pm_M, UK M N' u x → Q (some (.int (zI 0))) (zM N', Rf, K, L, n, s)) : pm_Wc (d + 7) 161 [.ref 56, .int (zI a), .int (zI p), .int (zI b), .int (zI q), .int (zI c), .int (zI (Γ.length : Int))] (zM M, Rf, K, L, n, s) Q := by
  refine m_under hG hM hu hx t x0 w0 w1 w2 (Nat.le_trans (sn_h _ t.ok) w3) (fun N' e1 e2 e3 e4 => ?_)
  by_cases hb : bel Γ S T = true
  · rw [if_pos hb]; exact h1 hb N' ⟨e1, e2, e3, e4⟩
  · rw [if_neg hb]; exact h0 hb N' ⟨e1, e2, e3, e4⟩
theorem TH.swap {u x a p b q c D : Int} {Γ : List Ty} {S T : Ty} (t : TH M u x a p b q c D (Γ, S, T)) : TH M u x b q a p c D (Γ, T, S) := ⟨t.b0, t.b1, t.q0, t.q1, t.rb, t.a0, t.a1, t.p0, t.p1, t.ra, t.hc, t.hD, t.ok.1, t.ok.2.2, t.ok.2.1⟩
set_option maxRecDepth 20000 in
set_option maxHeartbeats 1000000 in
theorem part_2 {u x g a p b q c : Int} {Γ : List Ty} {S T : Ty} (hG : pm_G Rf K L n) (hM : ∀ p i, R32 (N p i)) (hu : N 56 22 = u) (hx : N 56 24 = x) (g0 : 0 ≤ g) (g1 : g < 600) (e0 : N 81 (7 * g) = 2) (e1 : N 81 (7 * g + 1) = a) (e2 : N 81 (7 * g + 2) = p) (e3 : N 81 (7 * g + 3) = b) (e4 : N 81 (7 * g + 4) = q) (e5 : N 81 (7 * g + 5) = c) (e6 : N 81 (7 * g + 6) = (Γ.length : Int)) (t : TH N u x a p b q c (Γ.length : Int) (Γ, S, T)) (h : Q none (zM (mset (mset (mset N 84 g 1) 85 g a) 86 g p), Rf, K, L, n, s)) : pm_Wc (d + 8) 166 [.ref 56, .int (zI g)] (zM N, Rf, K, L, n, s) Q := by
  refine wc_in (ls0 := [some (.ref 56), some (.int (zI g)), none, none, none, none, none, none, none, none, none, none, none, none]) (by decide) (Nat.le_of_ble_eq_true rfl) rfl rfl ?_
  refine wz_bipush d166_0 (by decide) ?_
  refine wp_iload_n d166_2 rfl ?_
  refine wz_imul d166_3 ?_
  refine wp_istore_n d166_4 (Nat.le_of_ble_eq_true rfl) rfl ?_
  refine wp_aload_n d166_5 rfl ?_
  refine wp_getR (q := 81) d166_6 rfl (hG.o (by decide) rfl) (by decide) (hG.r (by decide +kernel)) (by decide) ?_
  refine wp_iload_n d166_9 rfl ?_
  refine wz_iald (z := 4200) (v := 2) d166_10 (hG.a (by decide) rfl rfl) (by omega) (by omega) (by decide) e0 ?_
  refine wp_istore_n d166_11 (Nat.le_of_ble_eq_true rfl) rfl ?_
  refine wp_aload_n d166_12 rfl ?_
  refine wp_getR (q := 81) d166_13 rfl (hG.o (by decide) rfl) (by decide) (hG.r (by decide +kernel)) (by decide) ?_
  refine wp_iload_n d166_16 rfl ?_
  refine wz_iconst d166_17 ?_
  refine wz_iadd d166_18 ?_
  refine wz_iald (z := 4200) (v := a) d166_19 (hG.a (by decide) rfl rfl) (by omega) (by omega) (by decide) e1 ?_
  refine wp_istore d166_20 (Nat.le_of_ble_eq_true rfl) rfl ?_
  refine wp_aload_n d166_22 rfl ?_
  refine wp_getR (q := 81) d166_23 rfl (hG.o (by decide) rfl) (by decide) (hG.r (by decide +kernel)) (by decide) ?_
  refine wp_iload_n d166_26 rfl ?_
  refine wz_iconst d166_27 ?_
  refine wz_iadd d166_28 ?_
  refine wz_iald (z := 4200) (v := p) d166_29 (hG.a (by decide) rfl rfl) (by omega) (by omega) (by decide) e2 ?_
  refine wp_istore d166_30 (Nat.le_of_ble_eq_true rfl) rfl ?_
  refine wp_aload_n d166_32 rfl ?_
  refine wp_getR (q := 81) d166_33 rfl (hG.o (by decide) rfl) (by decide) (hG.r (by decide +kernel)) (by decide) ?_
  refine wp_iload_n d166_36 rfl ?_
  refine wz_iconst d166_37 ?_
  refine wz_iadd d166_38 ?_
  refine wz_iald (z := 4200) (v := b) d166_39 (hG.a (by decide) rfl rfl) (by omega) (by omega) (by decide) e3 ?_
  refine wp_istore d166_40 (Nat.le_of_ble_eq_true rfl) rfl ?_
  refine wp_aload_n d166_42 rfl ?_
  refine wp_getR (q := 81) d166_43 rfl (hG.o (by decide) rfl) (by decide) (hG.r (by decide +kernel)) (by decide) ?_
  refine wp_iload_n d166_46 rfl ?_
  refine wz_iconst d166_47 ?_
  refine wz_iadd d166_48 ?_
  refine wz_iald (z := 4200) (v := q) d166_49 (hG.a (by decide) rfl rfl) (by omega) (by omega) (by decide) e4 ?_
  refine wp_istore d166_50 (Nat.le_of_ble_eq_true rfl) rfl ?_
  refine wp_aload_n d166_52 rfl ?_
  refine wp_getR (q := 81) d166_53 rfl (hG.o (by decide) rfl) (by decide) (hG.r (by decide +kernel)) (by decide) ?_
  refine wp_iload_n d166_56 rfl ?_
  refine wz_iconst d166_57 ?_
  refine wz_iadd d166_58 ?_
  refine wz_iald (z := 4200) (v := c) d166_59 (hG.a (by decide) rfl rfl) (by omega) (by omega) (by decide) e5 ?_
  refine wp_istore d166_60 (Nat.le_of_ble_eq_true rfl) rfl ?_
  refine wp_aload_n d166_62 rfl ?_
  refine wp_getR (q := 81) d166_63 rfl (hG.o (by decide) rfl) (by decide) (hG.r (by decide +kernel)) (by decide) ?_
  refine wp_iload_n d166_66 rfl ?_
  refine wz_bipush d166_67 (by decide) ?_
  refine wz_iadd d166_69 ?_
  refine wz_iald (z := 4200) (v := (Γ.length : Int)) d166_70 (hG.a (by decide) rfl rfl) (by omega) (by omega) (by decide) e6 ?_
  refine wp_istore d166_71 (Nat.le_of_ble_eq_true rfl) rfl ?_
  refine wp_iload_n d166_73 rfl ?_
  refine wz_iconst d166_74 ?_
  refine wz_icmp_eq (t := 97) d166_75 (by decide) (⟨by omega, by omega⟩) (⟨by omega, by omega⟩) (fun _ => ?_) (fun hb => absurd (by decide) hb)
  refine wz_iconst d166_97 ?_
  refine wp_goto (t := 102) d166_98 (by decide) ?_
  refine wp_istore d166_102 (Nat.le_of_ble_eq_true rfl) rfl ?_
  refine wp_iload d166_104 rfl ?_
  refine wz_if_ne (t := 128) d166_106 (by decide) (⟨by omega, by omega⟩) (fun _ => ?_) (fun hb => absurd hb (by decide))
  refine wp_iload_n d166_128 rfl ?_
  refine wz_if_ne (t := 137) d166_129 (by decide) (⟨by omega, by omega⟩) (fun _ => ?_) (fun hb => absurd hb (by decide))
  refine wp_iload_n d166_137 rfl ?_
  refine wz_iconst d166_138 ?_
  refine wz_icmp_ne (t := 151) d166_139 (by decide) (⟨by omega, by omega⟩) (⟨by omega, by omega⟩) (fun _ => ?_) (fun hb => absurd hb (by decide))
  refine wz_iconst d166_151 ?_
  refine wp_istore d166_152 (Nat.le_of_ble_eq_true rfl) rfl ?_
  refine wp_aload_n d166_154 rfl ?_
  refine wp_iload_n d166_155 rfl ?_
  refine wp_iload d166_156 rfl ?_
  refine wz_if_eq (t := 166) d166_158 (by decide) (⟨by omega, by omega⟩) (fun _ => ?_) (fun hb => absurd (by decide) hb)
  refine wp_iload d166_166 rfl ?_
  refine wp_iload d166_168 rfl ?_
  refine wz_if_eq (t := 178) d166_170 (by decide) (⟨by omega, by omega⟩) (fun _ => ?_) (fun hb => absurd (by decide) hb)
  refine wp_iload d166_178 rfl ?_
  refine wp_virt (as := [.int (zI (p)), .int (zI (a)), .int (zI (g))]) (rest := []) d166_180 rfl rfl rfl (hG.o (by decide) rfl) rfl rfl (Nat.le_of_ble_eq_true rfl) ?_
  refine m_reach hG g0 g1 ?_
  exact wp_ret d166_183 rfl h
set_option maxRecDepth 20000 in
set_option maxHeartbeats 1000000 in
theorem part_0 {u x g a p b q c : Int} {Γ : List Ty} {S T : Ty} (hG : pm_G Rf K L n) (hM : ∀ p i, R32 (N p i)) (hu : N 56 22 = u) (hx : N 56 24 = x) (g0 : 0 ≤ g) (g1 : g < 600) (e0 : N 81 (7 * g) = 0) (e1 : N 81 (7 * g + 1) = a) (e2 : N 81 (7 * g + 2) = p) (e3 : N 81 (7 * g + 3) = b) (e4 : N 81 (7 * g + 4) = q) (e5 : N 81 (7 * g + 5) = c) (e6 : N 81 (7 * g + 6) = (Γ.length : Int)) (t : TH N u x a p b q c (Γ.length : Int) (Γ, S, T)) (x0 : 0 ≤ x) (w0 : Γ.length + tru (Γ, S, T) ≤ 1990) (w1 : u + ((tru (Γ, S, T) : Nat) : Int) < 1100) (w2 : x + ((tru (Γ, S, T) : Nat) : Int) < 900) (w3 : 2 * (hgt (oh Γ) S + hgt (oh Γ) T) + 3 ≤ 300) (hA : bel Γ S T = true → ∀ N1, UK N N1 u x → Q none (zM (mset (mset (mset N1 84 g 1) 85 g b) 86 g q), Rf, K, L, n, s)) (hB : ¬ bel Γ S T = true → bel Γ T S = true → ∀ N1, UK N N1 u x → Q none (zM (mset (mset (mset N1 84 g 1) 85 g a) 86 g p), Rf, K, L, n, s)) (hC : ¬ bel Γ S T = true → ¬ bel Γ T S = true → ∀ N1, UK N N1 u x → pm_Wp none (d + 7) 166 184 [some (.ref 56), some (.int (zI g)), some (.int (zI (7 * g))), some (.int (zI 0)), some (.int (zI a)), some (.int (zI p)), some (.int (zI b)), some (.int (zI q)), some (.int (zI c)), some (.int (zI (Γ.length : Int))), some (.int (zI 0)), none, none, none] [] (zM N1, Rf, K, L, n, s) Q) : pm_Wc (d + 8) 166 [.ref 56, .int (zI g)] (zM N, Rf, K, L, n, s) Q := by
  refine wc_in (ls0 := [some (.ref 56), some (.int (zI g)), none, none, none, none, none, none, none, none, none, none, none, none]) (by decide) (Nat.le_of_ble_eq_true rfl) rfl rfl ?_
  refine wz_bipush d166_0 (by decide) ?_
  refine wp_iload_n d166_2 rfl ?_
  refine wz_imul d166_3 ?_
  refine wp_istore_n d166_4 (Nat.le_of_ble_eq_true rfl) rfl ?_
  refine wp_aload_n d166_5 rfl ?_
  refine wp_getR (q := 81) d166_6 rfl (hG.o (by decide) rfl) (by decide) (hG.r (by decide +kernel)) (by decide) ?_
  refine wp_iload_n d166_9 rfl ?_
  refine wz_iald (z := 4200) (v := 0) d166_10 (hG.a (by decide) rfl rfl) (by omega) (by omega) (by decide) e0 ?_
  refine wp_istore_n d166_11 (Nat.le_of_ble_eq_true rfl) rfl ?_
  refine wp_aload_n d166_12 rfl ?_
  refine wp_getR (q := 81) d166_13 rfl (hG.o (by decide) rfl) (by decide) (hG.r (by decide +kernel)) (by decide) ?_
  refine wp_iload_n d166_16 rfl ?_
  refine wz_iconst d166_17 ?_
  refine wz_iadd d166_18 ?_
  refine wz_iald (z := 4200) (v := a) d166_19 (hG.a (by decide) rfl rfl) (by omega) (by omega) (by decide) e1 ?_
  refine wp_istore d166_20 (Nat.le_of_ble_eq_true rfl) rfl ?_
  refine wp_aload_n d166_22 rfl ?_
  refine wp_getR (q := 81) d166_23 rfl (hG.o (by decide) rfl) (by decide) (hG.r (by decide +kernel)) (by decide) ?_
  refine wp_iload_n d166_26 rfl ?_
  refine wz_iconst d166_27 ?_
  refine wz_iadd d166_28 ?_
  refine wz_iald (z := 4200) (v := p) d166_29 (hG.a (by decide) rfl rfl) (by omega) (by omega) (by decide) e2 ?_
  refine wp_istore d166_30 (Nat.le_of_ble_eq_true rfl) rfl ?_
  refine wp_aload_n d166_32 rfl ?_
  refine wp_getR (q := 81) d166_33 rfl (hG.o (by decide) rfl) (by decide) (hG.r (by decide +kernel)) (by decide) ?_
  refine wp_iload_n d166_36 rfl ?_
  refine wz_iconst d166_37 ?_
  refine wz_iadd d166_38 ?_
  refine wz_iald (z := 4200) (v := b) d166_39 (hG.a (by decide) rfl rfl) (by omega) (by omega) (by decide) e3 ?_
  refine wp_istore d166_40 (Nat.le_of_ble_eq_true rfl) rfl ?_
  refine wp_aload_n d166_42 rfl ?_
  refine wp_getR (q := 81) d166_43 rfl (hG.o (by decide) rfl) (by decide) (hG.r (by decide +kernel)) (by decide) ?_
  refine wp_iload_n d166_46 rfl ?_
  refine wz_iconst d166_47 ?_
  refine wz_iadd d166_48 ?_
  refine wz_iald (z := 4200) (v := q) d166_49 (hG.a (by decide) rfl rfl) (by omega) (by omega) (by decide) e4 ?_
  refine wp_istore d166_50 (Nat.le_of_ble_eq_true rfl) rfl ?_
  refine wp_aload_n d166_52 rfl ?_
  refine wp_getR (q := 81) d166_53 rfl (hG.o (by decide) rfl) (by decide) (hG.r (by decide +kernel)) (by decide) ?_
  refine wp_iload_n d166_56 rfl ?_
  refine wz_iconst d166_57 ?_
  refine wz_iadd d166_58 ?_
  refine wz_iald (z := 4200) (v := c) d166_59 (hG.a (by decide) rfl rfl) (by omega) (by omega) (by decide) e5 ?_
  refine wp_istore d166_60 (Nat.le_of_ble_eq_true rfl) rfl ?_
  refine wp_aload_n d166_62 rfl ?_
  refine wp_getR (q := 81) d166_63 rfl (hG.o (by decide) rfl) (by decide) (hG.r (by decide +kernel)) (by decide) ?_
  refine wp_iload_n d166_66 rfl ?_
  refine wz_bipush d166_67 (by decide) ?_
  refine wz_iadd d166_69 ?_
  refine wz_iald (z := 4200) (v := (Γ.length : Int)) d166_70 (hG.a (by decide) rfl rfl) (by omega) (by omega) (by decide) e6 ?_
  refine wp_istore d166_71 (Nat.le_of_ble_eq_true rfl) rfl ?_
  refine wp_iload_n d166_73 rfl ?_
  refine wz_iconst d166_74 ?_
  refine wz_icmp_eq (t := 97) d166_75 (by decide) (⟨by omega, by omega⟩) (⟨by omega, by omega⟩) (fun hb => absurd hb (by decide)) (fun _ => ?_)
  refine wp_aload_n d166_78 rfl ?_
  refine wp_iload d166_79 rfl ?_
  refine wp_iload d166_81 rfl ?_
  refine wp_iload d166_83 rfl ?_
  refine wp_iload d166_85 rfl ?_
  refine wp_iload d166_87 rfl ?_
  refine wp_iload d166_89 rfl ?_
  refine wp_virt (as := [.int (zI ((Γ.length : Int))), .int (zI (c)), .int (zI (q)), .int (zI (b)), .int (zI (p)), .int (zI (a))]) (rest := []) d166_91 rfl rfl rfl (hG.o (by decide) rfl) rfl rfl (Nat.le_of_ble_eq_true rfl) ?_
  have v1 := tru_1 Γ S T
  have v2 := tru_2 Γ S T
  refine m_under2 hG hM hu hx t x0 (by omega) (by omega) (by omega) w3 (fun hB1 N1 k1 => ?_) (fun hB1 N1 k1 => ?_)
  · skip
    refine wz_if_eq (t := 101) d166_94 (by decide) (⟨by omega, by omega⟩) (fun hb => absurd hb (by decide)) (fun _ => ?_)
    refine wz_iconst d166_97 ?_
    refine wp_goto (t := 102) d166_98 (by decide) ?_
    refine wp_istore d166_102 (Nat.le_of_ble_eq_true rfl) rfl ?_
    refine wp_iload d166_104 rfl ?_
    refine wz_if_ne (t := 128) d166_106 (by decide) (⟨by omega, by omega⟩) (fun _ => ?_) (fun hb => absurd hb (by decide))
    refine wp_iload_n d166_128 rfl ?_
    refine wz_if_ne (t := 137) d166_129 (by decide) (⟨by omega, by omega⟩) (fun hb => absurd (by decide) hb) (fun _ => ?_)
    refine wp_iload d166_132 rfl ?_
    refine wz_if_ne (t := 147) d166_134 (by decide) (⟨by omega, by omega⟩) (fun _ => ?_) (fun hb => absurd hb (by decide))
    refine wz_iconst d166_147 ?_
    refine wp_goto (t := 152) d166_148 (by decide) ?_
    refine wp_istore d166_152 (Nat.le_of_ble_eq_true rfl) rfl ?_
    refine wp_aload_n d166_154 rfl ?_
    refine wp_iload_n d166_155 rfl ?_
    refine wp_iload d166_156 rfl ?_
    refine wz_if_eq (t := 166) d166_158 (by decide) (⟨by omega, by omega⟩) (fun hb => absurd hb (by decide)) (fun _ => ?_)
    refine wp_iload d166_161 rfl ?_
    refine wp_goto (t := 168) d166_163 (by decide) ?_
    refine wp_iload d166_168 rfl ?_
    refine wz_if_eq (t := 178) d166_170 (by decide) (⟨by omega, by omega⟩) (fun hb => absurd hb (by decide)) (fun _ => ?_)
    refine wp_iload d166_173 rfl ?_
    refine wp_goto (t := 180) d166_175 (by decide) ?_
    refine wp_virt (as := [.int (zI (q)), .int (zI (b)), .int (zI (g))]) (rest := []) d166_180 rfl rfl rfl (hG.o (by decide) rfl) rfl rfl (Nat.le_of_ble_eq_true rfl) ?_
    refine m_reach hG g0 g1 ?_
    exact wp_ret d166_183 rfl (hA hB1 N1 k1)
  · skip
    refine wz_if_eq (t := 101) d166_94 (by decide) (⟨by omega, by omega⟩) (fun _ => ?_) (fun hb => absurd (by decide) hb)
    refine wz_iconst d166_101 ?_
    refine wp_istore d166_102 (Nat.le_of_ble_eq_true rfl) rfl ?_
    refine wp_iload d166_104 rfl ?_
    refine wz_if_ne (t := 128) d166_106 (by decide) (⟨by omega, by omega⟩) (fun hb => absurd (by decide) hb) (fun _ => ?_)
    refine wp_aload_n d166_109 rfl ?_
    refine wp_iload d166_110 rfl ?_
    refine wp_iload d166_112 rfl ?_
    refine wp_iload d166_114 rfl ?_
    refine wp_iload d166_116 rfl ?_
    refine wp_iload d166_118 rfl ?_
    refine wp_iload d166_120 rfl ?_
    refine wp_virt (as := [.int (zI ((Γ.length : Int))), .int (zI (c)), .int (zI (p)), .int (zI (a)), .int (zI (q)), .int (zI (b))]) (rest := []) d166_122 rfl rfl rfl (hG.o (by decide) rfl) rfl rfl (Nat.le_of_ble_eq_true rfl) ?_
    refine m_under2 hG k1.2.1 k1.2.2.1 k1.2.2.2 (t.swap.mono k1.1 (Int.le_refl _) (Int.le_refl _)) x0 (by omega) (by omega) (by omega) (by omega) (fun hB2 N2 k2 => ?_) (fun hB2 N2 k2 => ?_)
    · skip
      refine wz_if_eq (t := 184) d166_125 (by decide) (⟨by omega, by omega⟩) (fun hb => absurd hb (by decide)) (fun _ => ?_)
      refine wp_iload_n d166_128 rfl ?_
      refine wz_if_ne (t := 137) d166_129 (by decide) (⟨by omega, by omega⟩) (fun hb => absurd (by decide) hb) (fun _ => ?_)
      refine wp_iload d166_132 rfl ?_
      refine wz_if_ne (t := 147) d166_134 (by decide) (⟨by omega, by omega⟩) (fun hb => absurd (by decide) hb) (fun _ => ?_)
      refine wp_iload_n d166_137 rfl ?_
      refine wz_iconst d166_138 ?_
      refine wz_icmp_ne (t := 151) d166_139 (by decide) (⟨by omega, by omega⟩) (⟨by omega, by omega⟩) (fun _ => ?_) (fun hb => absurd hb (by decide))
      refine wz_iconst d166_151 ?_
      refine wp_istore d166_152 (Nat.le_of_ble_eq_true rfl) rfl ?_
      refine wp_aload_n d166_154 rfl ?_
      refine wp_iload_n d166_155 rfl ?_
      refine wp_iload d166_156 rfl ?_
      refine wz_if_eq (t := 166) d166_158 (by decide) (⟨by omega, by omega⟩) (fun _ => ?_) (fun hb => absurd (by decide) hb)
      refine wp_iload d166_166 rfl ?_
      refine wp_iload d166_168 rfl ?_
      refine wz_if_eq (t := 178) d166_170 (by decide) (⟨by omega, by omega⟩) (fun _ => ?_) (fun hb => absurd (by decide) hb)
      refine wp_iload d166_178 rfl ?_
      refine wp_virt (as := [.int (zI (p)), .int (zI (a)), .int (zI (g))]) (rest := []) d166_180 rfl rfl rfl (hG.o (by decide) rfl) rfl rfl (Nat.le_of_ble_eq_true rfl) ?_
      refine m_reach hG g0 g1 ?_
      exact wp_ret d166_183 rfl (hB hB1 hB2 N2 (k1.trans k2))
    · skip
      refine wz_if_eq (t := 184) d166_125 (by decide) (⟨by omega, by omega⟩) (fun _ => ?_) (fun hb => absurd (by decide) hb)
      exact hC hB1 hB2 N2 (k1.trans k2)
set_option maxRecDepth 20000 in
set_option maxHeartbeats 1000000 in
theorem part_1 {u x g a p b q c : Int} {Γ : List Ty} {S T : Ty} (hG : pm_G Rf K L n) (hM : ∀ p i, R32 (N p i)) (hu : N 56 22 = u) (hx : N 56 24 = x) (g0 : 0 ≤ g) (g1 : g < 600) (e0 : N 81 (7 * g) = 1) (e1 : N 81 (7 * g + 1) = a) (e2 : N 81 (7 * g + 2) = p) (e3 : N 81 (7 * g + 3) = b) (e4 : N 81 (7 * g + 4) = q) (e5 : N 81 (7 * g + 5) = c) (e6 : N 81 (7 * g + 6) = (Γ.length : Int)) (t : TH N u x a p b q c (Γ.length : Int) (Γ, S, T)) (x0 : 0 ≤ x) (w0 : Γ.length + tru (Γ, S, T) ≤ 1990) (w1 : u + ((tru (Γ, S, T) : Nat) : Int) < 1100) (w2 : x + ((tru (Γ, S, T) : Nat) : Int) < 900) (w3 : 2 * (hgt (oh Γ) S + hgt (oh Γ) T) + 3 ≤ 300) (hA : bel Γ S T = true → ∀ N1, UK N N1 u x → Q none (zM (mset (mset (mset N1 84 g 1) 85 g a) 86 g p), Rf, K, L, n, s)) (hB : ¬ bel Γ S T = true → bel Γ T S = true → ∀ N1, UK N N1 u x → Q none (zM (mset (mset (mset N1 84 g 1) 85 g b) 86 g q), Rf, K, L, n, s)) (hC : ¬ bel Γ S T = true → ¬ bel Γ T S = true → ∀ N1, UK N N1 u x → pm_Wp none (d + 7) 166 184 [some (.ref 56), some (.int (zI g)), some (.int (zI (7 * g))), some (.int (zI 1)), some (.int (zI a)), some (.int (zI p)), some (.int (zI b)), some (.int (zI q)), some (.int (zI c)), some (.int (zI (Γ.length : Int))), some (.int (zI 0)), none, none, none] [] (zM N1, Rf, K, L, n, s) Q) : pm_Wc (d + 8) 166 [.ref 56, .int (zI g)] (zM N, Rf, K, L, n, s) Q := by
  refine wc_in (ls0 := [some (.ref 56), some (.int (zI g)), none, none, none, none, none, none, none, none, none, none, none, none]) (by decide) (Nat.le_of_ble_eq_true rfl) rfl rfl ?_
  refine wz_bipush d166_0 (by decide) ?_
  refine wp_iload_n d166_2 rfl ?_
  refine wz_imul d166_3 ?_
  refine wp_istore_n d166_4 (Nat.le_of_ble_eq_true rfl) rfl ?_
  refine wp_aload_n d166_5 rfl ?_
  refine wp_getR (q := 81) d166_6 rfl (hG.o (by decide) rfl) (by decide) (hG.r (by decide +kernel)) (by decide) ?_
  refine wp_iload_n d166_9 rfl ?_
  refine wz_iald (z := 4200) (v := 1) d166_10 (hG.a (by decide) rfl rfl) (by omega) (by omega) (by decide) e0 ?_
  refine wp_istore_n d166_11 (Nat.le_of_ble_eq_true rfl) rfl ?_
  refine wp_aload_n d166_12 rfl ?_
  refine wp_getR (q := 81) d166_13 rfl (hG.o (by decide) rfl) (by decide) (hG.r (by decide +kernel)) (by decide) ?_
  refine wp_iload_n d166_16 rfl ?_
  refine wz_iconst d166_17 ?_
  refine wz_iadd d166_18 ?_
  refine wz_iald (z := 4200) (v := a) d166_19 (hG.a (by decide) rfl rfl) (by omega) (by omega) (by decide) e1 ?_
  refine wp_istore d166_20 (Nat.le_of_ble_eq_true rfl) rfl ?_
  refine wp_aload_n d166_22 rfl ?_
  refine wp_getR (q := 81) d166_23 rfl (hG.o (by decide) rfl) (by decide) (hG.r (by decide +kernel)) (by decide) ?_
  refine wp_iload_n d166_26 rfl ?_
  refine wz_iconst d166_27 ?_
  refine wz_iadd d166_28 ?_
  refine wz_iald (z := 4200) (v := p) d166_29 (hG.a (by decide) rfl rfl) (by omega) (by omega) (by decide) e2 ?_
  refine wp_istore d166_30 (Nat.le_of_ble_eq_true rfl) rfl ?_
  refine wp_aload_n d166_32 rfl ?_
  refine wp_getR (q := 81) d166_33 rfl (hG.o (by decide) rfl) (by decide) (hG.r (by decide +kernel)) (by decide) ?_
  refine wp_iload_n d166_36 rfl ?_
  refine wz_iconst d166_37 ?_
  refine wz_iadd d166_38 ?_
  refine wz_iald (z := 4200) (v := b) d166_39 (hG.a (by decide) rfl rfl) (by omega) (by omega) (by decide) e3 ?_
  refine wp_istore d166_40 (Nat.le_of_ble_eq_true rfl) rfl ?_
  refine wp_aload_n d166_42 rfl ?_
  refine wp_getR (q := 81) d166_43 rfl (hG.o (by decide) rfl) (by decide) (hG.r (by decide +kernel)) (by decide) ?_
  refine wp_iload_n d166_46 rfl ?_
  refine wz_iconst d166_47 ?_
  refine wz_iadd d166_48 ?_
  refine wz_iald (z := 4200) (v := q) d166_49 (hG.a (by decide) rfl rfl) (by omega) (by omega) (by decide) e4 ?_
  refine wp_istore d166_50 (Nat.le_of_ble_eq_true rfl) rfl ?_
  refine wp_aload_n d166_52 rfl ?_
  refine wp_getR (q := 81) d166_53 rfl (hG.o (by decide) rfl) (by decide) (hG.r (by decide +kernel)) (by decide) ?_
  refine wp_iload_n d166_56 rfl ?_
  refine wz_iconst d166_57 ?_
  refine wz_iadd d166_58 ?_
  refine wz_iald (z := 4200) (v := c) d166_59 (hG.a (by decide) rfl rfl) (by omega) (by omega) (by decide) e5 ?_
  refine wp_istore d166_60 (Nat.le_of_ble_eq_true rfl) rfl ?_
  refine wp_aload_n d166_62 rfl ?_
  refine wp_getR (q := 81) d166_63 rfl (hG.o (by decide) rfl) (by decide) (hG.r (by decide +kernel)) (by decide) ?_
  refine wp_iload_n d166_66 rfl ?_
  refine wz_bipush d166_67 (by decide) ?_
  refine wz_iadd d166_69 ?_
  refine wz_iald (z := 4200) (v := (Γ.length : Int)) d166_70 (hG.a (by decide) rfl rfl) (by omega) (by omega) (by decide) e6 ?_
  refine wp_istore d166_71 (Nat.le_of_ble_eq_true rfl) rfl ?_
  refine wp_iload_n d166_73 rfl ?_
  refine wz_iconst d166_74 ?_
  refine wz_icmp_eq (t := 97) d166_75 (by decide) (⟨by omega, by omega⟩) (⟨by omega, by omega⟩) (fun hb => absurd hb (by decide)) (fun _ => ?_)
  refine wp_aload_n d166_78 rfl ?_
  refine wp_iload d166_79 rfl ?_
  refine wp_iload d166_81 rfl ?_
  refine wp_iload d166_83 rfl ?_
  refine wp_iload d166_85 rfl ?_
  refine wp_iload d166_87 rfl ?_
  refine wp_iload d166_89 rfl ?_
  refine wp_virt (as := [.int (zI ((Γ.length : Int))), .int (zI (c)), .int (zI (q)), .int (zI (b)), .int (zI (p)), .int (zI (a))]) (rest := []) d166_91 rfl rfl rfl (hG.o (by decide) rfl) rfl rfl (Nat.le_of_ble_eq_true rfl) ?_
  have v1 := tru_1 Γ S T
  have v2 := tru_2 Γ S T
  refine m_under2 hG hM hu hx t x0 (by omega) (by omega) (by omega) w3 (fun hB1 N1 k1 => ?_) (fun hB1 N1 k1 => ?_)
  · skip
    refine wz_if_eq (t := 101) d166_94 (by decide) (⟨by omega, by omega⟩) (fun hb => absurd hb (by decide)) (fun _ => ?_)
    refine wz_iconst d166_97 ?_
    refine wp_goto (t := 102) d166_98 (by decide) ?_
    refine wp_istore d166_102 (Nat.le_of_ble_eq_true rfl) rfl ?_
    refine wp_iload d166_104 rfl ?_
    refine wz_if_ne (t := 128) d166_106 (by decide) (⟨by omega, by omega⟩) (fun _ => ?_) (fun hb => absurd hb (by decide))
    refine wp_iload_n d166_128 rfl ?_
    refine wz_if_ne (t := 137) d166_129 (by decide) (⟨by omega, by omega⟩) (fun _ => ?_) (fun hb => absurd hb (by decide))
    refine wp_iload_n d166_137 rfl ?_
    refine wz_iconst d166_138 ?_
    refine wz_icmp_ne (t := 151) d166_139 (by decide) (⟨by omega, by omega⟩) (⟨by omega, by omega⟩) (fun hb => absurd (by decide) hb) (fun _ => ?_)
    refine wp_iload d166_142 rfl ?_
    refine wz_if_ne (t := 151) d166_144 (by decide) (⟨by omega, by omega⟩) (fun _ => ?_) (fun hb => absurd hb (by decide))
    refine wz_iconst d166_151 ?_
    refine wp_istore d166_152 (Nat.le_of_ble_eq_true rfl) rfl ?_
    refine wp_aload_n d166_154 rfl ?_
    refine wp_iload_n d166_155 rfl ?_
    refine wp_iload d166_156 rfl ?_
    refine wz_if_eq (t := 166) d166_158 (by decide) (⟨by omega, by omega⟩) (fun _ => ?_) (fun hb => absurd (by decide) hb)
    refine wp_iload d166_166 rfl ?_
    refine wp_iload d166_168 rfl ?_
    refine wz_if_eq (t := 178) d166_170 (by decide) (⟨by omega, by omega⟩) (fun _ => ?_) (fun hb => absurd (by decide) hb)
    refine wp_iload d166_178 rfl ?_
    refine wp_virt (as := [.int (zI (p)), .int (zI (a)), .int (zI (g))]) (rest := []) d166_180 rfl rfl rfl (hG.o (by decide) rfl) rfl rfl (Nat.le_of_ble_eq_true rfl) ?_
    refine m_reach hG g0 g1 ?_
    exact wp_ret d166_183 rfl (hA hB1 N1 k1)
  · skip
    refine wz_if_eq (t := 101) d166_94 (by decide) (⟨by omega, by omega⟩) (fun _ => ?_) (fun hb => absurd (by decide) hb)
    refine wz_iconst d166_101 ?_
    refine wp_istore d166_102 (Nat.le_of_ble_eq_true rfl) rfl ?_
    refine wp_iload d166_104 rfl ?_
    refine wz_if_ne (t := 128) d166_106 (by decide) (⟨by omega, by omega⟩) (fun hb => absurd (by decide) hb) (fun _ => ?_)
    refine wp_aload_n d166_109 rfl ?_
    refine wp_iload d166_110 rfl ?_
    refine wp_iload d166_112 rfl ?_
    refine wp_iload d166_114 rfl ?_
    refine wp_iload d166_116 rfl ?_
    refine wp_iload d166_118 rfl ?_
    refine wp_iload d166_120 rfl ?_
    refine wp_virt (as := [.int (zI ((Γ.length : Int))), .int (zI (c)), .int (zI (p)), .int (zI (a)), .int (zI (q)), .int (zI (b))]) (rest := []) d166_122 rfl rfl rfl (hG.o (by decide) rfl) rfl rfl (Nat.le_of_ble_eq_true rfl) ?_
    refine m_under2 hG k1.2.1 k1.2.2.1 k1.2.2.2 (t.swap.mono k1.1 (Int.le_refl _) (Int.le_refl _)) x0 (by omega) (by omega) (by omega) (by omega) (fun hB2 N2 k2 => ?_) (fun hB2 N2 k2 => ?_)
    · skip
      refine wz_if_eq (t := 184) d166_125 (by decide) (⟨by omega, by omega⟩) (fun hb => absurd hb (by decide)) (fun _ => ?_)
      refine wp_iload_n d166_128 rfl ?_
      refine wz_if_ne (t := 137) d166_129 (by decide) (⟨by omega, by omega⟩) (fun _ => ?_) (fun hb => absurd hb (by decide))
      refine wp_iload_n d166_137 rfl ?_
      refine wz_iconst d166_138 ?_
      refine wz_icmp_ne (t := 151) d166_139 (by decide) (⟨by omega, by omega⟩) (⟨by omega, by omega⟩) (fun hb => absurd (by decide) hb) (fun _ => ?_)
      refine wp_iload d166_142 rfl ?_
      refine wz_if_ne (t := 151) d166_144 (by decide) (⟨by omega, by omega⟩) (fun hb => absurd (by decide) hb) (fun _ => ?_)
      refine wz_iconst d166_147 ?_
      refine wp_goto (t := 152) d166_148 (by decide) ?_
      refine wp_istore d166_152 (Nat.le_of_ble_eq_true rfl) rfl ?_
      refine wp_aload_n d166_154 rfl ?_
      refine wp_iload_n d166_155 rfl ?_
      refine wp_iload d166_156 rfl ?_
      refine wz_if_eq (t := 166) d166_158 (by decide) (⟨by omega, by omega⟩) (fun hb => absurd hb (by decide)) (fun _ => ?_)
      refine wp_iload d166_161 rfl ?_
      refine wp_goto (t := 168) d166_163 (by decide) ?_
      refine wp_iload d166_168 rfl ?_
      refine wz_if_eq (t := 178) d166_170 (by decide) (⟨by omega, by omega⟩) (fun hb => absurd hb (by decide)) (fun _ => ?_)
      refine wp_iload d166_173 rfl ?_
      refine wp_goto (t := 180) d166_175 (by decide) ?_
      refine wp_virt (as := [.int (zI (q)), .int (zI (b)), .int (zI (g))]) (rest := []) d166_180 rfl rfl rfl (hG.o (by decide) rfl) rfl rfl (Nat.le_of_ble_eq_true rfl) ?_
      refine m_reach hG g0 g1 ?_
      exact wp_ret d166_183 rfl (hB hB1 hB2 N2 (k1.trans k2))
    · skip
      refine wz_if_eq (t := 184) d166_125 (by decide) (⟨by omega, by omega⟩) (fun _ => ?_) (fun hb => absurd (by decide) hb)
      exact hC hB1 hB2 N2 (k1.trans k2)
end PmM9
