/-! THE MODEL: a part of a record is put in. -/
theorem bit_ar {m g : Nat} : bit m g = true ↔ m / 2 ^ g % 2 = 1 := bit_iff
section PmG14
variable {d : Nat} {Q : Option Value → pm_S → Prop} {N : pm_M} {Rf : Nat → Nat → Nat} {K L : Nat → Nat} {n s0 : Nat} {a b : Nat} {t : Ty} {j : Nat} {s q i res : Int} {ch : List (Nat × Int × Nat)}
theorem fill_loop0 (hG : pm_G Rf K L n) (hM : ∀ p i, R32 (N p i)) (a6 : a ≤ 60) (b6 : b ≤ 60) (nv : NV N a b t j s ch) (hk : nKd t = 10) (hb : bit (nMk t) 0 = true) (q0 : 0 ≤ q) (q1 : q < 4000) (i0 : 0 ≤ i) (i1 : i < 4000) (e97 : N 97 q = i) (e91 : N 91 i = (j : Int)) (e95 : N 95 q = (pN t j 0 : Int)) (e48 : N 56 48 = res) (hQ : ∀ x y : Int, pm_Wp none (d + 2) 204 109 [some (.ref 56), some (.int (zI q)), some (.int (zI i)), some (.int (zI (j : Int))), some (.int (zI (pN t j 0 : Int))), some (.int (zI x)), some (.int (zI 3)), some (.int (zI y))] [] (zM (mset N 93 (3 * i + 0) res), Rf, K, L, n, s0) Q) : pm_Wc (d + 3) 204 [.ref 56, .int (zI q)] (zM N, Rf, K, L, n, s0) Q := by
  have m8 := nv.mk.2.2.1 hk
  have a60 : N 60 (j : Int) = (nMk t : Int) := nv.mk.2.1 (by omega)
  have a60' : (mset N 93 (3 * i + 0) res) 60 (j : Int) = (nMk t : Int) := by rw [mset_i' (by omega)]; exact a60
  have jl := nv.lt
  have ln := nv.len
  have pt1 := pnd_is nv.sp
  have rr : R32 res := by rw [← e48]; exact hM _ _
  have pg : pN t j 0 ≤ 60 := by have h1 := (nv.part hk (g := 0) (by omega) hb).len; omega
  have nv1 : NV (mset N 93 (3 * i + 0) res) a b t j s ch := nv.keep (fun p i p1 p2 => mset_i' (by omega))
  have p1 : ∀ g, g < 3 → bit (nMk t) g = true → 1 ≤ pnd (nP t g) := fun g hg hb => by have := pnd_is (nv.part hk hg hb).sp; omega
  have bb0 : bit (nMk t) 0 = true ↔ (nMk t : Int) / 1 % 2 = 1 := by rw [bit_ar]; omega
  have bb1 : bit (nMk t) 1 = true ↔ (nMk t : Int) / 2 % 2 = 1 := by rw [bit_ar]; omega
  have bb2 : bit (nMk t) 2 = true ↔ (nMk t : Int) / 4 % 2 = 1 := by rw [bit_ar]; omega
  have pn0 : pN t j 0 = j + 1 := rfl
  have pn1 : pN t j 1 = j + 1 + pnd (nX t) := rfl
  have pn2 : pN t j 2 = j + 1 + pnd (nX t) + pnd (nY t) := rfl
  have y0 : nP t 0 = nX t := rfl
  have y1 : nP t 1 = nY t := rfl
  have y2 : nP t 2 = nZ t := rfl
  have hbg := bb0.mp hb
  refine wc_in (ls0 := [some (.ref 56), some (.int (zI q)), none, none, none, none, none, none]) (by decide) (Nat.le_of_ble_eq_true rfl) rfl rfl ?_
  refine wp_aload_n d204_0 rfl ?_
  refine wp_getR (q := 97) d204_1 rfl (hG.o (by decide) rfl) (by decide) (hG.r (by decide +kernel)) (by decide) ?_
  refine wp_iload_n d204_4 rfl ?_
  refine wz_iald (z := 4000) (v := i) d204_5 (hG.a (by decide) rfl rfl) (by omega) (by omega) (by decide) (e97) ?_
  refine wp_istore_n d204_6 (Nat.le_of_ble_eq_true rfl) rfl ?_
  refine wp_aload_n d204_7 rfl ?_
  refine wp_getR (q := 91) d204_8 rfl (hG.o (by decide) rfl) (by decide) (hG.r (by decide +kernel)) (by decide) ?_
  refine wp_iload_n d204_11 rfl ?_
  refine wz_iald (z := 4000) (v := (j : Int)) d204_12 (hG.a (by decide) rfl rfl) (by omega) (by omega) (by decide) (e91) ?_
  refine wp_istore_n d204_13 (Nat.le_of_ble_eq_true rfl) rfl ?_
  refine wp_aload_n d204_14 rfl ?_
  refine wp_getR (q := 95) d204_15 rfl (hG.o (by decide) rfl) (by decide) (hG.r (by decide +kernel)) (by decide) ?_
  refine wp_iload_n d204_18 rfl ?_
  refine wz_iald (z := 4000) (v := (pN t j 0 : Int)) d204_19 (hG.a (by decide) rfl rfl) (by omega) (by omega) (by decide) (e95) ?_
  refine wp_istore d204_20 (Nat.le_of_ble_eq_true rfl) rfl ?_
  refine wp_iload_n d204_22 rfl ?_
  refine wz_iconst d204_23 ?_
  refine wz_iadd d204_24 ?_
  refine wp_istore d204_25 (Nat.le_of_ble_eq_true rfl) rfl ?_
  refine wz_iconst d204_27 ?_
  refine wp_istore d204_28 (Nat.le_of_ble_eq_true rfl) rfl ?_
  refine wp_iload d204_30 rfl ?_
  refine wz_iconst d204_32 ?_
  refine wz_icmp_ge (t := 109) d204_33 (by decide) ⟨by omega, by omega⟩ ⟨by omega, by omega⟩ (fun hb => absurd hb (by omega)) (fun _ => ?_)
  refine wp_aload_n d204_36 rfl ?_
  refine wp_getR (q := 60) d204_37 rfl (hG.o (by decide) rfl) (by decide) (hG.r (by decide +kernel)) (by decide) ?_
  refine wp_iload_n d204_40 rfl ?_
  refine wz_iald (z := 128) (v := (nMk t : Int)) d204_41 (hG.a (by decide) rfl rfl) (by omega) (by omega) (by decide) (a60) ?_
  refine wp_iload d204_42 rfl ?_
  refine wz_ishrq (q := 1) d204_44 (by omega) (by omega) (by omega) (by omega) (by decide) ?_
  refine wz_iconst d204_45 ?_
  refine wz_and1 d204_46 (by first | omega | exact Int.natCast_nonneg _) ?_
  refine wz_iconst d204_47 ?_
  refine wz_icmp_ne (t := 55) d204_48 (by decide) ⟨by omega, by omega⟩ ⟨by omega, by omega⟩ (fun hb => absurd (by omega) hb) (fun _ => ?_)
  have bk0 : bit (nMk t) 0 = true := hb
  have pk0 := p1 0 (by omega) bk0
  rw [y0] at pk0
  refine wz_iconst d204_51 ?_
  refine wp_goto (t := 56) d204_52 (by decide) ?_
  refine wp_istore d204_56 (Nat.le_of_ble_eq_true rfl) rfl ?_
  refine wp_iload d204_58 rfl ?_
  refine wz_if_eq (t := 85) d204_60 (by decide) ⟨by omega, by omega⟩ (fun hb => absurd hb (by omega)) (fun _ => ?_)
  refine wp_iload d204_63 rfl ?_
  refine wp_iload d204_65 rfl ?_
  refine wz_icmp_ne (t := 85) d204_67 (by decide) ⟨by omega, by omega⟩ ⟨by omega, by omega⟩ (fun hb => absurd (by omega) hb) (fun _ => ?_)
  refine wp_aload_n d204_70 rfl ?_
  refine wp_getR (q := 93) d204_71 rfl (hG.o (by decide) rfl) (by decide) (hG.r (by decide +kernel)) (by decide) ?_
  refine wz_iconst d204_74 ?_
  refine wp_iload_n d204_75 rfl ?_
  refine wz_imul d204_76 ?_
  refine wp_iload d204_77 rfl ?_
  refine wz_iadd d204_79 ?_
  refine wp_aload_n d204_80 rfl ?_
  refine wz_getI (v := res) d204_81 rfl (hG.o (by decide) rfl) (by decide) (e48) ?_
  refine wz_iast (z := 12000) d204_84 (hG.a (by decide) rfl rfl) (by omega) (by omega) (by decide) ?_
  refine wp_iload d204_85 rfl ?_
  refine wz_if_eq (t := 99) d204_87 (by decide) ⟨by omega, by omega⟩ (fun hb => absurd hb (by omega)) (fun _ => ?_)
  refine wp_aload_n d204_90 rfl ?_
  refine wp_iload d204_91 rfl ?_
  refine wp_virt (as := [.int (zI ((j : Int) + 1))]) (rest := []) d204_93 rfl rfl rfl (hG.o (by decide) rfl) rfl rfl (Nat.le_of_ble_eq_true rfl) ?_
  have nk0 := nv1.part hk (g := 0) (by omega) bk0
  have ek0 : pN t j 0 = j + 1 := by omega
  rw [ek0] at nk0
  refine m_behind (lo := 0) (nd := a) (sc := b) (b := true) (i := j + 1) (l := tfl (nP t 0)) hG (by have h7 := nk0.len; unfold pnd at h7; omega) nk0.nx.1 nk0.nx.2 ?_
  show pm_Wp none (d + 2) 204 96 [some (.ref 56), some (.int (zI q)), some (.int (zI i)), some (.int (zI (j : Int))), some (.int (zI (pN t j 0 : Int))), some (.int (zI ((j : Int) + 1))), some (.int (zI 0)), some (.int (zI 1))] [.int (zI (((j + 1 + pnd (nX t) : Nat) : Int)))] (zM (mset N 93 (3 * i + 0) res), Rf, K, L, n, s0) Q
  refine wp_goto (t := 101) d204_96 (by decide) ?_
  refine wp_istore d204_101 (Nat.le_of_ble_eq_true rfl) rfl ?_
  refine wz_iinc d204_103 rfl rfl ?_
  refine wp_goto (t := 30) d204_106 (by decide) ?_
  refine wp_iload d204_30 rfl ?_
  refine wz_iconst d204_32 ?_
  refine wz_icmp_ge (t := 109) d204_33 (by decide) ⟨by omega, by omega⟩ ⟨by omega, by omega⟩ (fun hb => absurd hb (by omega)) (fun _ => ?_)
  refine wp_aload_n d204_36 rfl ?_
  refine wp_getR (q := 60) d204_37 rfl (hG.o (by decide) rfl) (by decide) (hG.r (by decide +kernel)) (by decide) ?_
  refine wp_iload_n d204_40 rfl ?_
  refine wz_iald (z := 128) (v := (nMk t : Int)) d204_41 (hG.a (by decide) rfl rfl) (by omega) (by omega) (by decide) (a60') ?_
  refine wp_iload d204_42 rfl ?_
  refine wz_ishrq (q := 2) d204_44 (by omega) (by omega) (by omega) (by omega) (by decide) ?_
  refine wz_iconst d204_45 ?_
  refine wz_and1 d204_46 (by first | omega | exact Int.natCast_nonneg _) ?_
  refine wz_iconst d204_47 ?_
  refine wz_icmp_ne (t := 55) d204_48 (by decide) ⟨by omega, by omega⟩ ⟨by omega, by omega⟩ (fun hz => ?_) (fun hz => ?_)
  · skip
    have bz1 : ¬ bit (nMk t) 1 = true := fun e => hz (bb1.mp e)
    have pz1 := nv.nil hk (g := 1) (by omega) bz1
    rw [y1] at pz1
    refine wz_iconst d204_55 ?_
    refine wp_istore d204_56 (Nat.le_of_ble_eq_true rfl) rfl ?_
    refine wp_iload d204_58 rfl ?_
    refine wz_if_eq (t := 85) d204_60 (by decide) ⟨by omega, by omega⟩ (fun _ => ?_) (fun hb => absurd (by omega) hb)
    refine wp_iload d204_85 rfl ?_
    refine wz_if_eq (t := 99) d204_87 (by decide) ⟨by omega, by omega⟩ (fun _ => ?_) (fun hb => absurd (by omega) hb)
    refine wp_iload d204_99 rfl ?_
    refine wp_istore d204_101 (Nat.le_of_ble_eq_true rfl) rfl ?_
    refine wz_iinc d204_103 rfl rfl ?_
    refine wp_goto (t := 30) d204_106 (by decide) ?_
    refine wp_iload d204_30 rfl ?_
    refine wz_iconst d204_32 ?_
    refine wz_icmp_ge (t := 109) d204_33 (by decide) ⟨by omega, by omega⟩ ⟨by omega, by omega⟩ (fun hb => absurd hb (by omega)) (fun _ => ?_)
    refine wp_aload_n d204_36 rfl ?_
    refine wp_getR (q := 60) d204_37 rfl (hG.o (by decide) rfl) (by decide) (hG.r (by decide +kernel)) (by decide) ?_
    refine wp_iload_n d204_40 rfl ?_
    refine wz_iald (z := 128) (v := (nMk t : Int)) d204_41 (hG.a (by decide) rfl rfl) (by omega) (by omega) (by decide) (a60') ?_
    refine wp_iload d204_42 rfl ?_
    refine wz_ishrq (q := 4) d204_44 (by omega) (by omega) (by omega) (by omega) (by decide) ?_
    refine wz_iconst d204_45 ?_
    refine wz_and1 d204_46 (by first | omega | exact Int.natCast_nonneg _) ?_
    refine wz_iconst d204_47 ?_
    refine wz_icmp_ne (t := 55) d204_48 (by decide) ⟨by omega, by omega⟩ ⟨by omega, by omega⟩ (fun hz => ?_) (fun hz => ?_)
    · skip
      have bz2 : ¬ bit (nMk t) 2 = true := fun e => hz (bb2.mp e)
      have pz2 := nv.nil hk (g := 2) (by omega) bz2
      rw [y2] at pz2
      refine wz_iconst d204_55 ?_
      refine wp_istore d204_56 (Nat.le_of_ble_eq_true rfl) rfl ?_
      refine wp_iload d204_58 rfl ?_
      refine wz_if_eq (t := 85) d204_60 (by decide) ⟨by omega, by omega⟩ (fun _ => ?_) (fun hb => absurd (by omega) hb)
      refine wp_iload d204_85 rfl ?_
      refine wz_if_eq (t := 99) d204_87 (by decide) ⟨by omega, by omega⟩ (fun _ => ?_) (fun hb => absurd (by omega) hb)
      refine wp_iload d204_99 rfl ?_
      refine wp_istore d204_101 (Nat.le_of_ble_eq_true rfl) rfl ?_
      refine wz_iinc d204_103 rfl rfl ?_
      refine wp_goto (t := 30) d204_106 (by decide) ?_
      refine wp_iload d204_30 rfl ?_
      refine wz_iconst d204_32 ?_
      refine wz_icmp_ge (t := 109) d204_33 (by decide) ⟨by omega, by omega⟩ ⟨by omega, by omega⟩ (fun _ => ?_) (fun hb => absurd (by omega) hb)
      exact hQ _ _
    · skip
      have bk2 : bit (nMk t) 2 = true := bb2.mpr (by omega)
      have pk2 := p1 2 (by omega) bk2
      rw [y2] at pk2
      refine wz_iconst d204_51 ?_
      refine wp_goto (t := 56) d204_52 (by decide) ?_
      refine wp_istore d204_56 (Nat.le_of_ble_eq_true rfl) rfl ?_
      refine wp_iload d204_58 rfl ?_
      refine wz_if_eq (t := 85) d204_60 (by decide) ⟨by omega, by omega⟩ (fun hb => absurd hb (by omega)) (fun _ => ?_)
      refine wp_iload d204_63 rfl ?_
      refine wp_iload d204_65 rfl ?_
      refine wz_icmp_ne (t := 85) d204_67 (by decide) ⟨by omega, by omega⟩ ⟨by omega, by omega⟩ (fun _ => ?_) (fun hb => absurd hb (by omega))
      refine wp_iload d204_85 rfl ?_
      refine wz_if_eq (t := 99) d204_87 (by decide) ⟨by omega, by omega⟩ (fun hb => absurd hb (by omega)) (fun _ => ?_)
      refine wp_aload_n d204_90 rfl ?_
      refine wp_iload d204_91 rfl ?_
      refine wp_virt (as := [.int (zI (((j + 1 + pnd (nX t) : Nat) : Int)))]) (rest := []) d204_93 rfl rfl rfl (hG.o (by decide) rfl) rfl rfl (Nat.le_of_ble_eq_true rfl) ?_
      have nk2 := nv1.part hk (g := 2) (by omega) bk2
      have ek2 : pN t j 2 = j + 1 + pnd (nX t) := by omega
      rw [ek2] at nk2
      refine m_behind (lo := 0) (nd := a) (sc := b) (b := true) (i := j + 1 + pnd (nX t)) (l := tfl (nP t 2)) hG (by have h7 := nk2.len; unfold pnd at h7; omega) nk2.nx.1 nk2.nx.2 ?_
      show pm_Wp none (d + 2) 204 96 [some (.ref 56), some (.int (zI q)), some (.int (zI i)), some (.int (zI (j : Int))), some (.int (zI (pN t j 0 : Int))), some (.int (zI (((j + 1 + pnd (nX t) : Nat) : Int)))), some (.int (zI 2)), some (.int (zI 1))] [.int (zI (((j + 1 + pnd (nX t) + pnd (nZ t) : Nat) : Int)))] (zM (mset N 93 (3 * i + 0) res), Rf, K, L, n, s0) Q
      refine wp_goto (t := 101) d204_96 (by decide) ?_
      refine wp_istore d204_101 (Nat.le_of_ble_eq_true rfl) rfl ?_
      refine wz_iinc d204_103 rfl rfl ?_
      refine wp_goto (t := 30) d204_106 (by decide) ?_
      refine wp_iload d204_30 rfl ?_
      refine wz_iconst d204_32 ?_
      refine wz_icmp_ge (t := 109) d204_33 (by decide) ⟨by omega, by omega⟩ ⟨by omega, by omega⟩ (fun _ => ?_) (fun hb => absurd (by omega) hb)
      exact hQ _ _
  · skip
    have bk1 : bit (nMk t) 1 = true := bb1.mpr (by omega)
    have pk1 := p1 1 (by omega) bk1
    rw [y1] at pk1
    refine wz_iconst d204_51 ?_
    refine wp_goto (t := 56) d204_52 (by decide) ?_
    refine wp_istore d204_56 (Nat.le_of_ble_eq_true rfl) rfl ?_
    refine wp_iload d204_58 rfl ?_
    refine wz_if_eq (t := 85) d204_60 (by decide) ⟨by omega, by omega⟩ (fun hb => absurd hb (by omega)) (fun _ => ?_)
    refine wp_iload d204_63 rfl ?_
    refine wp_iload d204_65 rfl ?_
    refine wz_icmp_ne (t := 85) d204_67 (by decide) ⟨by omega, by omega⟩ ⟨by omega, by omega⟩ (fun _ => ?_) (fun hb => absurd hb (by omega))
    refine wp_iload d204_85 rfl ?_
    refine wz_if_eq (t := 99) d204_87 (by decide) ⟨by omega, by omega⟩ (fun hb => absurd hb (by omega)) (fun _ => ?_)
    refine wp_aload_n d204_90 rfl ?_
    refine wp_iload d204_91 rfl ?_
    refine wp_virt (as := [.int (zI (((j + 1 + pnd (nX t) : Nat) : Int)))]) (rest := []) d204_93 rfl rfl rfl (hG.o (by decide) rfl) rfl rfl (Nat.le_of_ble_eq_true rfl) ?_
    have nk1 := nv1.part hk (g := 1) (by omega) bk1
    have ek1 : pN t j 1 = j + 1 + pnd (nX t) := by omega
    rw [ek1] at nk1
    refine m_behind (lo := 0) (nd := a) (sc := b) (b := true) (i := j + 1 + pnd (nX t)) (l := tfl (nP t 1)) hG (by have h7 := nk1.len; unfold pnd at h7; omega) nk1.nx.1 nk1.nx.2 ?_
    show pm_Wp none (d + 2) 204 96 [some (.ref 56), some (.int (zI q)), some (.int (zI i)), some (.int (zI (j : Int))), some (.int (zI (pN t j 0 : Int))), some (.int (zI (((j + 1 + pnd (nX t) : Nat) : Int)))), some (.int (zI 1)), some (.int (zI 1))] [.int (zI (((j + 1 + pnd (nX t) + pnd (nY t) : Nat) : Int)))] (zM (mset N 93 (3 * i + 0) res), Rf, K, L, n, s0) Q
    refine wp_goto (t := 101) d204_96 (by decide) ?_
    refine wp_istore d204_101 (Nat.le_of_ble_eq_true rfl) rfl ?_
    refine wz_iinc d204_103 rfl rfl ?_
    refine wp_goto (t := 30) d204_106 (by decide) ?_
    refine wp_iload d204_30 rfl ?_
    refine wz_iconst d204_32 ?_
    refine wz_icmp_ge (t := 109) d204_33 (by decide) ⟨by omega, by omega⟩ ⟨by omega, by omega⟩ (fun hb => absurd hb (by omega)) (fun _ => ?_)
    refine wp_aload_n d204_36 rfl ?_
    refine wp_getR (q := 60) d204_37 rfl (hG.o (by decide) rfl) (by decide) (hG.r (by decide +kernel)) (by decide) ?_
    refine wp_iload_n d204_40 rfl ?_
    refine wz_iald (z := 128) (v := (nMk t : Int)) d204_41 (hG.a (by decide) rfl rfl) (by omega) (by omega) (by decide) (a60') ?_
    refine wp_iload d204_42 rfl ?_
    refine wz_ishrq (q := 4) d204_44 (by omega) (by omega) (by omega) (by omega) (by decide) ?_
    refine wz_iconst d204_45 ?_
    refine wz_and1 d204_46 (by first | omega | exact Int.natCast_nonneg _) ?_
    refine wz_iconst d204_47 ?_
    refine wz_icmp_ne (t := 55) d204_48 (by decide) ⟨by omega, by omega⟩ ⟨by omega, by omega⟩ (fun hz => ?_) (fun hz => ?_)
    · skip
      have bz2 : ¬ bit (nMk t) 2 = true := fun e => hz (bb2.mp e)
      have pz2 := nv.nil hk (g := 2) (by omega) bz2
      rw [y2] at pz2
      refine wz_iconst d204_55 ?_
      refine wp_istore d204_56 (Nat.le_of_ble_eq_true rfl) rfl ?_
      refine wp_iload d204_58 rfl ?_
      refine wz_if_eq (t := 85) d204_60 (by decide) ⟨by omega, by omega⟩ (fun _ => ?_) (fun hb => absurd (by omega) hb)
      refine wp_iload d204_85 rfl ?_
      refine wz_if_eq (t := 99) d204_87 (by decide) ⟨by omega, by omega⟩ (fun _ => ?_) (fun hb => absurd (by omega) hb)
      refine wp_iload d204_99 rfl ?_
      refine wp_istore d204_101 (Nat.le_of_ble_eq_true rfl) rfl ?_
      refine wz_iinc d204_103 rfl rfl ?_
      refine wp_goto (t := 30) d204_106 (by decide) ?_
      refine wp_iload d204_30 rfl ?_
      refine wz_iconst d204_32 ?_
      refine wz_icmp_ge (t := 109) d204_33 (by decide) ⟨by omega, by omega⟩ ⟨by omega, by omega⟩ (fun _ => ?_) (fun hb => absurd (by omega) hb)
      exact hQ _ _
    · skip
      have bk2 : bit (nMk t) 2 = true := bb2.mpr (by omega)
      have pk2 := p1 2 (by omega) bk2
      rw [y2] at pk2
      refine wz_iconst d204_51 ?_
      refine wp_goto (t := 56) d204_52 (by decide) ?_
      refine wp_istore d204_56 (Nat.le_of_ble_eq_true rfl) rfl ?_
      refine wp_iload d204_58 rfl ?_
      refine wz_if_eq (t := 85) d204_60 (by decide) ⟨by omega, by omega⟩ (fun hb => absurd hb (by omega)) (fun _ => ?_)
      refine wp_iload d204_63 rfl ?_
      refine wp_iload d204_65 rfl ?_
      refine wz_icmp_ne (t := 85) d204_67 (by decide) ⟨by omega, by omega⟩ ⟨by omega, by omega⟩ (fun _ => ?_) (fun hb => absurd hb (by omega))
      refine wp_iload d204_85 rfl ?_
      refine wz_if_eq (t := 99) d204_87 (by decide) ⟨by omega, by omega⟩ (fun hb => absurd hb (by omega)) (fun _ => ?_)
      refine wp_aload_n d204_90 rfl ?_
      refine wp_iload d204_91 rfl ?_
      refine wp_virt (as := [.int (zI (((j + 1 + pnd (nX t) + pnd (nY t) : Nat) : Int)))]) (rest := []) d204_93 rfl rfl rfl (hG.o (by decide) rfl) rfl rfl (Nat.le_of_ble_eq_true rfl) ?_
      have nk2 := nv1.part hk (g := 2) (by omega) bk2
      have ek2 : pN t j 2 = j + 1 + pnd (nX t) + pnd (nY t) := by omega
      rw [ek2] at nk2
      refine m_behind (lo := 0) (nd := a) (sc := b) (b := true) (i := j + 1 + pnd (nX t) + pnd (nY t)) (l := tfl (nP t 2)) hG (by have h7 := nk2.len; unfold pnd at h7; omega) nk2.nx.1 nk2.nx.2 ?_
      show pm_Wp none (d + 2) 204 96 [some (.ref 56), some (.int (zI q)), some (.int (zI i)), some (.int (zI (j : Int))), some (.int (zI (pN t j 0 : Int))), some (.int (zI (((j + 1 + pnd (nX t) + pnd (nY t) : Nat) : Int)))), some (.int (zI 2)), some (.int (zI 1))] [.int (zI (((j + 1 + pnd (nX t) + pnd (nY t) + pnd (nZ t) : Nat) : Int)))] (zM (mset N 93 (3 * i + 0) res), Rf, K, L, n, s0) Q
      refine wp_goto (t := 101) d204_96 (by decide) ?_
      refine wp_istore d204_101 (Nat.le_of_ble_eq_true rfl) rfl ?_
      refine wz_iinc d204_103 rfl rfl ?_
      refine wp_goto (t := 30) d204_106 (by decide) ?_
      refine wp_iload d204_30 rfl ?_
      refine wz_iconst d204_32 ?_
      refine wz_icmp_ge (t := 109) d204_33 (by decide) ⟨by omega, by omega⟩ ⟨by omega, by omega⟩ (fun _ => ?_) (fun hb => absurd (by omega) hb)
      exact hQ _ _
theorem fill_loop1 (hG : pm_G Rf K L n) (hM : ∀ p i, R32 (N p i)) (a6 : a ≤ 60) (b6 : b ≤ 60) (nv : NV N a b t j s ch) (hk : nKd t = 10) (hb : bit (nMk t) 1 = true) (q0 : 0 ≤ q) (q1 : q < 4000) (i0 : 0 ≤ i) (i1 : i < 4000) (e97 : N 97 q = i) (e91 : N 91 i = (j : Int)) (e95 : N 95 q = (pN t j 1 : Int)) (e48 : N 56 48 = res) (hQ : ∀ x y : Int, pm_Wp none (d + 2) 204 109 [some (.ref 56), some (.int (zI q)), some (.int (zI i)), some (.int (zI (j : Int))), some (.int (zI (pN t j 1 : Int))), some (.int (zI x)), some (.int (zI 3)), some (.int (zI y))] [] (zM (mset N 93 (3 * i + 1) res), Rf, K, L, n, s0) Q) : pm_Wc (d + 3) 204 [.ref 56, .int (zI q)] (zM N, Rf, K, L, n, s0) Q := by
  have m8 := nv.mk.2.2.1 hk
  have a60 : N 60 (j : Int) = (nMk t : Int) := nv.mk.2.1 (by omega)
  have a60' : (mset N 93 (3 * i + 1) res) 60 (j : Int) = (nMk t : Int) := by rw [mset_i' (by omega)]; exact a60
  have jl := nv.lt
  have ln := nv.len
  have pt1 := pnd_is nv.sp
  have rr : R32 res := by rw [← e48]; exact hM _ _
  have pg : pN t j 1 ≤ 60 := by have h1 := (nv.part hk (g := 1) (by omega) hb).len; omega
  have nv1 : NV (mset N 93 (3 * i + 1) res) a b t j s ch := nv.keep (fun p i p1 p2 => mset_i' (by omega))
  have p1 : ∀ g, g < 3 → bit (nMk t) g = true → 1 ≤ pnd (nP t g) := fun g hg hb => by have := pnd_is (nv.part hk hg hb).sp; omega
  have bb0 : bit (nMk t) 0 = true ↔ (nMk t : Int) / 1 % 2 = 1 := by rw [bit_ar]; omega
  have bb1 : bit (nMk t) 1 = true ↔ (nMk t : Int) / 2 % 2 = 1 := by rw [bit_ar]; omega
  have bb2 : bit (nMk t) 2 = true ↔ (nMk t : Int) / 4 % 2 = 1 := by rw [bit_ar]; omega
  have pn0 : pN t j 0 = j + 1 := rfl
  have pn1 : pN t j 1 = j + 1 + pnd (nX t) := rfl
  have pn2 : pN t j 2 = j + 1 + pnd (nX t) + pnd (nY t) := rfl
  have y0 : nP t 0 = nX t := rfl
  have y1 : nP t 1 = nY t := rfl
  have y2 : nP t 2 = nZ t := rfl
  have hbg := bb1.mp hb
  refine wc_in (ls0 := [some (.ref 56), some (.int (zI q)), none, none, none, none, none, none]) (by decide) (Nat.le_of_ble_eq_true rfl) rfl rfl ?_
  refine wp_aload_n d204_0 rfl ?_
  refine wp_getR (q := 97) d204_1 rfl (hG.o (by decide) rfl) (by decide) (hG.r (by decide +kernel)) (by decide) ?_
  refine wp_iload_n d204_4 rfl ?_
  refine wz_iald (z := 4000) (v := i) d204_5 (hG.a (by decide) rfl rfl) (by omega) (by omega) (by decide) (e97) ?_
  refine wp_istore_n d204_6 (Nat.le_of_ble_eq_true rfl) rfl ?_
  refine wp_aload_n d204_7 rfl ?_
  refine wp_getR (q := 91) d204_8 rfl (hG.o (by decide) rfl) (by decide) (hG.r (by decide +kernel)) (by decide) ?_
  refine wp_iload_n d204_11 rfl ?_
  refine wz_iald (z := 4000) (v := (j : Int)) d204_12 (hG.a (by decide) rfl rfl) (by omega) (by omega) (by decide) (e91) ?_
  refine wp_istore_n d204_13 (Nat.le_of_ble_eq_true rfl) rfl ?_
  refine wp_aload_n d204_14 rfl ?_
  refine wp_getR (q := 95) d204_15 rfl (hG.o (by decide) rfl) (by decide) (hG.r (by decide +kernel)) (by decide) ?_
  refine wp_iload_n d204_18 rfl ?_
  refine wz_iald (z := 4000) (v := (pN t j 1 : Int)) d204_19 (hG.a (by decide) rfl rfl) (by omega) (by omega) (by decide) (e95) ?_
  refine wp_istore d204_20 (Nat.le_of_ble_eq_true rfl) rfl ?_
  refine wp_iload_n d204_22 rfl ?_
  refine wz_iconst d204_23 ?_
  refine wz_iadd d204_24 ?_
  refine wp_istore d204_25 (Nat.le_of_ble_eq_true rfl) rfl ?_
  refine wz_iconst d204_27 ?_
  refine wp_istore d204_28 (Nat.le_of_ble_eq_true rfl) rfl ?_
  refine wp_iload d204_30 rfl ?_
  refine wz_iconst d204_32 ?_
  refine wz_icmp_ge (t := 109) d204_33 (by decide) ⟨by omega, by omega⟩ ⟨by omega, by omega⟩ (fun hb => absurd hb (by omega)) (fun _ => ?_)
  refine wp_aload_n d204_36 rfl ?_
  refine wp_getR (q := 60) d204_37 rfl (hG.o (by decide) rfl) (by decide) (hG.r (by decide +kernel)) (by decide) ?_
  refine wp_iload_n d204_40 rfl ?_
  refine wz_iald (z := 128) (v := (nMk t : Int)) d204_41 (hG.a (by decide) rfl rfl) (by omega) (by omega) (by decide) (a60) ?_
  refine wp_iload d204_42 rfl ?_
  refine wz_ishrq (q := 1) d204_44 (by omega) (by omega) (by omega) (by omega) (by decide) ?_
  refine wz_iconst d204_45 ?_
  refine wz_and1 d204_46 (by first | omega | exact Int.natCast_nonneg _) ?_
  refine wz_iconst d204_47 ?_
  refine wz_icmp_ne (t := 55) d204_48 (by decide) ⟨by omega, by omega⟩ ⟨by omega, by omega⟩ (fun hz => ?_) (fun hz => ?_)
  · skip
    have bz0 : ¬ bit (nMk t) 0 = true := fun e => hz (bb0.mp e)
    have pz0 := nv.nil hk (g := 0) (by omega) bz0
    rw [y0] at pz0
    refine wz_iconst d204_55 ?_
    refine wp_istore d204_56 (Nat.le_of_ble_eq_true rfl) rfl ?_
    refine wp_iload d204_58 rfl ?_
    refine wz_if_eq (t := 85) d204_60 (by decide) ⟨by omega, by omega⟩ (fun _ => ?_) (fun hb => absurd (by omega) hb)
    refine wp_iload d204_85 rfl ?_
    refine wz_if_eq (t := 99) d204_87 (by decide) ⟨by omega, by omega⟩ (fun _ => ?_) (fun hb => absurd (by omega) hb)
    refine wp_iload d204_99 rfl ?_
    refine wp_istore d204_101 (Nat.le_of_ble_eq_true rfl) rfl ?_
    refine wz_iinc d204_103 rfl rfl ?_
    refine wp_goto (t := 30) d204_106 (by decide) ?_
    refine wp_iload d204_30 rfl ?_
    refine wz_iconst d204_32 ?_
    refine wz_icmp_ge (t := 109) d204_33 (by decide) ⟨by omega, by omega⟩ ⟨by omega, by omega⟩ (fun hb => absurd hb (by omega)) (fun _ => ?_)
    refine wp_aload_n d204_36 rfl ?_
    refine wp_getR (q := 60) d204_37 rfl (hG.o (by decide) rfl) (by decide) (hG.r (by decide +kernel)) (by decide) ?_
    refine wp_iload_n d204_40 rfl ?_
    refine wz_iald (z := 128) (v := (nMk t : Int)) d204_41 (hG.a (by decide) rfl rfl) (by omega) (by omega) (by decide) (a60) ?_
    refine wp_iload d204_42 rfl ?_
    refine wz_ishrq (q := 2) d204_44 (by omega) (by omega) (by omega) (by omega) (by decide) ?_
    refine wz_iconst d204_45 ?_
    refine wz_and1 d204_46 (by first | omega | exact Int.natCast_nonneg _) ?_
    refine wz_iconst d204_47 ?_
    refine wz_icmp_ne (t := 55) d204_48 (by decide) ⟨by omega, by omega⟩ ⟨by omega, by omega⟩ (fun hb => absurd (by omega) hb) (fun _ => ?_)
    have bk1 : bit (nMk t) 1 = true := hb
    have pk1 := p1 1 (by omega) bk1
    rw [y1] at pk1
    refine wz_iconst d204_51 ?_
    refine wp_goto (t := 56) d204_52 (by decide) ?_
    refine wp_istore d204_56 (Nat.le_of_ble_eq_true rfl) rfl ?_
    refine wp_iload d204_58 rfl ?_
    refine wz_if_eq (t := 85) d204_60 (by decide) ⟨by omega, by omega⟩ (fun hb => absurd hb (by omega)) (fun _ => ?_)
    refine wp_iload d204_63 rfl ?_
    refine wp_iload d204_65 rfl ?_
    refine wz_icmp_ne (t := 85) d204_67 (by decide) ⟨by omega, by omega⟩ ⟨by omega, by omega⟩ (fun hb => absurd (by omega) hb) (fun _ => ?_)
    refine wp_aload_n d204_70 rfl ?_
    refine wp_getR (q := 93) d204_71 rfl (hG.o (by decide) rfl) (by decide) (hG.r (by decide +kernel)) (by decide) ?_
    refine wz_iconst d204_74 ?_
    refine wp_iload_n d204_75 rfl ?_
    refine wz_imul d204_76 ?_
    refine wp_iload d204_77 rfl ?_
    refine wz_iadd d204_79 ?_
    refine wp_aload_n d204_80 rfl ?_
    refine wz_getI (v := res) d204_81 rfl (hG.o (by decide) rfl) (by decide) (e48) ?_
    refine wz_iast (z := 12000) d204_84 (hG.a (by decide) rfl rfl) (by omega) (by omega) (by decide) ?_
    refine wp_iload d204_85 rfl ?_
    refine wz_if_eq (t := 99) d204_87 (by decide) ⟨by omega, by omega⟩ (fun hb => absurd hb (by omega)) (fun _ => ?_)
    refine wp_aload_n d204_90 rfl ?_
    refine wp_iload d204_91 rfl ?_
    refine wp_virt (as := [.int (zI ((j : Int) + 1))]) (rest := []) d204_93 rfl rfl rfl (hG.o (by decide) rfl) rfl rfl (Nat.le_of_ble_eq_true rfl) ?_
    have nk1 := nv1.part hk (g := 1) (by omega) bk1
    have ek1 : pN t j 1 = j + 1 := by omega
    rw [ek1] at nk1
    refine m_behind (lo := 0) (nd := a) (sc := b) (b := true) (i := j + 1) (l := tfl (nP t 1)) hG (by have h7 := nk1.len; unfold pnd at h7; omega) nk1.nx.1 nk1.nx.2 ?_
    show pm_Wp none (d + 2) 204 96 [some (.ref 56), some (.int (zI q)), some (.int (zI i)), some (.int (zI (j : Int))), some (.int (zI (pN t j 1 : Int))), some (.int (zI ((j : Int) + 1))), some (.int (zI 1)), some (.int (zI 1))] [.int (zI (((j + 1 + pnd (nY t) : Nat) : Int)))] (zM (mset N 93 (3 * i + 1) res), Rf, K, L, n, s0) Q
    refine wp_goto (t := 101) d204_96 (by decide) ?_
    refine wp_istore d204_101 (Nat.le_of_ble_eq_true rfl) rfl ?_
    refine wz_iinc d204_103 rfl rfl ?_
    refine wp_goto (t := 30) d204_106 (by decide) ?_
    refine wp_iload d204_30 rfl ?_
    refine wz_iconst d204_32 ?_
    refine wz_icmp_ge (t := 109) d204_33 (by decide) ⟨by omega, by omega⟩ ⟨by omega, by omega⟩ (fun hb => absurd hb (by omega)) (fun _ => ?_)
    refine wp_aload_n d204_36 rfl ?_
    refine wp_getR (q := 60) d204_37 rfl (hG.o (by decide) rfl) (by decide) (hG.r (by decide +kernel)) (by decide) ?_
    refine wp_iload_n d204_40 rfl ?_
    refine wz_iald (z := 128) (v := (nMk t : Int)) d204_41 (hG.a (by decide) rfl rfl) (by omega) (by omega) (by decide) (a60') ?_
    refine wp_iload d204_42 rfl ?_
    refine wz_ishrq (q := 4) d204_44 (by omega) (by omega) (by omega) (by omega) (by decide) ?_
    refine wz_iconst d204_45 ?_
    refine wz_and1 d204_46 (by first | omega | exact Int.natCast_nonneg _) ?_
    refine wz_iconst d204_47 ?_
    refine wz_icmp_ne (t := 55) d204_48 (by decide) ⟨by omega, by omega⟩ ⟨by omega, by omega⟩ (fun hz => ?_) (fun hz => ?_)
    · skip
      have bz2 : ¬ bit (nMk t) 2 = true := fun e => hz (bb2.mp e)
      have pz2 := nv.nil hk (g := 2) (by omega) bz2
      rw [y2] at pz2
      refine wz_iconst d204_55 ?_
      refine wp_istore d204_56 (Nat.le_of_ble_eq_true rfl) rfl ?_
      refine wp_iload d204_58 rfl ?_
      refine wz_if_eq (t := 85) d204_60 (by decide) ⟨by omega, by omega⟩ (fun _ => ?_) (fun hb => absurd (by omega) hb)
      refine wp_iload d204_85 rfl ?_
      refine wz_if_eq (t := 99) d204_87 (by decide) ⟨by omega, by omega⟩ (fun _ => ?_) (fun hb => absurd (by omega) hb)
      refine wp_iload d204_99 rfl ?_
      refine wp_istore d204_101 (Nat.le_of_ble_eq_true rfl) rfl ?_
      refine wz_iinc d204_103 rfl rfl ?_
      refine wp_goto (t := 30) d204_106 (by decide) ?_
      refine wp_iload d204_30 rfl ?_
      refine wz_iconst d204_32 ?_
      refine wz_icmp_ge (t := 109) d204_33 (by decide) ⟨by omega, by omega⟩ ⟨by omega, by omega⟩ (fun _ => ?_) (fun hb => absurd (by omega) hb)
      exact hQ _ _
    · skip
      have bk2 : bit (nMk t) 2 = true := bb2.mpr (by omega)
      have pk2 := p1 2 (by omega) bk2
      rw [y2] at pk2
      refine wz_iconst d204_51 ?_
      refine wp_goto (t := 56) d204_52 (by decide) ?_
      refine wp_istore d204_56 (Nat.le_of_ble_eq_true rfl) rfl ?_
      refine wp_iload d204_58 rfl ?_
      refine wz_if_eq (t := 85) d204_60 (by decide) ⟨by omega, by omega⟩ (fun hb => absurd hb (by omega)) (fun _ => ?_)
      refine wp_iload d204_63 rfl ?_
      refine wp_iload d204_65 rfl ?_
      refine wz_icmp_ne (t := 85) d204_67 (by decide) ⟨by omega, by omega⟩ ⟨by omega, by omega⟩ (fun _ => ?_) (fun hb => absurd hb (by omega))
      refine wp_iload d204_85 rfl ?_
      refine wz_if_eq (t := 99) d204_87 (by decide) ⟨by omega, by omega⟩ (fun hb => absurd hb (by omega)) (fun _ => ?_)
      refine wp_aload_n d204_90 rfl ?_
      refine wp_iload d204_91 rfl ?_
      refine wp_virt (as := [.int (zI (((j + 1 + pnd (nY t) : Nat) : Int)))]) (rest := []) d204_93 rfl rfl rfl (hG.o (by decide) rfl) rfl rfl (Nat.le_of_ble_eq_true rfl) ?_
      have nk2 := nv1.part hk (g := 2) (by omega) bk2
      have ek2 : pN t j 2 = j + 1 + pnd (nY t) := by omega
      rw [ek2] at nk2
      refine m_behind (lo := 0) (nd := a) (sc := b) (b := true) (i := j + 1 + pnd (nY t)) (l := tfl (nP t 2)) hG (by have h7 := nk2.len; unfold pnd at h7; omega) nk2.nx.1 nk2.nx.2 ?_
      show pm_Wp none (d + 2) 204 96 [some (.ref 56), some (.int (zI q)), some (.int (zI i)), some (.int (zI (j : Int))), some (.int (zI (pN t j 1 : Int))), some (.int (zI (((j + 1 + pnd (nY t) : Nat) : Int)))), some (.int (zI 2)), some (.int (zI 1))] [.int (zI (((j + 1 + pnd (nY t) + pnd (nZ t) : Nat) : Int)))] (zM (mset N 93 (3 * i + 1) res), Rf, K, L, n, s0) Q
      refine wp_goto (t := 101) d204_96 (by decide) ?_
      refine wp_istore d204_101 (Nat.le_of_ble_eq_true rfl) rfl ?_
      refine wz_iinc d204_103 rfl rfl ?_
      refine wp_goto (t := 30) d204_106 (by decide) ?_
      refine wp_iload d204_30 rfl ?_
      refine wz_iconst d204_32 ?_
      refine wz_icmp_ge (t := 109) d204_33 (by decide) ⟨by omega, by omega⟩ ⟨by omega, by omega⟩ (fun _ => ?_) (fun hb => absurd (by omega) hb)
      exact hQ _ _
  · skip
    have bk0 : bit (nMk t) 0 = true := bb0.mpr (by omega)
    have pk0 := p1 0 (by omega) bk0
    rw [y0] at pk0
    refine wz_iconst d204_51 ?_
    refine wp_goto (t := 56) d204_52 (by decide) ?_
    refine wp_istore d204_56 (Nat.le_of_ble_eq_true rfl) rfl ?_
    refine wp_iload d204_58 rfl ?_
    refine wz_if_eq (t := 85) d204_60 (by decide) ⟨by omega, by omega⟩ (fun hb => absurd hb (by omega)) (fun _ => ?_)
    refine wp_iload d204_63 rfl ?_
    refine wp_iload d204_65 rfl ?_
    refine wz_icmp_ne (t := 85) d204_67 (by decide) ⟨by omega, by omega⟩ ⟨by omega, by omega⟩ (fun _ => ?_) (fun hb => absurd hb (by omega))
    refine wp_iload d204_85 rfl ?_
    refine wz_if_eq (t := 99) d204_87 (by decide) ⟨by omega, by omega⟩ (fun hb => absurd hb (by omega)) (fun _ => ?_)
    refine wp_aload_n d204_90 rfl ?_
    refine wp_iload d204_91 rfl ?_
    refine wp_virt (as := [.int (zI ((j : Int) + 1))]) (rest := []) d204_93 rfl rfl rfl (hG.o (by decide) rfl) rfl rfl (Nat.le_of_ble_eq_true rfl) ?_
    have nk0 := nv.part hk (g := 0) (by omega) bk0
    have ek0 : pN t j 0 = j + 1 := by omega
    rw [ek0] at nk0
    refine m_behind (lo := 0) (nd := a) (sc := b) (b := true) (i := j + 1) (l := tfl (nP t 0)) hG (by have h7 := nk0.len; unfold pnd at h7; omega) nk0.nx.1 nk0.nx.2 ?_
    show pm_Wp none (d + 2) 204 96 [some (.ref 56), some (.int (zI q)), some (.int (zI i)), some (.int (zI (j : Int))), some (.int (zI (pN t j 1 : Int))), some (.int (zI ((j : Int) + 1))), some (.int (zI 0)), some (.int (zI 1))] [.int (zI (((j + 1 + pnd (nX t) : Nat) : Int)))] (zM N, Rf, K, L, n, s0) Q
    refine wp_goto (t := 101) d204_96 (by decide) ?_
    refine wp_istore d204_101 (Nat.le_of_ble_eq_true rfl) rfl ?_
    refine wz_iinc d204_103 rfl rfl ?_
    refine wp_goto (t := 30) d204_106 (by decide) ?_
    refine wp_iload d204_30 rfl ?_
    refine wz_iconst d204_32 ?_
    refine wz_icmp_ge (t := 109) d204_33 (by decide) ⟨by omega, by omega⟩ ⟨by omega, by omega⟩ (fun hb => absurd hb (by omega)) (fun _ => ?_)
    refine wp_aload_n d204_36 rfl ?_
    refine wp_getR (q := 60) d204_37 rfl (hG.o (by decide) rfl) (by decide) (hG.r (by decide +kernel)) (by decide) ?_
    refine wp_iload_n d204_40 rfl ?_
    refine wz_iald (z := 128) (v := (nMk t : Int)) d204_41 (hG.a (by decide) rfl rfl) (by omega) (by omega) (by decide) (a60) ?_
    refine wp_iload d204_42 rfl ?_
    refine wz_ishrq (q := 2) d204_44 (by omega) (by omega) (by omega) (by omega) (by decide) ?_
    refine wz_iconst d204_45 ?_
    refine wz_and1 d204_46 (by first | omega | exact Int.natCast_nonneg _) ?_
    refine wz_iconst d204_47 ?_
    refine wz_icmp_ne (t := 55) d204_48 (by decide) ⟨by omega, by omega⟩ ⟨by omega, by omega⟩ (fun hb => absurd (by omega) hb) (fun _ => ?_)
    have bk1 : bit (nMk t) 1 = true := hb
    have pk1 := p1 1 (by omega) bk1
    rw [y1] at pk1
    refine wz_iconst d204_51 ?_
    refine wp_goto (t := 56) d204_52 (by decide) ?_
    refine wp_istore d204_56 (Nat.le_of_ble_eq_true rfl) rfl ?_
    refine wp_iload d204_58 rfl ?_
    refine wz_if_eq (t := 85) d204_60 (by decide) ⟨by omega, by omega⟩ (fun hb => absurd hb (by omega)) (fun _ => ?_)
    refine wp_iload d204_63 rfl ?_
    refine wp_iload d204_65 rfl ?_
    refine wz_icmp_ne (t := 85) d204_67 (by decide) ⟨by omega, by omega⟩ ⟨by omega, by omega⟩ (fun hb => absurd (by omega) hb) (fun _ => ?_)
    refine wp_aload_n d204_70 rfl ?_
    refine wp_getR (q := 93) d204_71 rfl (hG.o (by decide) rfl) (by decide) (hG.r (by decide +kernel)) (by decide) ?_
    refine wz_iconst d204_74 ?_
    refine wp_iload_n d204_75 rfl ?_
    refine wz_imul d204_76 ?_
    refine wp_iload d204_77 rfl ?_
    refine wz_iadd d204_79 ?_
    refine wp_aload_n d204_80 rfl ?_
    refine wz_getI (v := res) d204_81 rfl (hG.o (by decide) rfl) (by decide) (e48) ?_
    refine wz_iast (z := 12000) d204_84 (hG.a (by decide) rfl rfl) (by omega) (by omega) (by decide) ?_
    refine wp_iload d204_85 rfl ?_
    refine wz_if_eq (t := 99) d204_87 (by decide) ⟨by omega, by omega⟩ (fun hb => absurd hb (by omega)) (fun _ => ?_)
    refine wp_aload_n d204_90 rfl ?_
    refine wp_iload d204_91 rfl ?_
    refine wp_virt (as := [.int (zI (((j + 1 + pnd (nX t) : Nat) : Int)))]) (rest := []) d204_93 rfl rfl rfl (hG.o (by decide) rfl) rfl rfl (Nat.le_of_ble_eq_true rfl) ?_
    have nk1 := nv1.part hk (g := 1) (by omega) bk1
    have ek1 : pN t j 1 = j + 1 + pnd (nX t) := by omega
    rw [ek1] at nk1
    refine m_behind (lo := 0) (nd := a) (sc := b) (b := true) (i := j + 1 + pnd (nX t)) (l := tfl (nP t 1)) hG (by have h7 := nk1.len; unfold pnd at h7; omega) nk1.nx.1 nk1.nx.2 ?_
    show pm_Wp none (d + 2) 204 96 [some (.ref 56), some (.int (zI q)), some (.int (zI i)), some (.int (zI (j : Int))), some (.int (zI (pN t j 1 : Int))), some (.int (zI (((j + 1 + pnd (nX t) : Nat) : Int)))), some (.int (zI 1)), some (.int (zI 1))] [.int (zI (((j + 1 + pnd (nX t) + pnd (nY t) : Nat) : Int)))] (zM (mset N 93 (3 * i + 1) res), Rf, K, L, n, s0) Q
    refine wp_goto (t := 101) d204_96 (by decide) ?_
    refine wp_istore d204_101 (Nat.le_of_ble_eq_true rfl) rfl ?_
    refine wz_iinc d204_103 rfl rfl ?_
    refine wp_goto (t := 30) d204_106 (by decide) ?_
    refine wp_iload d204_30 rfl ?_
    refine wz_iconst d204_32 ?_
    refine wz_icmp_ge (t := 109) d204_33 (by decide) ⟨by omega, by omega⟩ ⟨by omega, by omega⟩ (fun hb => absurd hb (by omega)) (fun _ => ?_)
    refine wp_aload_n d204_36 rfl ?_
    refine wp_getR (q := 60) d204_37 rfl (hG.o (by decide) rfl) (by decide) (hG.r (by decide +kernel)) (by decide) ?_
    refine wp_iload_n d204_40 rfl ?_
    refine wz_iald (z := 128) (v := (nMk t : Int)) d204_41 (hG.a (by decide) rfl rfl) (by omega) (by omega) (by decide) (a60') ?_
    refine wp_iload d204_42 rfl ?_
    refine wz_ishrq (q := 4) d204_44 (by omega) (by omega) (by omega) (by omega) (by decide) ?_
    refine wz_iconst d204_45 ?_
    refine wz_and1 d204_46 (by first | omega | exact Int.natCast_nonneg _) ?_
    refine wz_iconst d204_47 ?_
    refine wz_icmp_ne (t := 55) d204_48 (by decide) ⟨by omega, by omega⟩ ⟨by omega, by omega⟩ (fun hz => ?_) (fun hz => ?_)
    · skip
      have bz2 : ¬ bit (nMk t) 2 = true := fun e => hz (bb2.mp e)
      have pz2 := nv.nil hk (g := 2) (by omega) bz2
      rw [y2] at pz2
      refine wz_iconst d204_55 ?_
      refine wp_istore d204_56 (Nat.le_of_ble_eq_true rfl) rfl ?_
      refine wp_iload d204_58 rfl ?_
      refine wz_if_eq (t := 85) d204_60 (by decide) ⟨by omega, by omega⟩ (fun _ => ?_) (fun hb => absurd (by omega) hb)
      refine wp_iload d204_85 rfl ?_
      refine wz_if_eq (t := 99) d204_87 (by decide) ⟨by omega, by omega⟩ (fun _ => ?_) (fun hb => absurd (by omega) hb)
      refine wp_iload d204_99 rfl ?_
      refine wp_istore d204_101 (Nat.le_of_ble_eq_true rfl) rfl ?_
      refine wz_iinc d204_103 rfl rfl ?_
      refine wp_goto (t := 30) d204_106 (by decide) ?_
      refine wp_iload d204_30 rfl ?_
      refine wz_iconst d204_32 ?_
      refine wz_icmp_ge (t := 109) d204_33 (by decide) ⟨by omega, by omega⟩ ⟨by omega, by omega⟩ (fun _ => ?_) (fun hb => absurd (by omega) hb)
      exact hQ _ _
    · skip
      have bk2 : bit (nMk t) 2 = true := bb2.mpr (by omega)
      have pk2 := p1 2 (by omega) bk2
      rw [y2] at pk2
      refine wz_iconst d204_51 ?_
      refine wp_goto (t := 56) d204_52 (by decide) ?_
      refine wp_istore d204_56 (Nat.le_of_ble_eq_true rfl) rfl ?_
      refine wp_iload d204_58 rfl ?_
      refine wz_if_eq (t := 85) d204_60 (by decide) ⟨by omega, by omega⟩ (fun hb => absurd hb (by omega)) (fun _ => ?_)
      refine wp_iload d204_63 rfl ?_
      refine wp_iload d204_65 rfl ?_
      refine wz_icmp_ne (t := 85) d204_67 (by decide) ⟨by omega, by omega⟩ ⟨by omega, by omega⟩ (fun _ => ?_) (fun hb => absurd hb (by omega))
      refine wp_iload d204_85 rfl ?_
      refine wz_if_eq (t := 99) d204_87 (by decide) ⟨by omega, by omega⟩ (fun hb => absurd hb (by omega)) (fun _ => ?_)
      refine wp_aload_n d204_90 rfl ?_
      refine wp_iload d204_91 rfl ?_
      refine wp_virt (as := [.int (zI (((j + 1 + pnd (nX t) + pnd (nY t) : Nat) : Int)))]) (rest := []) d204_93 rfl rfl rfl (hG.o (by decide) rfl) rfl rfl (Nat.le_of_ble_eq_true rfl) ?_
      have nk2 := nv1.part hk (g := 2) (by omega) bk2
      have ek2 : pN t j 2 = j + 1 + pnd (nX t) + pnd (nY t) := by omega
      rw [ek2] at nk2
      refine m_behind (lo := 0) (nd := a) (sc := b) (b := true) (i := j + 1 + pnd (nX t) + pnd (nY t)) (l := tfl (nP t 2)) hG (by have h7 := nk2.len; unfold pnd at h7; omega) nk2.nx.1 nk2.nx.2 ?_
      show pm_Wp none (d + 2) 204 96 [some (.ref 56), some (.int (zI q)), some (.int (zI i)), some (.int (zI (j : Int))), some (.int (zI (pN t j 1 : Int))), some (.int (zI (((j + 1 + pnd (nX t) + pnd (nY t) : Nat) : Int)))), some (.int (zI 2)), some (.int (zI 1))] [.int (zI (((j + 1 + pnd (nX t) + pnd (nY t) + pnd (nZ t) : Nat) : Int)))] (zM (mset N 93 (3 * i + 1) res), Rf, K, L, n, s0) Q
      refine wp_goto (t := 101) d204_96 (by decide) ?_
      refine wp_istore d204_101 (Nat.le_of_ble_eq_true rfl) rfl ?_
      refine wz_iinc d204_103 rfl rfl ?_
      refine wp_goto (t := 30) d204_106 (by decide) ?_
      refine wp_iload d204_30 rfl ?_
      refine wz_iconst d204_32 ?_
      refine wz_icmp_ge (t := 109) d204_33 (by decide) ⟨by omega, by omega⟩ ⟨by omega, by omega⟩ (fun _ => ?_) (fun hb => absurd (by omega) hb)
      exact hQ _ _
theorem fill_loop2 (hG : pm_G Rf K L n) (hM : ∀ p i, R32 (N p i)) (a6 : a ≤ 60) (b6 : b ≤ 60) (nv : NV N a b t j s ch) (hk : nKd t = 10) (hb : bit (nMk t) 2 = true) (q0 : 0 ≤ q) (q1 : q < 4000) (i0 : 0 ≤ i) (i1 : i < 4000) (e97 : N 97 q = i) (e91 : N 91 i = (j : Int)) (e95 : N 95 q = (pN t j 2 : Int)) (e48 : N 56 48 = res) (hQ : ∀ x y : Int, pm_Wp none (d + 2) 204 109 [some (.ref 56), some (.int (zI q)), some (.int (zI i)), some (.int (zI (j : Int))), some (.int (zI (pN t j 2 : Int))), some (.int (zI x)), some (.int (zI 3)), some (.int (zI y))] [] (zM (mset N 93 (3 * i + 2) res), Rf, K, L, n, s0) Q) : pm_Wc (d + 3) 204 [.ref 56, .int (zI q)] (zM N, Rf, K, L, n, s0) Q := by
  have m8 := nv.mk.2.2.1 hk
  have a60 : N 60 (j : Int) = (nMk t : Int) := nv.mk.2.1 (by omega)
  have a60' : (mset N 93 (3 * i + 2) res) 60 (j : Int) = (nMk t : Int) := by rw [mset_i' (by omega)]; exact a60
  have jl := nv.lt
  have ln := nv.len
  have pt1 := pnd_is nv.sp
  have rr : R32 res := by rw [← e48]; exact hM _ _
  have pg : pN t j 2 ≤ 60 := by have h1 := (nv.part hk (g := 2) (by omega) hb).len; omega
  have nv1 : NV (mset N 93 (3 * i + 2) res) a b t j s ch := nv.keep (fun p i p1 p2 => mset_i' (by omega))
  have p1 : ∀ g, g < 3 → bit (nMk t) g = true → 1 ≤ pnd (nP t g) := fun g hg hb => by have := pnd_is (nv.part hk hg hb).sp; omega
  have bb0 : bit (nMk t) 0 = true ↔ (nMk t : Int) / 1 % 2 = 1 := by rw [bit_ar]; omega
  have bb1 : bit (nMk t) 1 = true ↔ (nMk t : Int) / 2 % 2 = 1 := by rw [bit_ar]; omega
  have bb2 : bit (nMk t) 2 = true ↔ (nMk t : Int) / 4 % 2 = 1 := by rw [bit_ar]; omega
  have pn0 : pN t j 0 = j + 1 := rfl
  have pn1 : pN t j 1 = j + 1 + pnd (nX t) := rfl
  have pn2 : pN t j 2 = j + 1 + pnd (nX t) + pnd (nY t) := rfl
  have y0 : nP t 0 = nX t := rfl
  have y1 : nP t 1 = nY t := rfl
  have y2 : nP t 2 = nZ t := rfl
  have hbg := bb2.mp hb
  refine wc_in (ls0 := [some (.ref 56), some (.int (zI q)), none, none, none, none, none, none]) (by decide) (Nat.le_of_ble_eq_true rfl) rfl rfl ?_
  refine wp_aload_n d204_0 rfl ?_
  refine wp_getR (q := 97) d204_1 rfl (hG.o (by decide) rfl) (by decide) (hG.r (by decide +kernel)) (by decide) ?_
  refine wp_iload_n d204_4 rfl ?_
  refine wz_iald (z := 4000) (v := i) d204_5 (hG.a (by decide) rfl rfl) (by omega) (by omega) (by decide) (e97) ?_
  refine wp_istore_n d204_6 (Nat.le_of_ble_eq_true rfl) rfl ?_
  refine wp_aload_n d204_7 rfl ?_
  refine wp_getR (q := 91) d204_8 rfl (hG.o (by decide) rfl) (by decide) (hG.r (by decide +kernel)) (by decide) ?_
  refine wp_iload_n d204_11 rfl ?_
  refine wz_iald (z := 4000) (v := (j : Int)) d204_12 (hG.a (by decide) rfl rfl) (by omega) (by omega) (by decide) (e91) ?_
  refine wp_istore_n d204_13 (Nat.le_of_ble_eq_true rfl) rfl ?_
  refine wp_aload_n d204_14 rfl ?_
  refine wp_getR (q := 95) d204_15 rfl (hG.o (by decide) rfl) (by decide) (hG.r (by decide +kernel)) (by decide) ?_
  refine wp_iload_n d204_18 rfl ?_
  refine wz_iald (z := 4000) (v := (pN t j 2 : Int)) d204_19 (hG.a (by decide) rfl rfl) (by omega) (by omega) (by decide) (e95) ?_
  refine wp_istore d204_20 (Nat.le_of_ble_eq_true rfl) rfl ?_
  refine wp_iload_n d204_22 rfl ?_
  refine wz_iconst d204_23 ?_
  refine wz_iadd d204_24 ?_
  refine wp_istore d204_25 (Nat.le_of_ble_eq_true rfl) rfl ?_
  refine wz_iconst d204_27 ?_
  refine wp_istore d204_28 (Nat.le_of_ble_eq_true rfl) rfl ?_
  refine wp_iload d204_30 rfl ?_
  refine wz_iconst d204_32 ?_
  refine wz_icmp_ge (t := 109) d204_33 (by decide) ⟨by omega, by omega⟩ ⟨by omega, by omega⟩ (fun hb => absurd hb (by omega)) (fun _ => ?_)
  refine wp_aload_n d204_36 rfl ?_
  refine wp_getR (q := 60) d204_37 rfl (hG.o (by decide) rfl) (by decide) (hG.r (by decide +kernel)) (by decide) ?_
  refine wp_iload_n d204_40 rfl ?_
  refine wz_iald (z := 128) (v := (nMk t : Int)) d204_41 (hG.a (by decide) rfl rfl) (by omega) (by omega) (by decide) (a60) ?_
  refine wp_iload d204_42 rfl ?_
  refine wz_ishrq (q := 1) d204_44 (by omega) (by omega) (by omega) (by omega) (by decide) ?_
  refine wz_iconst d204_45 ?_
  refine wz_and1 d204_46 (by first | omega | exact Int.natCast_nonneg _) ?_
  refine wz_iconst d204_47 ?_
  refine wz_icmp_ne (t := 55) d204_48 (by decide) ⟨by omega, by omega⟩ ⟨by omega, by omega⟩ (fun hz => ?_) (fun hz => ?_)
  · skip
    have bz0 : ¬ bit (nMk t) 0 = true := fun e => hz (bb0.mp e)
    have pz0 := nv.nil hk (g := 0) (by omega) bz0
    rw [y0] at pz0
    refine wz_iconst d204_55 ?_
    refine wp_istore d204_56 (Nat.le_of_ble_eq_true rfl) rfl ?_
    refine wp_iload d204_58 rfl ?_
    refine wz_if_eq (t := 85) d204_60 (by decide) ⟨by omega, by omega⟩ (fun _ => ?_) (fun hb => absurd (by omega) hb)
    refine wp_iload d204_85 rfl ?_
    refine wz_if_eq (t := 99) d204_87 (by decide) ⟨by omega, by omega⟩ (fun _ => ?_) (fun hb => absurd (by omega) hb)
    refine wp_iload d204_99 rfl ?_
    refine wp_istore d204_101 (Nat.le_of_ble_eq_true rfl) rfl ?_
    refine wz_iinc d204_103 rfl rfl ?_
    refine wp_goto (t := 30) d204_106 (by decide) ?_
    refine wp_iload d204_30 rfl ?_
    refine wz_iconst d204_32 ?_
    refine wz_icmp_ge (t := 109) d204_33 (by decide) ⟨by omega, by omega⟩ ⟨by omega, by omega⟩ (fun hb => absurd hb (by omega)) (fun _ => ?_)
    refine wp_aload_n d204_36 rfl ?_
    refine wp_getR (q := 60) d204_37 rfl (hG.o (by decide) rfl) (by decide) (hG.r (by decide +kernel)) (by decide) ?_
    refine wp_iload_n d204_40 rfl ?_
    refine wz_iald (z := 128) (v := (nMk t : Int)) d204_41 (hG.a (by decide) rfl rfl) (by omega) (by omega) (by decide) (a60) ?_
    refine wp_iload d204_42 rfl ?_
    refine wz_ishrq (q := 2) d204_44 (by omega) (by omega) (by omega) (by omega) (by decide) ?_
    refine wz_iconst d204_45 ?_
    refine wz_and1 d204_46 (by first | omega | exact Int.natCast_nonneg _) ?_
    refine wz_iconst d204_47 ?_
    refine wz_icmp_ne (t := 55) d204_48 (by decide) ⟨by omega, by omega⟩ ⟨by omega, by omega⟩ (fun hz => ?_) (fun hz => ?_)
    · skip
      have bz1 : ¬ bit (nMk t) 1 = true := fun e => hz (bb1.mp e)
      have pz1 := nv.nil hk (g := 1) (by omega) bz1
      rw [y1] at pz1
      refine wz_iconst d204_55 ?_
      refine wp_istore d204_56 (Nat.le_of_ble_eq_true rfl) rfl ?_
      refine wp_iload d204_58 rfl ?_
      refine wz_if_eq (t := 85) d204_60 (by decide) ⟨by omega, by omega⟩ (fun _ => ?_) (fun hb => absurd (by omega) hb)
      refine wp_iload d204_85 rfl ?_
      refine wz_if_eq (t := 99) d204_87 (by decide) ⟨by omega, by omega⟩ (fun _ => ?_) (fun hb => absurd (by omega) hb)
      refine wp_iload d204_99 rfl ?_
      refine wp_istore d204_101 (Nat.le_of_ble_eq_true rfl) rfl ?_
      refine wz_iinc d204_103 rfl rfl ?_
      refine wp_goto (t := 30) d204_106 (by decide) ?_
      refine wp_iload d204_30 rfl ?_
      refine wz_iconst d204_32 ?_
      refine wz_icmp_ge (t := 109) d204_33 (by decide) ⟨by omega, by omega⟩ ⟨by omega, by omega⟩ (fun hb => absurd hb (by omega)) (fun _ => ?_)
      refine wp_aload_n d204_36 rfl ?_
      refine wp_getR (q := 60) d204_37 rfl (hG.o (by decide) rfl) (by decide) (hG.r (by decide +kernel)) (by decide) ?_
      refine wp_iload_n d204_40 rfl ?_
      refine wz_iald (z := 128) (v := (nMk t : Int)) d204_41 (hG.a (by decide) rfl rfl) (by omega) (by omega) (by decide) (a60) ?_
      refine wp_iload d204_42 rfl ?_
      refine wz_ishrq (q := 4) d204_44 (by omega) (by omega) (by omega) (by omega) (by decide) ?_
      refine wz_iconst d204_45 ?_
      refine wz_and1 d204_46 (by first | omega | exact Int.natCast_nonneg _) ?_
      refine wz_iconst d204_47 ?_
      refine wz_icmp_ne (t := 55) d204_48 (by decide) ⟨by omega, by omega⟩ ⟨by omega, by omega⟩ (fun hb => absurd (by omega) hb) (fun _ => ?_)
      have bk2 : bit (nMk t) 2 = true := hb
      have pk2 := p1 2 (by omega) bk2
      rw [y2] at pk2
      refine wz_iconst d204_51 ?_
      refine wp_goto (t := 56) d204_52 (by decide) ?_
      refine wp_istore d204_56 (Nat.le_of_ble_eq_true rfl) rfl ?_
      refine wp_iload d204_58 rfl ?_
      refine wz_if_eq (t := 85) d204_60 (by decide) ⟨by omega, by omega⟩ (fun hb => absurd hb (by omega)) (fun _ => ?_)
      refine wp_iload d204_63 rfl ?_
      refine wp_iload d204_65 rfl ?_
      refine wz_icmp_ne (t := 85) d204_67 (by decide) ⟨by omega, by omega⟩ ⟨by omega, by omega⟩ (fun hb => absurd (by omega) hb) (fun _ => ?_)
      refine wp_aload_n d204_70 rfl ?_
      refine wp_getR (q := 93) d204_71 rfl (hG.o (by decide) rfl) (by decide) (hG.r (by decide +kernel)) (by decide) ?_
      refine wz_iconst d204_74 ?_
      refine wp_iload_n d204_75 rfl ?_
      refine wz_imul d204_76 ?_
      refine wp_iload d204_77 rfl ?_
      refine wz_iadd d204_79 ?_
      refine wp_aload_n d204_80 rfl ?_
      refine wz_getI (v := res) d204_81 rfl (hG.o (by decide) rfl) (by decide) (e48) ?_
      refine wz_iast (z := 12000) d204_84 (hG.a (by decide) rfl rfl) (by omega) (by omega) (by decide) ?_
      refine wp_iload d204_85 rfl ?_
      refine wz_if_eq (t := 99) d204_87 (by decide) ⟨by omega, by omega⟩ (fun hb => absurd hb (by omega)) (fun _ => ?_)
      refine wp_aload_n d204_90 rfl ?_
      refine wp_iload d204_91 rfl ?_
      refine wp_virt (as := [.int (zI ((j : Int) + 1))]) (rest := []) d204_93 rfl rfl rfl (hG.o (by decide) rfl) rfl rfl (Nat.le_of_ble_eq_true rfl) ?_
      have nk2 := nv1.part hk (g := 2) (by omega) bk2
      have ek2 : pN t j 2 = j + 1 := by omega
      rw [ek2] at nk2
      refine m_behind (lo := 0) (nd := a) (sc := b) (b := true) (i := j + 1) (l := tfl (nP t 2)) hG (by have h7 := nk2.len; unfold pnd at h7; omega) nk2.nx.1 nk2.nx.2 ?_
      show pm_Wp none (d + 2) 204 96 [some (.ref 56), some (.int (zI q)), some (.int (zI i)), some (.int (zI (j : Int))), some (.int (zI (pN t j 2 : Int))), some (.int (zI ((j : Int) + 1))), some (.int (zI 2)), some (.int (zI 1))] [.int (zI (((j + 1 + pnd (nZ t) : Nat) : Int)))] (zM (mset N 93 (3 * i + 2) res), Rf, K, L, n, s0) Q
      refine wp_goto (t := 101) d204_96 (by decide) ?_
      refine wp_istore d204_101 (Nat.le_of_ble_eq_true rfl) rfl ?_
      refine wz_iinc d204_103 rfl rfl ?_
      refine wp_goto (t := 30) d204_106 (by decide) ?_
      refine wp_iload d204_30 rfl ?_
      refine wz_iconst d204_32 ?_
      refine wz_icmp_ge (t := 109) d204_33 (by decide) ⟨by omega, by omega⟩ ⟨by omega, by omega⟩ (fun _ => ?_) (fun hb => absurd (by omega) hb)
      exact hQ _ _
    · skip
      have bk1 : bit (nMk t) 1 = true := bb1.mpr (by omega)
      have pk1 := p1 1 (by omega) bk1
      rw [y1] at pk1
      refine wz_iconst d204_51 ?_
      refine wp_goto (t := 56) d204_52 (by decide) ?_
      refine wp_istore d204_56 (Nat.le_of_ble_eq_true rfl) rfl ?_
      refine wp_iload d204_58 rfl ?_
      refine wz_if_eq (t := 85) d204_60 (by decide) ⟨by omega, by omega⟩ (fun hb => absurd hb (by omega)) (fun _ => ?_)
      refine wp_iload d204_63 rfl ?_
      refine wp_iload d204_65 rfl ?_
      refine wz_icmp_ne (t := 85) d204_67 (by decide) ⟨by omega, by omega⟩ ⟨by omega, by omega⟩ (fun _ => ?_) (fun hb => absurd hb (by omega))
      refine wp_iload d204_85 rfl ?_
      refine wz_if_eq (t := 99) d204_87 (by decide) ⟨by omega, by omega⟩ (fun hb => absurd hb (by omega)) (fun _ => ?_)
      refine wp_aload_n d204_90 rfl ?_
      refine wp_iload d204_91 rfl ?_
      refine wp_virt (as := [.int (zI ((j : Int) + 1))]) (rest := []) d204_93 rfl rfl rfl (hG.o (by decide) rfl) rfl rfl (Nat.le_of_ble_eq_true rfl) ?_
      have nk1 := nv.part hk (g := 1) (by omega) bk1
      have ek1 : pN t j 1 = j + 1 := by omega
      rw [ek1] at nk1
      refine m_behind (lo := 0) (nd := a) (sc := b) (b := true) (i := j + 1) (l := tfl (nP t 1)) hG (by have h7 := nk1.len; unfold pnd at h7; omega) nk1.nx.1 nk1.nx.2 ?_
      show pm_Wp none (d + 2) 204 96 [some (.ref 56), some (.int (zI q)), some (.int (zI i)), some (.int (zI (j : Int))), some (.int (zI (pN t j 2 : Int))), some (.int (zI ((j : Int) + 1))), some (.int (zI 1)), some (.int (zI 1))] [.int (zI (((j + 1 + pnd (nY t) : Nat) : Int)))] (zM N, Rf, K, L, n, s0) Q
      refine wp_goto (t := 101) d204_96 (by decide) ?_
      refine wp_istore d204_101 (Nat.le_of_ble_eq_true rfl) rfl ?_
      refine wz_iinc d204_103 rfl rfl ?_
      refine wp_goto (t := 30) d204_106 (by decide) ?_
      refine wp_iload d204_30 rfl ?_
      refine wz_iconst d204_32 ?_
      refine wz_icmp_ge (t := 109) d204_33 (by decide) ⟨by omega, by omega⟩ ⟨by omega, by omega⟩ (fun hb => absurd hb (by omega)) (fun _ => ?_)
      refine wp_aload_n d204_36 rfl ?_
      refine wp_getR (q := 60) d204_37 rfl (hG.o (by decide) rfl) (by decide) (hG.r (by decide +kernel)) (by decide) ?_
      refine wp_iload_n d204_40 rfl ?_
      refine wz_iald (z := 128) (v := (nMk t : Int)) d204_41 (hG.a (by decide) rfl rfl) (by omega) (by omega) (by decide) (a60) ?_
      refine wp_iload d204_42 rfl ?_
      refine wz_ishrq (q := 4) d204_44 (by omega) (by omega) (by omega) (by omega) (by decide) ?_
      refine wz_iconst d204_45 ?_
      refine wz_and1 d204_46 (by first | omega | exact Int.natCast_nonneg _) ?_
      refine wz_iconst d204_47 ?_
      refine wz_icmp_ne (t := 55) d204_48 (by decide) ⟨by omega, by omega⟩ ⟨by omega, by omega⟩ (fun hb => absurd (by omega) hb) (fun _ => ?_)
      have bk2 : bit (nMk t) 2 = true := hb
      have pk2 := p1 2 (by omega) bk2
      rw [y2] at pk2
      refine wz_iconst d204_51 ?_
      refine wp_goto (t := 56) d204_52 (by decide) ?_
      refine wp_istore d204_56 (Nat.le_of_ble_eq_true rfl) rfl ?_
      refine wp_iload d204_58 rfl ?_
      refine wz_if_eq (t := 85) d204_60 (by decide) ⟨by omega, by omega⟩ (fun hb => absurd hb (by omega)) (fun _ => ?_)
      refine wp_iload d204_63 rfl ?_
      refine wp_iload d204_65 rfl ?_
      refine wz_icmp_ne (t := 85) d204_67 (by decide) ⟨by omega, by omega⟩ ⟨by omega, by omega⟩ (fun hb => absurd (by omega) hb) (fun _ => ?_)
      refine wp_aload_n d204_70 rfl ?_
      refine wp_getR (q := 93) d204_71 rfl (hG.o (by decide) rfl) (by decide) (hG.r (by decide +kernel)) (by decide) ?_
      refine wz_iconst d204_74 ?_
      refine wp_iload_n d204_75 rfl ?_
      refine wz_imul d204_76 ?_
      refine wp_iload d204_77 rfl ?_
      refine wz_iadd d204_79 ?_
      refine wp_aload_n d204_80 rfl ?_
      refine wz_getI (v := res) d204_81 rfl (hG.o (by decide) rfl) (by decide) (e48) ?_
      refine wz_iast (z := 12000) d204_84 (hG.a (by decide) rfl rfl) (by omega) (by omega) (by decide) ?_
      refine wp_iload d204_85 rfl ?_
      refine wz_if_eq (t := 99) d204_87 (by decide) ⟨by omega, by omega⟩ (fun hb => absurd hb (by omega)) (fun _ => ?_)
      refine wp_aload_n d204_90 rfl ?_
      refine wp_iload d204_91 rfl ?_
      refine wp_virt (as := [.int (zI (((j + 1 + pnd (nY t) : Nat) : Int)))]) (rest := []) d204_93 rfl rfl rfl (hG.o (by decide) rfl) rfl rfl (Nat.le_of_ble_eq_true rfl) ?_
      have nk2 := nv1.part hk (g := 2) (by omega) bk2
      have ek2 : pN t j 2 = j + 1 + pnd (nY t) := by omega
      rw [ek2] at nk2
      refine m_behind (lo := 0) (nd := a) (sc := b) (b := true) (i := j + 1 + pnd (nY t)) (l := tfl (nP t 2)) hG (by have h7 := nk2.len; unfold pnd at h7; omega) nk2.nx.1 nk2.nx.2 ?_
      show pm_Wp none (d + 2) 204 96 [some (.ref 56), some (.int (zI q)), some (.int (zI i)), some (.int (zI (j : Int))), some (.int (zI (pN t j 2 : Int))), some (.int (zI (((j + 1 + pnd (nY t) : Nat) : Int)))), some (.int (zI 2)), some (.int (zI 1))] [.int (zI (((j + 1 + pnd (nY t) + pnd (nZ t) : Nat) : Int)))] (zM (mset N 93 (3 * i + 2) res), Rf, K, L, n, s0) Q
      refine wp_goto (t := 101) d204_96 (by decide) ?_
      refine wp_istore d204_101 (Nat.le_of_ble_eq_true rfl) rfl ?_
      refine wz_iinc d204_103 rfl rfl ?_
      refine wp_goto (t := 30) d204_106 (by decide) ?_
      refine wp_iload d204_30 rfl ?_
      refine wz_iconst d204_32 ?_
      refine wz_icmp_ge (t := 109) d204_33 (by decide) ⟨by omega, by omega⟩ ⟨by omega, by omega⟩ (fun _ => ?_) (fun hb => absurd (by omega) hb)
      exact hQ _ _
  · skip
    have bk0 : bit (nMk t) 0 = true := bb0.mpr (by omega)
    have pk0 := p1 0 (by omega) bk0
    rw [y0] at pk0
    refine wz_iconst d204_51 ?_
    refine wp_goto (t := 56) d204_52 (by decide) ?_
    refine wp_istore d204_56 (Nat.le_of_ble_eq_true rfl) rfl ?_
    refine wp_iload d204_58 rfl ?_
    refine wz_if_eq (t := 85) d204_60 (by decide) ⟨by omega, by omega⟩ (fun hb => absurd hb (by omega)) (fun _ => ?_)
    refine wp_iload d204_63 rfl ?_
    refine wp_iload d204_65 rfl ?_
    refine wz_icmp_ne (t := 85) d204_67 (by decide) ⟨by omega, by omega⟩ ⟨by omega, by omega⟩ (fun _ => ?_) (fun hb => absurd hb (by omega))
    refine wp_iload d204_85 rfl ?_
    refine wz_if_eq (t := 99) d204_87 (by decide) ⟨by omega, by omega⟩ (fun hb => absurd hb (by omega)) (fun _ => ?_)
    refine wp_aload_n d204_90 rfl ?_
    refine wp_iload d204_91 rfl ?_
    refine wp_virt (as := [.int (zI ((j : Int) + 1))]) (rest := []) d204_93 rfl rfl rfl (hG.o (by decide) rfl) rfl rfl (Nat.le_of_ble_eq_true rfl) ?_
    have nk0 := nv.part hk (g := 0) (by omega) bk0
    have ek0 : pN t j 0 = j + 1 := by omega
    rw [ek0] at nk0
    refine m_behind (lo := 0) (nd := a) (sc := b) (b := true) (i := j + 1) (l := tfl (nP t 0)) hG (by have h7 := nk0.len; unfold pnd at h7; omega) nk0.nx.1 nk0.nx.2 ?_
    show pm_Wp none (d + 2) 204 96 [some (.ref 56), some (.int (zI q)), some (.int (zI i)), some (.int (zI (j : Int))), some (.int (zI (pN t j 2 : Int))), some (.int (zI ((j : Int) + 1))), some (.int (zI 0)), some (.int (zI 1))] [.int (zI (((j + 1 + pnd (nX t) : Nat) : Int)))] (zM N, Rf, K, L, n, s0) Q
    refine wp_goto (t := 101) d204_96 (by decide) ?_
    refine wp_istore d204_101 (Nat.le_of_ble_eq_true rfl) rfl ?_
    refine wz_iinc d204_103 rfl rfl ?_
    refine wp_goto (t := 30) d204_106 (by decide) ?_
    refine wp_iload d204_30 rfl ?_
    refine wz_iconst d204_32 ?_
    refine wz_icmp_ge (t := 109) d204_33 (by decide) ⟨by omega, by omega⟩ ⟨by omega, by omega⟩ (fun hb => absurd hb (by omega)) (fun _ => ?_)
    refine wp_aload_n d204_36 rfl ?_
    refine wp_getR (q := 60) d204_37 rfl (hG.o (by decide) rfl) (by decide) (hG.r (by decide +kernel)) (by decide) ?_
    refine wp_iload_n d204_40 rfl ?_
    refine wz_iald (z := 128) (v := (nMk t : Int)) d204_41 (hG.a (by decide) rfl rfl) (by omega) (by omega) (by decide) (a60) ?_
    refine wp_iload d204_42 rfl ?_
    refine wz_ishrq (q := 2) d204_44 (by omega) (by omega) (by omega) (by omega) (by decide) ?_
    refine wz_iconst d204_45 ?_
    refine wz_and1 d204_46 (by first | omega | exact Int.natCast_nonneg _) ?_
    refine wz_iconst d204_47 ?_
    refine wz_icmp_ne (t := 55) d204_48 (by decide) ⟨by omega, by omega⟩ ⟨by omega, by omega⟩ (fun hz => ?_) (fun hz => ?_)
    · skip
      have bz1 : ¬ bit (nMk t) 1 = true := fun e => hz (bb1.mp e)
      have pz1 := nv.nil hk (g := 1) (by omega) bz1
      rw [y1] at pz1
      refine wz_iconst d204_55 ?_
      refine wp_istore d204_56 (Nat.le_of_ble_eq_true rfl) rfl ?_
      refine wp_iload d204_58 rfl ?_
      refine wz_if_eq (t := 85) d204_60 (by decide) ⟨by omega, by omega⟩ (fun _ => ?_) (fun hb => absurd (by omega) hb)
      refine wp_iload d204_85 rfl ?_
      refine wz_if_eq (t := 99) d204_87 (by decide) ⟨by omega, by omega⟩ (fun _ => ?_) (fun hb => absurd (by omega) hb)
      refine wp_iload d204_99 rfl ?_
      refine wp_istore d204_101 (Nat.le_of_ble_eq_true rfl) rfl ?_
      refine wz_iinc d204_103 rfl rfl ?_
      refine wp_goto (t := 30) d204_106 (by decide) ?_
      refine wp_iload d204_30 rfl ?_
      refine wz_iconst d204_32 ?_
      refine wz_icmp_ge (t := 109) d204_33 (by decide) ⟨by omega, by omega⟩ ⟨by omega, by omega⟩ (fun hb => absurd hb (by omega)) (fun _ => ?_)
      refine wp_aload_n d204_36 rfl ?_
      refine wp_getR (q := 60) d204_37 rfl (hG.o (by decide) rfl) (by decide) (hG.r (by decide +kernel)) (by decide) ?_
      refine wp_iload_n d204_40 rfl ?_
      refine wz_iald (z := 128) (v := (nMk t : Int)) d204_41 (hG.a (by decide) rfl rfl) (by omega) (by omega) (by decide) (a60) ?_
      refine wp_iload d204_42 rfl ?_
      refine wz_ishrq (q := 4) d204_44 (by omega) (by omega) (by omega) (by omega) (by decide) ?_
      refine wz_iconst d204_45 ?_
      refine wz_and1 d204_46 (by first | omega | exact Int.natCast_nonneg _) ?_
      refine wz_iconst d204_47 ?_
      refine wz_icmp_ne (t := 55) d204_48 (by decide) ⟨by omega, by omega⟩ ⟨by omega, by omega⟩ (fun hb => absurd (by omega) hb) (fun _ => ?_)
      have bk2 : bit (nMk t) 2 = true := hb
      have pk2 := p1 2 (by omega) bk2
      rw [y2] at pk2
      refine wz_iconst d204_51 ?_
      refine wp_goto (t := 56) d204_52 (by decide) ?_
      refine wp_istore d204_56 (Nat.le_of_ble_eq_true rfl) rfl ?_
      refine wp_iload d204_58 rfl ?_
      refine wz_if_eq (t := 85) d204_60 (by decide) ⟨by omega, by omega⟩ (fun hb => absurd hb (by omega)) (fun _ => ?_)
      refine wp_iload d204_63 rfl ?_
      refine wp_iload d204_65 rfl ?_
      refine wz_icmp_ne (t := 85) d204_67 (by decide) ⟨by omega, by omega⟩ ⟨by omega, by omega⟩ (fun hb => absurd (by omega) hb) (fun _ => ?_)
      refine wp_aload_n d204_70 rfl ?_
      refine wp_getR (q := 93) d204_71 rfl (hG.o (by decide) rfl) (by decide) (hG.r (by decide +kernel)) (by decide) ?_
      refine wz_iconst d204_74 ?_
      refine wp_iload_n d204_75 rfl ?_
      refine wz_imul d204_76 ?_
      refine wp_iload d204_77 rfl ?_
      refine wz_iadd d204_79 ?_
      refine wp_aload_n d204_80 rfl ?_
      refine wz_getI (v := res) d204_81 rfl (hG.o (by decide) rfl) (by decide) (e48) ?_
      refine wz_iast (z := 12000) d204_84 (hG.a (by decide) rfl rfl) (by omega) (by omega) (by decide) ?_
      refine wp_iload d204_85 rfl ?_
      refine wz_if_eq (t := 99) d204_87 (by decide) ⟨by omega, by omega⟩ (fun hb => absurd hb (by omega)) (fun _ => ?_)
      refine wp_aload_n d204_90 rfl ?_
      refine wp_iload d204_91 rfl ?_
      refine wp_virt (as := [.int (zI (((j + 1 + pnd (nX t) : Nat) : Int)))]) (rest := []) d204_93 rfl rfl rfl (hG.o (by decide) rfl) rfl rfl (Nat.le_of_ble_eq_true rfl) ?_
      have nk2 := nv1.part hk (g := 2) (by omega) bk2
      have ek2 : pN t j 2 = j + 1 + pnd (nX t) := by omega
      rw [ek2] at nk2
      refine m_behind (lo := 0) (nd := a) (sc := b) (b := true) (i := j + 1 + pnd (nX t)) (l := tfl (nP t 2)) hG (by have h7 := nk2.len; unfold pnd at h7; omega) nk2.nx.1 nk2.nx.2 ?_
      show pm_Wp none (d + 2) 204 96 [some (.ref 56), some (.int (zI q)), some (.int (zI i)), some (.int (zI (j : Int))), some (.int (zI (pN t j 2 : Int))), some (.int (zI (((j + 1 + pnd (nX t) : Nat) : Int)))), some (.int (zI 2)), some (.int (zI 1))] [.int (zI (((j + 1 + pnd (nX t) + pnd (nZ t) : Nat) : Int)))] (zM (mset N 93 (3 * i + 2) res), Rf, K, L, n, s0) Q
      refine wp_goto (t := 101) d204_96 (by decide) ?_
      refine wp_istore d204_101 (Nat.le_of_ble_eq_true rfl) rfl ?_
      refine wz_iinc d204_103 rfl rfl ?_
      refine wp_goto (t := 30) d204_106 (by decide) ?_
      refine wp_iload d204_30 rfl ?_
      refine wz_iconst d204_32 ?_
      refine wz_icmp_ge (t := 109) d204_33 (by decide) ⟨by omega, by omega⟩ ⟨by omega, by omega⟩ (fun _ => ?_) (fun hb => absurd (by omega) hb)
      exact hQ _ _
    · skip
      have bk1 : bit (nMk t) 1 = true := bb1.mpr (by omega)
      have pk1 := p1 1 (by omega) bk1
      rw [y1] at pk1
      refine wz_iconst d204_51 ?_
      refine wp_goto (t := 56) d204_52 (by decide) ?_
      refine wp_istore d204_56 (Nat.le_of_ble_eq_true rfl) rfl ?_
      refine wp_iload d204_58 rfl ?_
      refine wz_if_eq (t := 85) d204_60 (by decide) ⟨by omega, by omega⟩ (fun hb => absurd hb (by omega)) (fun _ => ?_)
      refine wp_iload d204_63 rfl ?_
      refine wp_iload d204_65 rfl ?_
      refine wz_icmp_ne (t := 85) d204_67 (by decide) ⟨by omega, by omega⟩ ⟨by omega, by omega⟩ (fun _ => ?_) (fun hb => absurd hb (by omega))
      refine wp_iload d204_85 rfl ?_
      refine wz_if_eq (t := 99) d204_87 (by decide) ⟨by omega, by omega⟩ (fun hb => absurd hb (by omega)) (fun _ => ?_)
      refine wp_aload_n d204_90 rfl ?_
      refine wp_iload d204_91 rfl ?_
      refine wp_virt (as := [.int (zI (((j + 1 + pnd (nX t) : Nat) : Int)))]) (rest := []) d204_93 rfl rfl rfl (hG.o (by decide) rfl) rfl rfl (Nat.le_of_ble_eq_true rfl) ?_
      have nk1 := nv.part hk (g := 1) (by omega) bk1
      have ek1 : pN t j 1 = j + 1 + pnd (nX t) := by omega
      rw [ek1] at nk1
      refine m_behind (lo := 0) (nd := a) (sc := b) (b := true) (i := j + 1 + pnd (nX t)) (l := tfl (nP t 1)) hG (by have h7 := nk1.len; unfold pnd at h7; omega) nk1.nx.1 nk1.nx.2 ?_
      show pm_Wp none (d + 2) 204 96 [some (.ref 56), some (.int (zI q)), some (.int (zI i)), some (.int (zI (j : Int))), some (.int (zI (pN t j 2 : Int))), some (.int (zI (((j + 1 + pnd (nX t) : Nat) : Int)))), some (.int (zI 1)), some (.int (zI 1))] [.int (zI (((j + 1 + pnd (nX t) + pnd (nY t) : Nat) : Int)))] (zM N, Rf, K, L, n, s0) Q
      refine wp_goto (t := 101) d204_96 (by decide) ?_
      refine wp_istore d204_101 (Nat.le_of_ble_eq_true rfl) rfl ?_
      refine wz_iinc d204_103 rfl rfl ?_
      refine wp_goto (t := 30) d204_106 (by decide) ?_
      refine wp_iload d204_30 rfl ?_
      refine wz_iconst d204_32 ?_
      refine wz_icmp_ge (t := 109) d204_33 (by decide) ⟨by omega, by omega⟩ ⟨by omega, by omega⟩ (fun hb => absurd hb (by omega)) (fun _ => ?_)
      refine wp_aload_n d204_36 rfl ?_
      refine wp_getR (q := 60) d204_37 rfl (hG.o (by decide) rfl) (by decide) (hG.r (by decide +kernel)) (by decide) ?_
      refine wp_iload_n d204_40 rfl ?_
      refine wz_iald (z := 128) (v := (nMk t : Int)) d204_41 (hG.a (by decide) rfl rfl) (by omega) (by omega) (by decide) (a60) ?_
      refine wp_iload d204_42 rfl ?_
      refine wz_ishrq (q := 4) d204_44 (by omega) (by omega) (by omega) (by omega) (by decide) ?_
      refine wz_iconst d204_45 ?_
      refine wz_and1 d204_46 (by first | omega | exact Int.natCast_nonneg _) ?_
      refine wz_iconst d204_47 ?_
      refine wz_icmp_ne (t := 55) d204_48 (by decide) ⟨by omega, by omega⟩ ⟨by omega, by omega⟩ (fun hb => absurd (by omega) hb) (fun _ => ?_)
      have bk2 : bit (nMk t) 2 = true := hb
      have pk2 := p1 2 (by omega) bk2
      rw [y2] at pk2
      refine wz_iconst d204_51 ?_
      refine wp_goto (t := 56) d204_52 (by decide) ?_
      refine wp_istore d204_56 (Nat.le_of_ble_eq_true rfl) rfl ?_
      refine wp_iload d204_58 rfl ?_
      refine wz_if_eq (t := 85) d204_60 (by decide) ⟨by omega, by omega⟩ (fun hb => absurd hb (by omega)) (fun _ => ?_)
      refine wp_iload d204_63 rfl ?_
      refine wp_iload d204_65 rfl ?_
      refine wz_icmp_ne (t := 85) d204_67 (by decide) ⟨by omega, by omega⟩ ⟨by omega, by omega⟩ (fun hb => absurd (by omega) hb) (fun _ => ?_)
      refine wp_aload_n d204_70 rfl ?_
      refine wp_getR (q := 93) d204_71 rfl (hG.o (by decide) rfl) (by decide) (hG.r (by decide +kernel)) (by decide) ?_
      refine wz_iconst d204_74 ?_
      refine wp_iload_n d204_75 rfl ?_
      refine wz_imul d204_76 ?_
      refine wp_iload d204_77 rfl ?_
      refine wz_iadd d204_79 ?_
      refine wp_aload_n d204_80 rfl ?_
      refine wz_getI (v := res) d204_81 rfl (hG.o (by decide) rfl) (by decide) (e48) ?_
      refine wz_iast (z := 12000) d204_84 (hG.a (by decide) rfl rfl) (by omega) (by omega) (by decide) ?_
      refine wp_iload d204_85 rfl ?_
      refine wz_if_eq (t := 99) d204_87 (by decide) ⟨by omega, by omega⟩ (fun hb => absurd hb (by omega)) (fun _ => ?_)
      refine wp_aload_n d204_90 rfl ?_
      refine wp_iload d204_91 rfl ?_
      refine wp_virt (as := [.int (zI (((j + 1 + pnd (nX t) + pnd (nY t) : Nat) : Int)))]) (rest := []) d204_93 rfl rfl rfl (hG.o (by decide) rfl) rfl rfl (Nat.le_of_ble_eq_true rfl) ?_
      have nk2 := nv1.part hk (g := 2) (by omega) bk2
      have ek2 : pN t j 2 = j + 1 + pnd (nX t) + pnd (nY t) := by omega
      rw [ek2] at nk2
      refine m_behind (lo := 0) (nd := a) (sc := b) (b := true) (i := j + 1 + pnd (nX t) + pnd (nY t)) (l := tfl (nP t 2)) hG (by have h7 := nk2.len; unfold pnd at h7; omega) nk2.nx.1 nk2.nx.2 ?_
      show pm_Wp none (d + 2) 204 96 [some (.ref 56), some (.int (zI q)), some (.int (zI i)), some (.int (zI (j : Int))), some (.int (zI (pN t j 2 : Int))), some (.int (zI (((j + 1 + pnd (nX t) + pnd (nY t) : Nat) : Int)))), some (.int (zI 2)), some (.int (zI 1))] [.int (zI (((j + 1 + pnd (nX t) + pnd (nY t) + pnd (nZ t) : Nat) : Int)))] (zM (mset N 93 (3 * i + 2) res), Rf, K, L, n, s0) Q
      refine wp_goto (t := 101) d204_96 (by decide) ?_
      refine wp_istore d204_101 (Nat.le_of_ble_eq_true rfl) rfl ?_
      refine wz_iinc d204_103 rfl rfl ?_
      refine wp_goto (t := 30) d204_106 (by decide) ?_
      refine wp_iload d204_30 rfl ?_
      refine wz_iconst d204_32 ?_
      refine wz_icmp_ge (t := 109) d204_33 (by decide) ⟨by omega, by omega⟩ ⟨by omega, by omega⟩ (fun _ => ?_) (fun hb => absurd (by omega) hb)
      exact hQ _ _
end PmG14
